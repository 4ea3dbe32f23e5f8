theorem d_lo_bitCount_0 : decode b_lo_bitCount 0 = .ok (.lload_n 0, 1) := by decide +kernel
theorem d_lo_bitCount_1 : decode b_lo_bitCount 1 = .ok (.lload_n 0, 1) := by decide +kernel
theorem d_lo_bitCount_2 : decode b_lo_bitCount 2 = .ok (.iconst 1, 1) := by decide +kernel
theorem d_lo_bitCount_3 : decode b_lo_bitCount 3 = .ok (.lushr, 1) := by decide +kernel
theorem d_lo_bitCount_4 : decode b_lo_bitCount 4 = .ok (.ldc2_w 314, 3) := by decide +kernel
theorem d_lo_bitCount_7 : decode b_lo_bitCount 7 = .ok (.land, 1) := by decide +kernel
theorem d_lo_bitCount_8 : decode b_lo_bitCount 8 = .ok (.lsub, 1) := by decide +kernel
theorem d_lo_bitCount_9 : decode b_lo_bitCount 9 = .ok (.lstore_n 0, 1) := by decide +kernel
theorem d_lo_bitCount_10 : decode b_lo_bitCount 10 = .ok (.lload_n 0, 1) := by decide +kernel
theorem d_lo_bitCount_11 : decode b_lo_bitCount 11 = .ok (.ldc2_w 316, 3) := by decide +kernel
theorem d_lo_bitCount_14 : decode b_lo_bitCount 14 = .ok (.land, 1) := by decide +kernel
theorem d_lo_bitCount_15 : decode b_lo_bitCount 15 = .ok (.lload_n 0, 1) := by decide +kernel
theorem d_lo_bitCount_16 : decode b_lo_bitCount 16 = .ok (.iconst 2, 1) := by decide +kernel
theorem d_lo_bitCount_17 : decode b_lo_bitCount 17 = .ok (.lushr, 1) := by decide +kernel
theorem d_lo_bitCount_18 : decode b_lo_bitCount 18 = .ok (.ldc2_w 316, 3) := by decide +kernel
theorem d_lo_bitCount_21 : decode b_lo_bitCount 21 = .ok (.land, 1) := by decide +kernel
theorem d_lo_bitCount_22 : decode b_lo_bitCount 22 = .ok (.ladd, 1) := by decide +kernel
theorem d_lo_bitCount_23 : decode b_lo_bitCount 23 = .ok (.lstore_n 0, 1) := by decide +kernel
theorem d_lo_bitCount_24 : decode b_lo_bitCount 24 = .ok (.lload_n 0, 1) := by decide +kernel
theorem d_lo_bitCount_25 : decode b_lo_bitCount 25 = .ok (.lload_n 0, 1) := by decide +kernel
theorem d_lo_bitCount_26 : decode b_lo_bitCount 26 = .ok (.iconst 4, 1) := by decide +kernel
theorem d_lo_bitCount_27 : decode b_lo_bitCount 27 = .ok (.lushr, 1) := by decide +kernel
theorem d_lo_bitCount_28 : decode b_lo_bitCount 28 = .ok (.ladd, 1) := by decide +kernel
theorem d_lo_bitCount_29 : decode b_lo_bitCount 29 = .ok (.ldc2_w 318, 3) := by decide +kernel
theorem d_lo_bitCount_32 : decode b_lo_bitCount 32 = .ok (.land, 1) := by decide +kernel
theorem d_lo_bitCount_33 : decode b_lo_bitCount 33 = .ok (.lstore_n 0, 1) := by decide +kernel
theorem d_lo_bitCount_34 : decode b_lo_bitCount 34 = .ok (.lload_n 0, 1) := by decide +kernel
theorem d_lo_bitCount_35 : decode b_lo_bitCount 35 = .ok (.lload_n 0, 1) := by decide +kernel
theorem d_lo_bitCount_36 : decode b_lo_bitCount 36 = .ok (.bipush 8, 2) := by decide +kernel
theorem d_lo_bitCount_38 : decode b_lo_bitCount 38 = .ok (.lushr, 1) := by decide +kernel
theorem d_lo_bitCount_39 : decode b_lo_bitCount 39 = .ok (.ladd, 1) := by decide +kernel
theorem d_lo_bitCount_40 : decode b_lo_bitCount 40 = .ok (.lstore_n 0, 1) := by decide +kernel
theorem d_lo_bitCount_41 : decode b_lo_bitCount 41 = .ok (.lload_n 0, 1) := by decide +kernel
theorem d_lo_bitCount_42 : decode b_lo_bitCount 42 = .ok (.lload_n 0, 1) := by decide +kernel
theorem d_lo_bitCount_43 : decode b_lo_bitCount 43 = .ok (.bipush 16, 2) := by decide +kernel
theorem d_lo_bitCount_45 : decode b_lo_bitCount 45 = .ok (.lushr, 1) := by decide +kernel
theorem d_lo_bitCount_46 : decode b_lo_bitCount 46 = .ok (.ladd, 1) := by decide +kernel
theorem d_lo_bitCount_47 : decode b_lo_bitCount 47 = .ok (.lstore_n 0, 1) := by decide +kernel
theorem d_lo_bitCount_48 : decode b_lo_bitCount 48 = .ok (.lload_n 0, 1) := by decide +kernel
theorem d_lo_bitCount_49 : decode b_lo_bitCount 49 = .ok (.lload_n 0, 1) := by decide +kernel
theorem d_lo_bitCount_50 : decode b_lo_bitCount 50 = .ok (.bipush 32, 2) := by decide +kernel
theorem d_lo_bitCount_52 : decode b_lo_bitCount 52 = .ok (.lushr, 1) := by decide +kernel
theorem d_lo_bitCount_53 : decode b_lo_bitCount 53 = .ok (.ladd, 1) := by decide +kernel
theorem d_lo_bitCount_54 : decode b_lo_bitCount 54 = .ok (.lstore_n 0, 1) := by decide +kernel
theorem d_lo_bitCount_55 : decode b_lo_bitCount 55 = .ok (.lload_n 0, 1) := by decide +kernel
theorem d_lo_bitCount_56 : decode b_lo_bitCount 56 = .ok (.l2i, 1) := by decide +kernel
theorem d_lo_bitCount_57 : decode b_lo_bitCount 57 = .ok (.bipush 127, 2) := by decide +kernel
theorem d_lo_bitCount_59 : decode b_lo_bitCount 59 = .ok (.iand, 1) := by decide +kernel
theorem d_lo_bitCount_60 : decode b_lo_bitCount 60 = .ok (.ireturn, 1) := by decide +kernel
def f_lo_bitCount (zs : Int64) : Int32 := (((((((((zs - (((zs.toUInt64 >>> ((1 : Int32).toInt64.toUInt64 &&& Int64.toUInt64 63)).toInt64) &&& 6148914691236517205)) &&& 3689348814741910323) + ((((zs - (((zs.toUInt64 >>> ((1 : Int32).toInt64.toUInt64 &&& Int64.toUInt64 63)).toInt64) &&& 6148914691236517205)).toUInt64 >>> ((2 : Int32).toInt64.toUInt64 &&& Int64.toUInt64 63)).toInt64) &&& 3689348814741910323)) + (((((zs - (((zs.toUInt64 >>> ((1 : Int32).toInt64.toUInt64 &&& Int64.toUInt64 63)).toInt64) &&& 6148914691236517205)) &&& 3689348814741910323) + ((((zs - (((zs.toUInt64 >>> ((1 : Int32).toInt64.toUInt64 &&& Int64.toUInt64 63)).toInt64) &&& 6148914691236517205)).toUInt64 >>> ((2 : Int32).toInt64.toUInt64 &&& Int64.toUInt64 63)).toInt64) &&& 3689348814741910323)).toUInt64 >>> ((4 : Int32).toInt64.toUInt64 &&& Int64.toUInt64 63)).toInt64)) &&& 1085102592571150095) + (((((((zs - (((zs.toUInt64 >>> ((1 : Int32).toInt64.toUInt64 &&& Int64.toUInt64 63)).toInt64) &&& 6148914691236517205)) &&& 3689348814741910323) + ((((zs - (((zs.toUInt64 >>> ((1 : Int32).toInt64.toUInt64 &&& Int64.toUInt64 63)).toInt64) &&& 6148914691236517205)).toUInt64 >>> ((2 : Int32).toInt64.toUInt64 &&& Int64.toUInt64 63)).toInt64) &&& 3689348814741910323)) + (((((zs - (((zs.toUInt64 >>> ((1 : Int32).toInt64.toUInt64 &&& Int64.toUInt64 63)).toInt64) &&& 6148914691236517205)) &&& 3689348814741910323) + ((((zs - (((zs.toUInt64 >>> ((1 : Int32).toInt64.toUInt64 &&& Int64.toUInt64 63)).toInt64) &&& 6148914691236517205)).toUInt64 >>> ((2 : Int32).toInt64.toUInt64 &&& Int64.toUInt64 63)).toInt64) &&& 3689348814741910323)).toUInt64 >>> ((4 : Int32).toInt64.toUInt64 &&& Int64.toUInt64 63)).toInt64)) &&& 1085102592571150095).toUInt64 >>> ((8 : Int32).toInt64.toUInt64 &&& Int64.toUInt64 63)).toInt64)) + ((((((((zs - (((zs.toUInt64 >>> ((1 : Int32).toInt64.toUInt64 &&& Int64.toUInt64 63)).toInt64) &&& 6148914691236517205)) &&& 3689348814741910323) + ((((zs - (((zs.toUInt64 >>> ((1 : Int32).toInt64.toUInt64 &&& Int64.toUInt64 63)).toInt64) &&& 6148914691236517205)).toUInt64 >>> ((2 : Int32).toInt64.toUInt64 &&& Int64.toUInt64 63)).toInt64) &&& 3689348814741910323)) + (((((zs - (((zs.toUInt64 >>> ((1 : Int32).toInt64.toUInt64 &&& Int64.toUInt64 63)).toInt64) &&& 6148914691236517205)) &&& 3689348814741910323) + ((((zs - (((zs.toUInt64 >>> ((1 : Int32).toInt64.toUInt64 &&& Int64.toUInt64 63)).toInt64) &&& 6148914691236517205)).toUInt64 >>> ((2 : Int32).toInt64.toUInt64 &&& Int64.toUInt64 63)).toInt64) &&& 3689348814741910323)).toUInt64 >>> ((4 : Int32).toInt64.toUInt64 &&& Int64.toUInt64 63)).toInt64)) &&& 1085102592571150095) + (((((((zs - (((zs.toUInt64 >>> ((1 : Int32).toInt64.toUInt64 &&& Int64.toUInt64 63)).toInt64) &&& 6148914691236517205)) &&& 3689348814741910323) + ((((zs - (((zs.toUInt64 >>> ((1 : Int32).toInt64.toUInt64 &&& Int64.toUInt64 63)).toInt64) &&& 6148914691236517205)).toUInt64 >>> ((2 : Int32).toInt64.toUInt64 &&& Int64.toUInt64 63)).toInt64) &&& 3689348814741910323)) + (((((zs - (((zs.toUInt64 >>> ((1 : Int32).toInt64.toUInt64 &&& Int64.toUInt64 63)).toInt64) &&& 6148914691236517205)) &&& 3689348814741910323) + ((((zs - (((zs.toUInt64 >>> ((1 : Int32).toInt64.toUInt64 &&& Int64.toUInt64 63)).toInt64) &&& 6148914691236517205)).toUInt64 >>> ((2 : Int32).toInt64.toUInt64 &&& Int64.toUInt64 63)).toInt64) &&& 3689348814741910323)).toUInt64 >>> ((4 : Int32).toInt64.toUInt64 &&& Int64.toUInt64 63)).toInt64)) &&& 1085102592571150095).toUInt64 >>> ((8 : Int32).toInt64.toUInt64 &&& Int64.toUInt64 63)).toInt64)).toUInt64 >>> ((16 : Int32).toInt64.toUInt64 &&& Int64.toUInt64 63)).toInt64)) + (((((((((zs - (((zs.toUInt64 >>> ((1 : Int32).toInt64.toUInt64 &&& Int64.toUInt64 63)).toInt64) &&& 6148914691236517205)) &&& 3689348814741910323) + ((((zs - (((zs.toUInt64 >>> ((1 : Int32).toInt64.toUInt64 &&& Int64.toUInt64 63)).toInt64) &&& 6148914691236517205)).toUInt64 >>> ((2 : Int32).toInt64.toUInt64 &&& Int64.toUInt64 63)).toInt64) &&& 3689348814741910323)) + (((((zs - (((zs.toUInt64 >>> ((1 : Int32).toInt64.toUInt64 &&& Int64.toUInt64 63)).toInt64) &&& 6148914691236517205)) &&& 3689348814741910323) + ((((zs - (((zs.toUInt64 >>> ((1 : Int32).toInt64.toUInt64 &&& Int64.toUInt64 63)).toInt64) &&& 6148914691236517205)).toUInt64 >>> ((2 : Int32).toInt64.toUInt64 &&& Int64.toUInt64 63)).toInt64) &&& 3689348814741910323)).toUInt64 >>> ((4 : Int32).toInt64.toUInt64 &&& Int64.toUInt64 63)).toInt64)) &&& 1085102592571150095) + (((((((zs - (((zs.toUInt64 >>> ((1 : Int32).toInt64.toUInt64 &&& Int64.toUInt64 63)).toInt64) &&& 6148914691236517205)) &&& 3689348814741910323) + ((((zs - (((zs.toUInt64 >>> ((1 : Int32).toInt64.toUInt64 &&& Int64.toUInt64 63)).toInt64) &&& 6148914691236517205)).toUInt64 >>> ((2 : Int32).toInt64.toUInt64 &&& Int64.toUInt64 63)).toInt64) &&& 3689348814741910323)) + (((((zs - (((zs.toUInt64 >>> ((1 : Int32).toInt64.toUInt64 &&& Int64.toUInt64 63)).toInt64) &&& 6148914691236517205)) &&& 3689348814741910323) + ((((zs - (((zs.toUInt64 >>> ((1 : Int32).toInt64.toUInt64 &&& Int64.toUInt64 63)).toInt64) &&& 6148914691236517205)).toUInt64 >>> ((2 : Int32).toInt64.toUInt64 &&& Int64.toUInt64 63)).toInt64) &&& 3689348814741910323)).toUInt64 >>> ((4 : Int32).toInt64.toUInt64 &&& Int64.toUInt64 63)).toInt64)) &&& 1085102592571150095).toUInt64 >>> ((8 : Int32).toInt64.toUInt64 &&& Int64.toUInt64 63)).toInt64)) + ((((((((zs - (((zs.toUInt64 >>> ((1 : Int32).toInt64.toUInt64 &&& Int64.toUInt64 63)).toInt64) &&& 6148914691236517205)) &&& 3689348814741910323) + ((((zs - (((zs.toUInt64 >>> ((1 : Int32).toInt64.toUInt64 &&& Int64.toUInt64 63)).toInt64) &&& 6148914691236517205)).toUInt64 >>> ((2 : Int32).toInt64.toUInt64 &&& Int64.toUInt64 63)).toInt64) &&& 3689348814741910323)) + (((((zs - (((zs.toUInt64 >>> ((1 : Int32).toInt64.toUInt64 &&& Int64.toUInt64 63)).toInt64) &&& 6148914691236517205)) &&& 3689348814741910323) + ((((zs - (((zs.toUInt64 >>> ((1 : Int32).toInt64.toUInt64 &&& Int64.toUInt64 63)).toInt64) &&& 6148914691236517205)).toUInt64 >>> ((2 : Int32).toInt64.toUInt64 &&& Int64.toUInt64 63)).toInt64) &&& 3689348814741910323)).toUInt64 >>> ((4 : Int32).toInt64.toUInt64 &&& Int64.toUInt64 63)).toInt64)) &&& 1085102592571150095) + (((((((zs - (((zs.toUInt64 >>> ((1 : Int32).toInt64.toUInt64 &&& Int64.toUInt64 63)).toInt64) &&& 6148914691236517205)) &&& 3689348814741910323) + ((((zs - (((zs.toUInt64 >>> ((1 : Int32).toInt64.toUInt64 &&& Int64.toUInt64 63)).toInt64) &&& 6148914691236517205)).toUInt64 >>> ((2 : Int32).toInt64.toUInt64 &&& Int64.toUInt64 63)).toInt64) &&& 3689348814741910323)) + (((((zs - (((zs.toUInt64 >>> ((1 : Int32).toInt64.toUInt64 &&& Int64.toUInt64 63)).toInt64) &&& 6148914691236517205)) &&& 3689348814741910323) + ((((zs - (((zs.toUInt64 >>> ((1 : Int32).toInt64.toUInt64 &&& Int64.toUInt64 63)).toInt64) &&& 6148914691236517205)).toUInt64 >>> ((2 : Int32).toInt64.toUInt64 &&& Int64.toUInt64 63)).toInt64) &&& 3689348814741910323)).toUInt64 >>> ((4 : Int32).toInt64.toUInt64 &&& Int64.toUInt64 63)).toInt64)) &&& 1085102592571150095).toUInt64 >>> ((8 : Int32).toInt64.toUInt64 &&& Int64.toUInt64 63)).toInt64)).toUInt64 >>> ((16 : Int32).toInt64.toUInt64 &&& Int64.toUInt64 63)).toInt64)).toUInt64 >>> ((32 : Int32).toInt64.toUInt64 &&& Int64.toUInt64 63)).toInt64)).toInt32) &&& 127
set_option maxHeartbeats 4000000 in
set_option maxRecDepth 100000 in
theorem c_lo_bitCount (l : Launch) (D : va_G) (cA : Nat → ClassId) (zs : Int64) : Met l y_lo_bitCount (.code y_lo_bitCount b_lo_bitCount 2 (some .int) :: tb) (rmd 0) (Pro D cA [.long zs] (fun _ => True)) (Qro (.int (f_lo_bitCount zs))) 0 0 nof := by
  refine ro_in (by decide) (Nat.le_of_ble_eq_true rfl) (fun p e s m below meth c ls FX hnm hK hP hl => ?_)
  have hl : lv_has ls 2 [(0, .long zs)] := hl
  generalize ([.long zs] : List Value).toArray = args at FX ⊢
  obtain ⟨hx, hb, hml, hown, hts, hr, hlk⟩ := id FX
  refine lv_lload_n hx hb d_lo_bitCount_0 rfl (lv_at hl 0 rfl) ?_
  refine lv_lload_n hx hb d_lo_bitCount_1 rfl (lv_at hl 0 rfl) ?_
  refine lv_iconst (v := 1) hx hb d_lo_bitCount_2 (by decide) ?_
  refine lv_lushr (v := (zs.toUInt64 >>> ((1 : Int32).toInt64.toUInt64 &&& Int64.toUInt64 63)).toInt64) hx hb d_lo_bitCount_3 rfl ?_
  refine lv_ldc2 (v := 6148914691236517205) hx hb hown (hts _ kl_lo_314) d_lo_bitCount_4 ?_
  refine lv_land hx hb d_lo_bitCount_7 ?_
  refine lv_lsub hx hb d_lo_bitCount_8 ?_
  refine lv_lstore_n (lv' := [(0, .long (zs - (((zs.toUInt64 >>> ((1 : Int32).toInt64.toUInt64 &&& Int64.toUInt64 63)).toInt64) &&& 6148914691236517205)))]) hx hb d_lo_bitCount_9 rfl hl (by decide) rfl (fun ls hl => ?_)
  refine lv_lload_n hx hb d_lo_bitCount_10 rfl (lv_at hl 0 rfl) ?_
  refine lv_ldc2 (v := 3689348814741910323) hx hb hown (hts _ kl_lo_316) d_lo_bitCount_11 ?_
  refine lv_land hx hb d_lo_bitCount_14 ?_
  refine lv_lload_n hx hb d_lo_bitCount_15 rfl (lv_at hl 0 rfl) ?_
  refine lv_iconst (v := 2) hx hb d_lo_bitCount_16 (by decide) ?_
  refine lv_lushr (v := ((zs - (((zs.toUInt64 >>> ((1 : Int32).toInt64.toUInt64 &&& Int64.toUInt64 63)).toInt64) &&& 6148914691236517205)).toUInt64 >>> ((2 : Int32).toInt64.toUInt64 &&& Int64.toUInt64 63)).toInt64) hx hb d_lo_bitCount_17 rfl ?_
  refine lv_ldc2 (v := 3689348814741910323) hx hb hown (hts _ kl_lo_316) d_lo_bitCount_18 ?_
  refine lv_land hx hb d_lo_bitCount_21 ?_
  refine lv_ladd hx hb d_lo_bitCount_22 ?_
  refine lv_lstore_n (lv' := [(0, .long (((zs - (((zs.toUInt64 >>> ((1 : Int32).toInt64.toUInt64 &&& Int64.toUInt64 63)).toInt64) &&& 6148914691236517205)) &&& 3689348814741910323) + ((((zs - (((zs.toUInt64 >>> ((1 : Int32).toInt64.toUInt64 &&& Int64.toUInt64 63)).toInt64) &&& 6148914691236517205)).toUInt64 >>> ((2 : Int32).toInt64.toUInt64 &&& Int64.toUInt64 63)).toInt64) &&& 3689348814741910323)))]) hx hb d_lo_bitCount_23 rfl hl (by decide) rfl (fun ls hl => ?_)
  refine lv_lload_n hx hb d_lo_bitCount_24 rfl (lv_at hl 0 rfl) ?_
  refine lv_lload_n hx hb d_lo_bitCount_25 rfl (lv_at hl 0 rfl) ?_
  refine lv_iconst (v := 4) hx hb d_lo_bitCount_26 (by decide) ?_
  refine lv_lushr (v := ((((zs - (((zs.toUInt64 >>> ((1 : Int32).toInt64.toUInt64 &&& Int64.toUInt64 63)).toInt64) &&& 6148914691236517205)) &&& 3689348814741910323) + ((((zs - (((zs.toUInt64 >>> ((1 : Int32).toInt64.toUInt64 &&& Int64.toUInt64 63)).toInt64) &&& 6148914691236517205)).toUInt64 >>> ((2 : Int32).toInt64.toUInt64 &&& Int64.toUInt64 63)).toInt64) &&& 3689348814741910323)).toUInt64 >>> ((4 : Int32).toInt64.toUInt64 &&& Int64.toUInt64 63)).toInt64) hx hb d_lo_bitCount_27 rfl ?_
  refine lv_ladd hx hb d_lo_bitCount_28 ?_
  refine lv_ldc2 (v := 1085102592571150095) hx hb hown (hts _ kl_lo_318) d_lo_bitCount_29 ?_
  refine lv_land hx hb d_lo_bitCount_32 ?_
  refine lv_lstore_n (lv' := [(0, .long (((((zs - (((zs.toUInt64 >>> ((1 : Int32).toInt64.toUInt64 &&& Int64.toUInt64 63)).toInt64) &&& 6148914691236517205)) &&& 3689348814741910323) + ((((zs - (((zs.toUInt64 >>> ((1 : Int32).toInt64.toUInt64 &&& Int64.toUInt64 63)).toInt64) &&& 6148914691236517205)).toUInt64 >>> ((2 : Int32).toInt64.toUInt64 &&& Int64.toUInt64 63)).toInt64) &&& 3689348814741910323)) + (((((zs - (((zs.toUInt64 >>> ((1 : Int32).toInt64.toUInt64 &&& Int64.toUInt64 63)).toInt64) &&& 6148914691236517205)) &&& 3689348814741910323) + ((((zs - (((zs.toUInt64 >>> ((1 : Int32).toInt64.toUInt64 &&& Int64.toUInt64 63)).toInt64) &&& 6148914691236517205)).toUInt64 >>> ((2 : Int32).toInt64.toUInt64 &&& Int64.toUInt64 63)).toInt64) &&& 3689348814741910323)).toUInt64 >>> ((4 : Int32).toInt64.toUInt64 &&& Int64.toUInt64 63)).toInt64)) &&& 1085102592571150095))]) hx hb d_lo_bitCount_33 rfl hl (by decide) rfl (fun ls hl => ?_)
  refine lv_lload_n hx hb d_lo_bitCount_34 rfl (lv_at hl 0 rfl) ?_
  refine lv_lload_n hx hb d_lo_bitCount_35 rfl (lv_at hl 0 rfl) ?_
  refine lv_bipush (v := 8) hx hb d_lo_bitCount_36 (by decide) ?_
  refine lv_lushr (v := ((((((zs - (((zs.toUInt64 >>> ((1 : Int32).toInt64.toUInt64 &&& Int64.toUInt64 63)).toInt64) &&& 6148914691236517205)) &&& 3689348814741910323) + ((((zs - (((zs.toUInt64 >>> ((1 : Int32).toInt64.toUInt64 &&& Int64.toUInt64 63)).toInt64) &&& 6148914691236517205)).toUInt64 >>> ((2 : Int32).toInt64.toUInt64 &&& Int64.toUInt64 63)).toInt64) &&& 3689348814741910323)) + (((((zs - (((zs.toUInt64 >>> ((1 : Int32).toInt64.toUInt64 &&& Int64.toUInt64 63)).toInt64) &&& 6148914691236517205)) &&& 3689348814741910323) + ((((zs - (((zs.toUInt64 >>> ((1 : Int32).toInt64.toUInt64 &&& Int64.toUInt64 63)).toInt64) &&& 6148914691236517205)).toUInt64 >>> ((2 : Int32).toInt64.toUInt64 &&& Int64.toUInt64 63)).toInt64) &&& 3689348814741910323)).toUInt64 >>> ((4 : Int32).toInt64.toUInt64 &&& Int64.toUInt64 63)).toInt64)) &&& 1085102592571150095).toUInt64 >>> ((8 : Int32).toInt64.toUInt64 &&& Int64.toUInt64 63)).toInt64) hx hb d_lo_bitCount_38 rfl ?_
  refine lv_ladd hx hb d_lo_bitCount_39 ?_
  refine lv_lstore_n (lv' := [(0, .long ((((((zs - (((zs.toUInt64 >>> ((1 : Int32).toInt64.toUInt64 &&& Int64.toUInt64 63)).toInt64) &&& 6148914691236517205)) &&& 3689348814741910323) + ((((zs - (((zs.toUInt64 >>> ((1 : Int32).toInt64.toUInt64 &&& Int64.toUInt64 63)).toInt64) &&& 6148914691236517205)).toUInt64 >>> ((2 : Int32).toInt64.toUInt64 &&& Int64.toUInt64 63)).toInt64) &&& 3689348814741910323)) + (((((zs - (((zs.toUInt64 >>> ((1 : Int32).toInt64.toUInt64 &&& Int64.toUInt64 63)).toInt64) &&& 6148914691236517205)) &&& 3689348814741910323) + ((((zs - (((zs.toUInt64 >>> ((1 : Int32).toInt64.toUInt64 &&& Int64.toUInt64 63)).toInt64) &&& 6148914691236517205)).toUInt64 >>> ((2 : Int32).toInt64.toUInt64 &&& Int64.toUInt64 63)).toInt64) &&& 3689348814741910323)).toUInt64 >>> ((4 : Int32).toInt64.toUInt64 &&& Int64.toUInt64 63)).toInt64)) &&& 1085102592571150095) + (((((((zs - (((zs.toUInt64 >>> ((1 : Int32).toInt64.toUInt64 &&& Int64.toUInt64 63)).toInt64) &&& 6148914691236517205)) &&& 3689348814741910323) + ((((zs - (((zs.toUInt64 >>> ((1 : Int32).toInt64.toUInt64 &&& Int64.toUInt64 63)).toInt64) &&& 6148914691236517205)).toUInt64 >>> ((2 : Int32).toInt64.toUInt64 &&& Int64.toUInt64 63)).toInt64) &&& 3689348814741910323)) + (((((zs - (((zs.toUInt64 >>> ((1 : Int32).toInt64.toUInt64 &&& Int64.toUInt64 63)).toInt64) &&& 6148914691236517205)) &&& 3689348814741910323) + ((((zs - (((zs.toUInt64 >>> ((1 : Int32).toInt64.toUInt64 &&& Int64.toUInt64 63)).toInt64) &&& 6148914691236517205)).toUInt64 >>> ((2 : Int32).toInt64.toUInt64 &&& Int64.toUInt64 63)).toInt64) &&& 3689348814741910323)).toUInt64 >>> ((4 : Int32).toInt64.toUInt64 &&& Int64.toUInt64 63)).toInt64)) &&& 1085102592571150095).toUInt64 >>> ((8 : Int32).toInt64.toUInt64 &&& Int64.toUInt64 63)).toInt64)))]) hx hb d_lo_bitCount_40 rfl hl (by decide) rfl (fun ls hl => ?_)
  refine lv_lload_n hx hb d_lo_bitCount_41 rfl (lv_at hl 0 rfl) ?_
  refine lv_lload_n hx hb d_lo_bitCount_42 rfl (lv_at hl 0 rfl) ?_
  refine lv_bipush (v := 16) hx hb d_lo_bitCount_43 (by decide) ?_
  refine lv_lushr (v := (((((((zs - (((zs.toUInt64 >>> ((1 : Int32).toInt64.toUInt64 &&& Int64.toUInt64 63)).toInt64) &&& 6148914691236517205)) &&& 3689348814741910323) + ((((zs - (((zs.toUInt64 >>> ((1 : Int32).toInt64.toUInt64 &&& Int64.toUInt64 63)).toInt64) &&& 6148914691236517205)).toUInt64 >>> ((2 : Int32).toInt64.toUInt64 &&& Int64.toUInt64 63)).toInt64) &&& 3689348814741910323)) + (((((zs - (((zs.toUInt64 >>> ((1 : Int32).toInt64.toUInt64 &&& Int64.toUInt64 63)).toInt64) &&& 6148914691236517205)) &&& 3689348814741910323) + ((((zs - (((zs.toUInt64 >>> ((1 : Int32).toInt64.toUInt64 &&& Int64.toUInt64 63)).toInt64) &&& 6148914691236517205)).toUInt64 >>> ((2 : Int32).toInt64.toUInt64 &&& Int64.toUInt64 63)).toInt64) &&& 3689348814741910323)).toUInt64 >>> ((4 : Int32).toInt64.toUInt64 &&& Int64.toUInt64 63)).toInt64)) &&& 1085102592571150095) + (((((((zs - (((zs.toUInt64 >>> ((1 : Int32).toInt64.toUInt64 &&& Int64.toUInt64 63)).toInt64) &&& 6148914691236517205)) &&& 3689348814741910323) + ((((zs - (((zs.toUInt64 >>> ((1 : Int32).toInt64.toUInt64 &&& Int64.toUInt64 63)).toInt64) &&& 6148914691236517205)).toUInt64 >>> ((2 : Int32).toInt64.toUInt64 &&& Int64.toUInt64 63)).toInt64) &&& 3689348814741910323)) + (((((zs - (((zs.toUInt64 >>> ((1 : Int32).toInt64.toUInt64 &&& Int64.toUInt64 63)).toInt64) &&& 6148914691236517205)) &&& 3689348814741910323) + ((((zs - (((zs.toUInt64 >>> ((1 : Int32).toInt64.toUInt64 &&& Int64.toUInt64 63)).toInt64) &&& 6148914691236517205)).toUInt64 >>> ((2 : Int32).toInt64.toUInt64 &&& Int64.toUInt64 63)).toInt64) &&& 3689348814741910323)).toUInt64 >>> ((4 : Int32).toInt64.toUInt64 &&& Int64.toUInt64 63)).toInt64)) &&& 1085102592571150095).toUInt64 >>> ((8 : Int32).toInt64.toUInt64 &&& Int64.toUInt64 63)).toInt64)).toUInt64 >>> ((16 : Int32).toInt64.toUInt64 &&& Int64.toUInt64 63)).toInt64) hx hb d_lo_bitCount_45 rfl ?_
  refine lv_ladd hx hb d_lo_bitCount_46 ?_
  refine lv_lstore_n (lv' := [(0, .long (((((((zs - (((zs.toUInt64 >>> ((1 : Int32).toInt64.toUInt64 &&& Int64.toUInt64 63)).toInt64) &&& 6148914691236517205)) &&& 3689348814741910323) + ((((zs - (((zs.toUInt64 >>> ((1 : Int32).toInt64.toUInt64 &&& Int64.toUInt64 63)).toInt64) &&& 6148914691236517205)).toUInt64 >>> ((2 : Int32).toInt64.toUInt64 &&& Int64.toUInt64 63)).toInt64) &&& 3689348814741910323)) + (((((zs - (((zs.toUInt64 >>> ((1 : Int32).toInt64.toUInt64 &&& Int64.toUInt64 63)).toInt64) &&& 6148914691236517205)) &&& 3689348814741910323) + ((((zs - (((zs.toUInt64 >>> ((1 : Int32).toInt64.toUInt64 &&& Int64.toUInt64 63)).toInt64) &&& 6148914691236517205)).toUInt64 >>> ((2 : Int32).toInt64.toUInt64 &&& Int64.toUInt64 63)).toInt64) &&& 3689348814741910323)).toUInt64 >>> ((4 : Int32).toInt64.toUInt64 &&& Int64.toUInt64 63)).toInt64)) &&& 1085102592571150095) + (((((((zs - (((zs.toUInt64 >>> ((1 : Int32).toInt64.toUInt64 &&& Int64.toUInt64 63)).toInt64) &&& 6148914691236517205)) &&& 3689348814741910323) + ((((zs - (((zs.toUInt64 >>> ((1 : Int32).toInt64.toUInt64 &&& Int64.toUInt64 63)).toInt64) &&& 6148914691236517205)).toUInt64 >>> ((2 : Int32).toInt64.toUInt64 &&& Int64.toUInt64 63)).toInt64) &&& 3689348814741910323)) + (((((zs - (((zs.toUInt64 >>> ((1 : Int32).toInt64.toUInt64 &&& Int64.toUInt64 63)).toInt64) &&& 6148914691236517205)) &&& 3689348814741910323) + ((((zs - (((zs.toUInt64 >>> ((1 : Int32).toInt64.toUInt64 &&& Int64.toUInt64 63)).toInt64) &&& 6148914691236517205)).toUInt64 >>> ((2 : Int32).toInt64.toUInt64 &&& Int64.toUInt64 63)).toInt64) &&& 3689348814741910323)).toUInt64 >>> ((4 : Int32).toInt64.toUInt64 &&& Int64.toUInt64 63)).toInt64)) &&& 1085102592571150095).toUInt64 >>> ((8 : Int32).toInt64.toUInt64 &&& Int64.toUInt64 63)).toInt64)) + ((((((((zs - (((zs.toUInt64 >>> ((1 : Int32).toInt64.toUInt64 &&& Int64.toUInt64 63)).toInt64) &&& 6148914691236517205)) &&& 3689348814741910323) + ((((zs - (((zs.toUInt64 >>> ((1 : Int32).toInt64.toUInt64 &&& Int64.toUInt64 63)).toInt64) &&& 6148914691236517205)).toUInt64 >>> ((2 : Int32).toInt64.toUInt64 &&& Int64.toUInt64 63)).toInt64) &&& 3689348814741910323)) + (((((zs - (((zs.toUInt64 >>> ((1 : Int32).toInt64.toUInt64 &&& Int64.toUInt64 63)).toInt64) &&& 6148914691236517205)) &&& 3689348814741910323) + ((((zs - (((zs.toUInt64 >>> ((1 : Int32).toInt64.toUInt64 &&& Int64.toUInt64 63)).toInt64) &&& 6148914691236517205)).toUInt64 >>> ((2 : Int32).toInt64.toUInt64 &&& Int64.toUInt64 63)).toInt64) &&& 3689348814741910323)).toUInt64 >>> ((4 : Int32).toInt64.toUInt64 &&& Int64.toUInt64 63)).toInt64)) &&& 1085102592571150095) + (((((((zs - (((zs.toUInt64 >>> ((1 : Int32).toInt64.toUInt64 &&& Int64.toUInt64 63)).toInt64) &&& 6148914691236517205)) &&& 3689348814741910323) + ((((zs - (((zs.toUInt64 >>> ((1 : Int32).toInt64.toUInt64 &&& Int64.toUInt64 63)).toInt64) &&& 6148914691236517205)).toUInt64 >>> ((2 : Int32).toInt64.toUInt64 &&& Int64.toUInt64 63)).toInt64) &&& 3689348814741910323)) + (((((zs - (((zs.toUInt64 >>> ((1 : Int32).toInt64.toUInt64 &&& Int64.toUInt64 63)).toInt64) &&& 6148914691236517205)) &&& 3689348814741910323) + ((((zs - (((zs.toUInt64 >>> ((1 : Int32).toInt64.toUInt64 &&& Int64.toUInt64 63)).toInt64) &&& 6148914691236517205)).toUInt64 >>> ((2 : Int32).toInt64.toUInt64 &&& Int64.toUInt64 63)).toInt64) &&& 3689348814741910323)).toUInt64 >>> ((4 : Int32).toInt64.toUInt64 &&& Int64.toUInt64 63)).toInt64)) &&& 1085102592571150095).toUInt64 >>> ((8 : Int32).toInt64.toUInt64 &&& Int64.toUInt64 63)).toInt64)).toUInt64 >>> ((16 : Int32).toInt64.toUInt64 &&& Int64.toUInt64 63)).toInt64)))]) hx hb d_lo_bitCount_47 rfl hl (by decide) rfl (fun ls hl => ?_)
  refine lv_lload_n hx hb d_lo_bitCount_48 rfl (lv_at hl 0 rfl) ?_
  refine lv_lload_n hx hb d_lo_bitCount_49 rfl (lv_at hl 0 rfl) ?_
  refine lv_bipush (v := 32) hx hb d_lo_bitCount_50 (by decide) ?_
  refine lv_lushr (v := ((((((((zs - (((zs.toUInt64 >>> ((1 : Int32).toInt64.toUInt64 &&& Int64.toUInt64 63)).toInt64) &&& 6148914691236517205)) &&& 3689348814741910323) + ((((zs - (((zs.toUInt64 >>> ((1 : Int32).toInt64.toUInt64 &&& Int64.toUInt64 63)).toInt64) &&& 6148914691236517205)).toUInt64 >>> ((2 : Int32).toInt64.toUInt64 &&& Int64.toUInt64 63)).toInt64) &&& 3689348814741910323)) + (((((zs - (((zs.toUInt64 >>> ((1 : Int32).toInt64.toUInt64 &&& Int64.toUInt64 63)).toInt64) &&& 6148914691236517205)) &&& 3689348814741910323) + ((((zs - (((zs.toUInt64 >>> ((1 : Int32).toInt64.toUInt64 &&& Int64.toUInt64 63)).toInt64) &&& 6148914691236517205)).toUInt64 >>> ((2 : Int32).toInt64.toUInt64 &&& Int64.toUInt64 63)).toInt64) &&& 3689348814741910323)).toUInt64 >>> ((4 : Int32).toInt64.toUInt64 &&& Int64.toUInt64 63)).toInt64)) &&& 1085102592571150095) + (((((((zs - (((zs.toUInt64 >>> ((1 : Int32).toInt64.toUInt64 &&& Int64.toUInt64 63)).toInt64) &&& 6148914691236517205)) &&& 3689348814741910323) + ((((zs - (((zs.toUInt64 >>> ((1 : Int32).toInt64.toUInt64 &&& Int64.toUInt64 63)).toInt64) &&& 6148914691236517205)).toUInt64 >>> ((2 : Int32).toInt64.toUInt64 &&& Int64.toUInt64 63)).toInt64) &&& 3689348814741910323)) + (((((zs - (((zs.toUInt64 >>> ((1 : Int32).toInt64.toUInt64 &&& Int64.toUInt64 63)).toInt64) &&& 6148914691236517205)) &&& 3689348814741910323) + ((((zs - (((zs.toUInt64 >>> ((1 : Int32).toInt64.toUInt64 &&& Int64.toUInt64 63)).toInt64) &&& 6148914691236517205)).toUInt64 >>> ((2 : Int32).toInt64.toUInt64 &&& Int64.toUInt64 63)).toInt64) &&& 3689348814741910323)).toUInt64 >>> ((4 : Int32).toInt64.toUInt64 &&& Int64.toUInt64 63)).toInt64)) &&& 1085102592571150095).toUInt64 >>> ((8 : Int32).toInt64.toUInt64 &&& Int64.toUInt64 63)).toInt64)) + ((((((((zs - (((zs.toUInt64 >>> ((1 : Int32).toInt64.toUInt64 &&& Int64.toUInt64 63)).toInt64) &&& 6148914691236517205)) &&& 3689348814741910323) + ((((zs - (((zs.toUInt64 >>> ((1 : Int32).toInt64.toUInt64 &&& Int64.toUInt64 63)).toInt64) &&& 6148914691236517205)).toUInt64 >>> ((2 : Int32).toInt64.toUInt64 &&& Int64.toUInt64 63)).toInt64) &&& 3689348814741910323)) + (((((zs - (((zs.toUInt64 >>> ((1 : Int32).toInt64.toUInt64 &&& Int64.toUInt64 63)).toInt64) &&& 6148914691236517205)) &&& 3689348814741910323) + ((((zs - (((zs.toUInt64 >>> ((1 : Int32).toInt64.toUInt64 &&& Int64.toUInt64 63)).toInt64) &&& 6148914691236517205)).toUInt64 >>> ((2 : Int32).toInt64.toUInt64 &&& Int64.toUInt64 63)).toInt64) &&& 3689348814741910323)).toUInt64 >>> ((4 : Int32).toInt64.toUInt64 &&& Int64.toUInt64 63)).toInt64)) &&& 1085102592571150095) + (((((((zs - (((zs.toUInt64 >>> ((1 : Int32).toInt64.toUInt64 &&& Int64.toUInt64 63)).toInt64) &&& 6148914691236517205)) &&& 3689348814741910323) + ((((zs - (((zs.toUInt64 >>> ((1 : Int32).toInt64.toUInt64 &&& Int64.toUInt64 63)).toInt64) &&& 6148914691236517205)).toUInt64 >>> ((2 : Int32).toInt64.toUInt64 &&& Int64.toUInt64 63)).toInt64) &&& 3689348814741910323)) + (((((zs - (((zs.toUInt64 >>> ((1 : Int32).toInt64.toUInt64 &&& Int64.toUInt64 63)).toInt64) &&& 6148914691236517205)) &&& 3689348814741910323) + ((((zs - (((zs.toUInt64 >>> ((1 : Int32).toInt64.toUInt64 &&& Int64.toUInt64 63)).toInt64) &&& 6148914691236517205)).toUInt64 >>> ((2 : Int32).toInt64.toUInt64 &&& Int64.toUInt64 63)).toInt64) &&& 3689348814741910323)).toUInt64 >>> ((4 : Int32).toInt64.toUInt64 &&& Int64.toUInt64 63)).toInt64)) &&& 1085102592571150095).toUInt64 >>> ((8 : Int32).toInt64.toUInt64 &&& Int64.toUInt64 63)).toInt64)).toUInt64 >>> ((16 : Int32).toInt64.toUInt64 &&& Int64.toUInt64 63)).toInt64)).toUInt64 >>> ((32 : Int32).toInt64.toUInt64 &&& Int64.toUInt64 63)).toInt64) hx hb d_lo_bitCount_52 rfl ?_
  refine lv_ladd hx hb d_lo_bitCount_53 ?_
  refine lv_lstore_n (lv' := [(0, .long ((((((((zs - (((zs.toUInt64 >>> ((1 : Int32).toInt64.toUInt64 &&& Int64.toUInt64 63)).toInt64) &&& 6148914691236517205)) &&& 3689348814741910323) + ((((zs - (((zs.toUInt64 >>> ((1 : Int32).toInt64.toUInt64 &&& Int64.toUInt64 63)).toInt64) &&& 6148914691236517205)).toUInt64 >>> ((2 : Int32).toInt64.toUInt64 &&& Int64.toUInt64 63)).toInt64) &&& 3689348814741910323)) + (((((zs - (((zs.toUInt64 >>> ((1 : Int32).toInt64.toUInt64 &&& Int64.toUInt64 63)).toInt64) &&& 6148914691236517205)) &&& 3689348814741910323) + ((((zs - (((zs.toUInt64 >>> ((1 : Int32).toInt64.toUInt64 &&& Int64.toUInt64 63)).toInt64) &&& 6148914691236517205)).toUInt64 >>> ((2 : Int32).toInt64.toUInt64 &&& Int64.toUInt64 63)).toInt64) &&& 3689348814741910323)).toUInt64 >>> ((4 : Int32).toInt64.toUInt64 &&& Int64.toUInt64 63)).toInt64)) &&& 1085102592571150095) + (((((((zs - (((zs.toUInt64 >>> ((1 : Int32).toInt64.toUInt64 &&& Int64.toUInt64 63)).toInt64) &&& 6148914691236517205)) &&& 3689348814741910323) + ((((zs - (((zs.toUInt64 >>> ((1 : Int32).toInt64.toUInt64 &&& Int64.toUInt64 63)).toInt64) &&& 6148914691236517205)).toUInt64 >>> ((2 : Int32).toInt64.toUInt64 &&& Int64.toUInt64 63)).toInt64) &&& 3689348814741910323)) + (((((zs - (((zs.toUInt64 >>> ((1 : Int32).toInt64.toUInt64 &&& Int64.toUInt64 63)).toInt64) &&& 6148914691236517205)) &&& 3689348814741910323) + ((((zs - (((zs.toUInt64 >>> ((1 : Int32).toInt64.toUInt64 &&& Int64.toUInt64 63)).toInt64) &&& 6148914691236517205)).toUInt64 >>> ((2 : Int32).toInt64.toUInt64 &&& Int64.toUInt64 63)).toInt64) &&& 3689348814741910323)).toUInt64 >>> ((4 : Int32).toInt64.toUInt64 &&& Int64.toUInt64 63)).toInt64)) &&& 1085102592571150095).toUInt64 >>> ((8 : Int32).toInt64.toUInt64 &&& Int64.toUInt64 63)).toInt64)) + ((((((((zs - (((zs.toUInt64 >>> ((1 : Int32).toInt64.toUInt64 &&& Int64.toUInt64 63)).toInt64) &&& 6148914691236517205)) &&& 3689348814741910323) + ((((zs - (((zs.toUInt64 >>> ((1 : Int32).toInt64.toUInt64 &&& Int64.toUInt64 63)).toInt64) &&& 6148914691236517205)).toUInt64 >>> ((2 : Int32).toInt64.toUInt64 &&& Int64.toUInt64 63)).toInt64) &&& 3689348814741910323)) + (((((zs - (((zs.toUInt64 >>> ((1 : Int32).toInt64.toUInt64 &&& Int64.toUInt64 63)).toInt64) &&& 6148914691236517205)) &&& 3689348814741910323) + ((((zs - (((zs.toUInt64 >>> ((1 : Int32).toInt64.toUInt64 &&& Int64.toUInt64 63)).toInt64) &&& 6148914691236517205)).toUInt64 >>> ((2 : Int32).toInt64.toUInt64 &&& Int64.toUInt64 63)).toInt64) &&& 3689348814741910323)).toUInt64 >>> ((4 : Int32).toInt64.toUInt64 &&& Int64.toUInt64 63)).toInt64)) &&& 1085102592571150095) + (((((((zs - (((zs.toUInt64 >>> ((1 : Int32).toInt64.toUInt64 &&& Int64.toUInt64 63)).toInt64) &&& 6148914691236517205)) &&& 3689348814741910323) + ((((zs - (((zs.toUInt64 >>> ((1 : Int32).toInt64.toUInt64 &&& Int64.toUInt64 63)).toInt64) &&& 6148914691236517205)).toUInt64 >>> ((2 : Int32).toInt64.toUInt64 &&& Int64.toUInt64 63)).toInt64) &&& 3689348814741910323)) + (((((zs - (((zs.toUInt64 >>> ((1 : Int32).toInt64.toUInt64 &&& Int64.toUInt64 63)).toInt64) &&& 6148914691236517205)) &&& 3689348814741910323) + ((((zs - (((zs.toUInt64 >>> ((1 : Int32).toInt64.toUInt64 &&& Int64.toUInt64 63)).toInt64) &&& 6148914691236517205)).toUInt64 >>> ((2 : Int32).toInt64.toUInt64 &&& Int64.toUInt64 63)).toInt64) &&& 3689348814741910323)).toUInt64 >>> ((4 : Int32).toInt64.toUInt64 &&& Int64.toUInt64 63)).toInt64)) &&& 1085102592571150095).toUInt64 >>> ((8 : Int32).toInt64.toUInt64 &&& Int64.toUInt64 63)).toInt64)).toUInt64 >>> ((16 : Int32).toInt64.toUInt64 &&& Int64.toUInt64 63)).toInt64)) + (((((((((zs - (((zs.toUInt64 >>> ((1 : Int32).toInt64.toUInt64 &&& Int64.toUInt64 63)).toInt64) &&& 6148914691236517205)) &&& 3689348814741910323) + ((((zs - (((zs.toUInt64 >>> ((1 : Int32).toInt64.toUInt64 &&& Int64.toUInt64 63)).toInt64) &&& 6148914691236517205)).toUInt64 >>> ((2 : Int32).toInt64.toUInt64 &&& Int64.toUInt64 63)).toInt64) &&& 3689348814741910323)) + (((((zs - (((zs.toUInt64 >>> ((1 : Int32).toInt64.toUInt64 &&& Int64.toUInt64 63)).toInt64) &&& 6148914691236517205)) &&& 3689348814741910323) + ((((zs - (((zs.toUInt64 >>> ((1 : Int32).toInt64.toUInt64 &&& Int64.toUInt64 63)).toInt64) &&& 6148914691236517205)).toUInt64 >>> ((2 : Int32).toInt64.toUInt64 &&& Int64.toUInt64 63)).toInt64) &&& 3689348814741910323)).toUInt64 >>> ((4 : Int32).toInt64.toUInt64 &&& Int64.toUInt64 63)).toInt64)) &&& 1085102592571150095) + (((((((zs - (((zs.toUInt64 >>> ((1 : Int32).toInt64.toUInt64 &&& Int64.toUInt64 63)).toInt64) &&& 6148914691236517205)) &&& 3689348814741910323) + ((((zs - (((zs.toUInt64 >>> ((1 : Int32).toInt64.toUInt64 &&& Int64.toUInt64 63)).toInt64) &&& 6148914691236517205)).toUInt64 >>> ((2 : Int32).toInt64.toUInt64 &&& Int64.toUInt64 63)).toInt64) &&& 3689348814741910323)) + (((((zs - (((zs.toUInt64 >>> ((1 : Int32).toInt64.toUInt64 &&& Int64.toUInt64 63)).toInt64) &&& 6148914691236517205)) &&& 3689348814741910323) + ((((zs - (((zs.toUInt64 >>> ((1 : Int32).toInt64.toUInt64 &&& Int64.toUInt64 63)).toInt64) &&& 6148914691236517205)).toUInt64 >>> ((2 : Int32).toInt64.toUInt64 &&& Int64.toUInt64 63)).toInt64) &&& 3689348814741910323)).toUInt64 >>> ((4 : Int32).toInt64.toUInt64 &&& Int64.toUInt64 63)).toInt64)) &&& 1085102592571150095).toUInt64 >>> ((8 : Int32).toInt64.toUInt64 &&& Int64.toUInt64 63)).toInt64)) + ((((((((zs - (((zs.toUInt64 >>> ((1 : Int32).toInt64.toUInt64 &&& Int64.toUInt64 63)).toInt64) &&& 6148914691236517205)) &&& 3689348814741910323) + ((((zs - (((zs.toUInt64 >>> ((1 : Int32).toInt64.toUInt64 &&& Int64.toUInt64 63)).toInt64) &&& 6148914691236517205)).toUInt64 >>> ((2 : Int32).toInt64.toUInt64 &&& Int64.toUInt64 63)).toInt64) &&& 3689348814741910323)) + (((((zs - (((zs.toUInt64 >>> ((1 : Int32).toInt64.toUInt64 &&& Int64.toUInt64 63)).toInt64) &&& 6148914691236517205)) &&& 3689348814741910323) + ((((zs - (((zs.toUInt64 >>> ((1 : Int32).toInt64.toUInt64 &&& Int64.toUInt64 63)).toInt64) &&& 6148914691236517205)).toUInt64 >>> ((2 : Int32).toInt64.toUInt64 &&& Int64.toUInt64 63)).toInt64) &&& 3689348814741910323)).toUInt64 >>> ((4 : Int32).toInt64.toUInt64 &&& Int64.toUInt64 63)).toInt64)) &&& 1085102592571150095) + (((((((zs - (((zs.toUInt64 >>> ((1 : Int32).toInt64.toUInt64 &&& Int64.toUInt64 63)).toInt64) &&& 6148914691236517205)) &&& 3689348814741910323) + ((((zs - (((zs.toUInt64 >>> ((1 : Int32).toInt64.toUInt64 &&& Int64.toUInt64 63)).toInt64) &&& 6148914691236517205)).toUInt64 >>> ((2 : Int32).toInt64.toUInt64 &&& Int64.toUInt64 63)).toInt64) &&& 3689348814741910323)) + (((((zs - (((zs.toUInt64 >>> ((1 : Int32).toInt64.toUInt64 &&& Int64.toUInt64 63)).toInt64) &&& 6148914691236517205)) &&& 3689348814741910323) + ((((zs - (((zs.toUInt64 >>> ((1 : Int32).toInt64.toUInt64 &&& Int64.toUInt64 63)).toInt64) &&& 6148914691236517205)).toUInt64 >>> ((2 : Int32).toInt64.toUInt64 &&& Int64.toUInt64 63)).toInt64) &&& 3689348814741910323)).toUInt64 >>> ((4 : Int32).toInt64.toUInt64 &&& Int64.toUInt64 63)).toInt64)) &&& 1085102592571150095).toUInt64 >>> ((8 : Int32).toInt64.toUInt64 &&& Int64.toUInt64 63)).toInt64)).toUInt64 >>> ((16 : Int32).toInt64.toUInt64 &&& Int64.toUInt64 63)).toInt64)).toUInt64 >>> ((32 : Int32).toInt64.toUInt64 &&& Int64.toUInt64 63)).toInt64)))]) hx hb d_lo_bitCount_54 rfl hl (by decide) rfl (fun ls hl => ?_)
  refine lv_lload_n hx hb d_lo_bitCount_55 rfl (lv_at hl 0 rfl) ?_
  refine lv_l2i (v := ((((((((zs - (((zs.toUInt64 >>> ((1 : Int32).toInt64.toUInt64 &&& Int64.toUInt64 63)).toInt64) &&& 6148914691236517205)) &&& 3689348814741910323) + ((((zs - (((zs.toUInt64 >>> ((1 : Int32).toInt64.toUInt64 &&& Int64.toUInt64 63)).toInt64) &&& 6148914691236517205)).toUInt64 >>> ((2 : Int32).toInt64.toUInt64 &&& Int64.toUInt64 63)).toInt64) &&& 3689348814741910323)) + (((((zs - (((zs.toUInt64 >>> ((1 : Int32).toInt64.toUInt64 &&& Int64.toUInt64 63)).toInt64) &&& 6148914691236517205)) &&& 3689348814741910323) + ((((zs - (((zs.toUInt64 >>> ((1 : Int32).toInt64.toUInt64 &&& Int64.toUInt64 63)).toInt64) &&& 6148914691236517205)).toUInt64 >>> ((2 : Int32).toInt64.toUInt64 &&& Int64.toUInt64 63)).toInt64) &&& 3689348814741910323)).toUInt64 >>> ((4 : Int32).toInt64.toUInt64 &&& Int64.toUInt64 63)).toInt64)) &&& 1085102592571150095) + (((((((zs - (((zs.toUInt64 >>> ((1 : Int32).toInt64.toUInt64 &&& Int64.toUInt64 63)).toInt64) &&& 6148914691236517205)) &&& 3689348814741910323) + ((((zs - (((zs.toUInt64 >>> ((1 : Int32).toInt64.toUInt64 &&& Int64.toUInt64 63)).toInt64) &&& 6148914691236517205)).toUInt64 >>> ((2 : Int32).toInt64.toUInt64 &&& Int64.toUInt64 63)).toInt64) &&& 3689348814741910323)) + (((((zs - (((zs.toUInt64 >>> ((1 : Int32).toInt64.toUInt64 &&& Int64.toUInt64 63)).toInt64) &&& 6148914691236517205)) &&& 3689348814741910323) + ((((zs - (((zs.toUInt64 >>> ((1 : Int32).toInt64.toUInt64 &&& Int64.toUInt64 63)).toInt64) &&& 6148914691236517205)).toUInt64 >>> ((2 : Int32).toInt64.toUInt64 &&& Int64.toUInt64 63)).toInt64) &&& 3689348814741910323)).toUInt64 >>> ((4 : Int32).toInt64.toUInt64 &&& Int64.toUInt64 63)).toInt64)) &&& 1085102592571150095).toUInt64 >>> ((8 : Int32).toInt64.toUInt64 &&& Int64.toUInt64 63)).toInt64)) + ((((((((zs - (((zs.toUInt64 >>> ((1 : Int32).toInt64.toUInt64 &&& Int64.toUInt64 63)).toInt64) &&& 6148914691236517205)) &&& 3689348814741910323) + ((((zs - (((zs.toUInt64 >>> ((1 : Int32).toInt64.toUInt64 &&& Int64.toUInt64 63)).toInt64) &&& 6148914691236517205)).toUInt64 >>> ((2 : Int32).toInt64.toUInt64 &&& Int64.toUInt64 63)).toInt64) &&& 3689348814741910323)) + (((((zs - (((zs.toUInt64 >>> ((1 : Int32).toInt64.toUInt64 &&& Int64.toUInt64 63)).toInt64) &&& 6148914691236517205)) &&& 3689348814741910323) + ((((zs - (((zs.toUInt64 >>> ((1 : Int32).toInt64.toUInt64 &&& Int64.toUInt64 63)).toInt64) &&& 6148914691236517205)).toUInt64 >>> ((2 : Int32).toInt64.toUInt64 &&& Int64.toUInt64 63)).toInt64) &&& 3689348814741910323)).toUInt64 >>> ((4 : Int32).toInt64.toUInt64 &&& Int64.toUInt64 63)).toInt64)) &&& 1085102592571150095) + (((((((zs - (((zs.toUInt64 >>> ((1 : Int32).toInt64.toUInt64 &&& Int64.toUInt64 63)).toInt64) &&& 6148914691236517205)) &&& 3689348814741910323) + ((((zs - (((zs.toUInt64 >>> ((1 : Int32).toInt64.toUInt64 &&& Int64.toUInt64 63)).toInt64) &&& 6148914691236517205)).toUInt64 >>> ((2 : Int32).toInt64.toUInt64 &&& Int64.toUInt64 63)).toInt64) &&& 3689348814741910323)) + (((((zs - (((zs.toUInt64 >>> ((1 : Int32).toInt64.toUInt64 &&& Int64.toUInt64 63)).toInt64) &&& 6148914691236517205)) &&& 3689348814741910323) + ((((zs - (((zs.toUInt64 >>> ((1 : Int32).toInt64.toUInt64 &&& Int64.toUInt64 63)).toInt64) &&& 6148914691236517205)).toUInt64 >>> ((2 : Int32).toInt64.toUInt64 &&& Int64.toUInt64 63)).toInt64) &&& 3689348814741910323)).toUInt64 >>> ((4 : Int32).toInt64.toUInt64 &&& Int64.toUInt64 63)).toInt64)) &&& 1085102592571150095).toUInt64 >>> ((8 : Int32).toInt64.toUInt64 &&& Int64.toUInt64 63)).toInt64)).toUInt64 >>> ((16 : Int32).toInt64.toUInt64 &&& Int64.toUInt64 63)).toInt64)) + (((((((((zs - (((zs.toUInt64 >>> ((1 : Int32).toInt64.toUInt64 &&& Int64.toUInt64 63)).toInt64) &&& 6148914691236517205)) &&& 3689348814741910323) + ((((zs - (((zs.toUInt64 >>> ((1 : Int32).toInt64.toUInt64 &&& Int64.toUInt64 63)).toInt64) &&& 6148914691236517205)).toUInt64 >>> ((2 : Int32).toInt64.toUInt64 &&& Int64.toUInt64 63)).toInt64) &&& 3689348814741910323)) + (((((zs - (((zs.toUInt64 >>> ((1 : Int32).toInt64.toUInt64 &&& Int64.toUInt64 63)).toInt64) &&& 6148914691236517205)) &&& 3689348814741910323) + ((((zs - (((zs.toUInt64 >>> ((1 : Int32).toInt64.toUInt64 &&& Int64.toUInt64 63)).toInt64) &&& 6148914691236517205)).toUInt64 >>> ((2 : Int32).toInt64.toUInt64 &&& Int64.toUInt64 63)).toInt64) &&& 3689348814741910323)).toUInt64 >>> ((4 : Int32).toInt64.toUInt64 &&& Int64.toUInt64 63)).toInt64)) &&& 1085102592571150095) + (((((((zs - (((zs.toUInt64 >>> ((1 : Int32).toInt64.toUInt64 &&& Int64.toUInt64 63)).toInt64) &&& 6148914691236517205)) &&& 3689348814741910323) + ((((zs - (((zs.toUInt64 >>> ((1 : Int32).toInt64.toUInt64 &&& Int64.toUInt64 63)).toInt64) &&& 6148914691236517205)).toUInt64 >>> ((2 : Int32).toInt64.toUInt64 &&& Int64.toUInt64 63)).toInt64) &&& 3689348814741910323)) + (((((zs - (((zs.toUInt64 >>> ((1 : Int32).toInt64.toUInt64 &&& Int64.toUInt64 63)).toInt64) &&& 6148914691236517205)) &&& 3689348814741910323) + ((((zs - (((zs.toUInt64 >>> ((1 : Int32).toInt64.toUInt64 &&& Int64.toUInt64 63)).toInt64) &&& 6148914691236517205)).toUInt64 >>> ((2 : Int32).toInt64.toUInt64 &&& Int64.toUInt64 63)).toInt64) &&& 3689348814741910323)).toUInt64 >>> ((4 : Int32).toInt64.toUInt64 &&& Int64.toUInt64 63)).toInt64)) &&& 1085102592571150095).toUInt64 >>> ((8 : Int32).toInt64.toUInt64 &&& Int64.toUInt64 63)).toInt64)) + ((((((((zs - (((zs.toUInt64 >>> ((1 : Int32).toInt64.toUInt64 &&& Int64.toUInt64 63)).toInt64) &&& 6148914691236517205)) &&& 3689348814741910323) + ((((zs - (((zs.toUInt64 >>> ((1 : Int32).toInt64.toUInt64 &&& Int64.toUInt64 63)).toInt64) &&& 6148914691236517205)).toUInt64 >>> ((2 : Int32).toInt64.toUInt64 &&& Int64.toUInt64 63)).toInt64) &&& 3689348814741910323)) + (((((zs - (((zs.toUInt64 >>> ((1 : Int32).toInt64.toUInt64 &&& Int64.toUInt64 63)).toInt64) &&& 6148914691236517205)) &&& 3689348814741910323) + ((((zs - (((zs.toUInt64 >>> ((1 : Int32).toInt64.toUInt64 &&& Int64.toUInt64 63)).toInt64) &&& 6148914691236517205)).toUInt64 >>> ((2 : Int32).toInt64.toUInt64 &&& Int64.toUInt64 63)).toInt64) &&& 3689348814741910323)).toUInt64 >>> ((4 : Int32).toInt64.toUInt64 &&& Int64.toUInt64 63)).toInt64)) &&& 1085102592571150095) + (((((((zs - (((zs.toUInt64 >>> ((1 : Int32).toInt64.toUInt64 &&& Int64.toUInt64 63)).toInt64) &&& 6148914691236517205)) &&& 3689348814741910323) + ((((zs - (((zs.toUInt64 >>> ((1 : Int32).toInt64.toUInt64 &&& Int64.toUInt64 63)).toInt64) &&& 6148914691236517205)).toUInt64 >>> ((2 : Int32).toInt64.toUInt64 &&& Int64.toUInt64 63)).toInt64) &&& 3689348814741910323)) + (((((zs - (((zs.toUInt64 >>> ((1 : Int32).toInt64.toUInt64 &&& Int64.toUInt64 63)).toInt64) &&& 6148914691236517205)) &&& 3689348814741910323) + ((((zs - (((zs.toUInt64 >>> ((1 : Int32).toInt64.toUInt64 &&& Int64.toUInt64 63)).toInt64) &&& 6148914691236517205)).toUInt64 >>> ((2 : Int32).toInt64.toUInt64 &&& Int64.toUInt64 63)).toInt64) &&& 3689348814741910323)).toUInt64 >>> ((4 : Int32).toInt64.toUInt64 &&& Int64.toUInt64 63)).toInt64)) &&& 1085102592571150095).toUInt64 >>> ((8 : Int32).toInt64.toUInt64 &&& Int64.toUInt64 63)).toInt64)).toUInt64 >>> ((16 : Int32).toInt64.toUInt64 &&& Int64.toUInt64 63)).toInt64)).toUInt64 >>> ((32 : Int32).toInt64.toUInt64 &&& Int64.toUInt64 63)).toInt64)).toInt32) hx hb d_lo_bitCount_56 rfl ?_
  refine lv_bipush (v := 127) hx hb d_lo_bitCount_57 (by decide) ?_
  refine lv_iand hx hb d_lo_bitCount_59 ?_
  exact ro_iret FX (by rw [f_lo_bitCount]) d_lo_bitCount_60
theorem d_x_isNumber_0 : decode b_x_isNumber 0 = .ok (.iload_n 0, 1) := by decide +kernel
theorem d_x_isNumber_1 : decode b_x_isNumber 1 = .ok (.ifCond .lt 13, 3) := by decide +kernel
theorem d_x_isNumber_4 : decode b_x_isNumber 4 = .ok (.iload_n 0, 1) := by decide +kernel
theorem d_x_isNumber_5 : decode b_x_isNumber 5 = .ok (.bipush 40, 2) := by decide +kernel
theorem d_x_isNumber_7 : decode b_x_isNumber 7 = .ok (.if_icmp .ge 7, 3) := by decide +kernel
theorem d_x_isNumber_10 : decode b_x_isNumber 10 = .ok (.iconst 1, 1) := by decide +kernel
theorem d_x_isNumber_11 : decode b_x_isNumber 11 = .ok (.goto 4, 3) := by decide +kernel
theorem d_x_isNumber_14 : decode b_x_isNumber 14 = .ok (.iconst 0, 1) := by decide +kernel
theorem d_x_isNumber_15 : decode b_x_isNumber 15 = .ok (.ireturn, 1) := by decide +kernel
def f_x_isNumber (nu : Int32) : Bool := if nu < 0 then
    (false)
  else
    (if 40 ≤ nu then
      (false)
    else
      (true))
set_option maxHeartbeats 4000000 in
set_option maxRecDepth 100000 in
theorem c_x_isNumber (l : Launch) (D : va_G) (cA : Nat → ClassId) (nu : Int32) : Met l y_x_isNumber (.code y_x_isNumber b_x_isNumber 1 (some .boolean) :: tb) (rmd 0) (Pro D cA [.int nu] (fun _ => True)) (Qro (.int (bz (f_x_isNumber nu)))) 0 0 nof := by
  refine ro_in (by decide) (Nat.le_of_ble_eq_true rfl) (fun p e s m below meth c ls FX hnm hK hP hl => ?_)
  have hl : lv_has ls 1 [(0, .int nu)] := hl
  generalize ([.int nu] : List Value).toArray = args at FX ⊢
  obtain ⟨hx, hb, hml, hown, hts, hr, hlk⟩ := id FX
  refine lv_iload_n hx hb d_x_isNumber_0 rfl (lv_at hl 0 rfl) ?_
  refine lv_if_lt (tgt := 14) hx hb d_x_isNumber_1 (by decide) (fun c1 => ?_) (fun c1 => ?_)
  · have c1 := c1
    refine lv_iconst (v := 0) hx hb d_x_isNumber_14 (by decide) ?_
    exact ro_zret FX (by rw [f_x_isNumber, if_pos c1] <;> rfl) d_x_isNumber_15
  · have c1 := c1
    refine lv_iload_n hx hb d_x_isNumber_4 rfl (lv_at hl 0 rfl) ?_
    refine lv_bipush (v := 40) hx hb d_x_isNumber_5 (by decide) ?_
    refine lv_icmp_ge (tgt := 14) hx hb d_x_isNumber_7 (by decide) (fun c2 => ?_) (fun c2 => ?_)
    · have c2 := c2
      refine lv_iconst (v := 0) hx hb d_x_isNumber_14 (by decide) ?_
      exact ro_zret FX (by rw [f_x_isNumber, if_neg c1, if_pos c2] <;> rfl) d_x_isNumber_15
    · have c2 := c2
      refine lv_iconst (v := 1) hx hb d_x_isNumber_10 (by decide) ?_
      refine lv_goto (tgt := 15) hx hb d_x_isNumber_11 (by decide) ?_
      exact ro_zret FX (by rw [f_x_isNumber, if_neg c1, if_neg c2] <;> rfl) d_x_isNumber_15
theorem d_x_only_0 : decode b_x_only 0 = .ok (.iload_n 0, 1) := by decide +kernel
theorem d_x_only_1 : decode b_x_only 1 = .ok (.invokestatic 130, 3) := by decide +kernel
theorem d_x_only_4 : decode b_x_only 4 = .ok (.ifCond .eq 9, 3) := by decide +kernel
theorem d_x_only_7 : decode b_x_only 7 = .ok (.lconst 1, 1) := by decide +kernel
theorem d_x_only_8 : decode b_x_only 8 = .ok (.iload_n 0, 1) := by decide +kernel
theorem d_x_only_9 : decode b_x_only 9 = .ok (.lshl, 1) := by decide +kernel
theorem d_x_only_10 : decode b_x_only 10 = .ok (.goto 4, 3) := by decide +kernel
theorem d_x_only_13 : decode b_x_only 13 = .ok (.lconst 0, 1) := by decide +kernel
theorem d_x_only_14 : decode b_x_only 14 = .ok (.lreturn, 1) := by decide +kernel
def f_x_only (nu : Int32) : Int64 := if (f_x_isNumber nu) = true then
    (1 <<< (nu.toInt64 &&& 63))
  else
    (0)
set_option maxHeartbeats 4000000 in
set_option maxRecDepth 100000 in
theorem c_x_only (l : Launch) (D : va_G) (cA : Nat → ClassId) (nu : Int32) : Met l y_x_only (.code y_x_only b_x_only 1 (some .long) :: tb) (rmd 1) (Pro D cA [.int nu] (fun _ => True)) (Qro (.long (f_x_only nu))) 0 0 nof := by
  refine ro_in (by decide) (Nat.le_of_ble_eq_true rfl) (fun p e s m below meth c ls FX hnm hK hP hl => ?_)
  have hl : lv_has ls 1 [(0, .int nu)] := hl
  generalize ([.int nu] : List Value).toArray = args at FX ⊢
  obtain ⟨hx, hb, hml, hown, hts, hr, hlk⟩ := id FX
  refine lv_iload_n hx hb d_x_only_0 rfl (lv_at hl 0 rfl) ?_
  refine ro_S (v := .int (bz (f_x_isNumber nu))) (As := [.int nu]) (rest := []) FX hK (c_x_isNumber l D cA nu) trivial kc_x_isNumber km_x_130 ki_x ks_x_isNumber rfl ok_x_isNumber ⟨Nat.le_of_ble_eq_true rfl, Nat.le_of_ble_eq_true rfl⟩ ⟨Nat.zero_le _, Nat.zero_le _⟩ hl.1 rfl (Nat.le_of_ble_eq_true rfl) d_x_only_1 ?_
  refine lv_if_eq (tgt := 13) hx hb d_x_only_4 (by decide) (fun c1 => ?_) (fun c1 => ?_)
  · have c1 := bz_f c1
    refine lv_lconst (v := 0) hx hb d_x_only_13 (by decide) ?_
    exact ro_lret FX (by rw [f_x_only, if_neg c1]) d_x_only_14
  · have c1 := bz_t c1
    refine lv_lconst (v := 1) hx hb d_x_only_7 (by decide) ?_
    refine lv_iload_n hx hb d_x_only_8 rfl (lv_at hl 0 rfl) ?_
    refine lv_lshl (v := 1 <<< (nu.toInt64 &&& 63)) hx hb d_x_only_9 rfl ?_
    refine lv_goto (tgt := 14) hx hb d_x_only_10 (by decide) ?_
    exact ro_lret FX (by rw [f_x_only, if_pos c1]) d_x_only_14
theorem d_x_contains_0 : decode b_x_contains 0 = .ok (.iload_n 2, 1) := by decide +kernel
theorem d_x_contains_1 : decode b_x_contains 1 = .ok (.invokestatic 130, 3) := by decide +kernel
theorem d_x_contains_4 : decode b_x_contains 4 = .ok (.ifCond .eq 17, 3) := by decide +kernel
theorem d_x_contains_7 : decode b_x_contains 7 = .ok (.lload_n 0, 1) := by decide +kernel
theorem d_x_contains_8 : decode b_x_contains 8 = .ok (.iload_n 2, 1) := by decide +kernel
theorem d_x_contains_9 : decode b_x_contains 9 = .ok (.lushr, 1) := by decide +kernel
theorem d_x_contains_10 : decode b_x_contains 10 = .ok (.lconst 1, 1) := by decide +kernel
theorem d_x_contains_11 : decode b_x_contains 11 = .ok (.land, 1) := by decide +kernel
theorem d_x_contains_12 : decode b_x_contains 12 = .ok (.lconst 0, 1) := by decide +kernel
theorem d_x_contains_13 : decode b_x_contains 13 = .ok (.lcmp, 1) := by decide +kernel
theorem d_x_contains_14 : decode b_x_contains 14 = .ok (.ifCond .eq 7, 3) := by decide +kernel
theorem d_x_contains_17 : decode b_x_contains 17 = .ok (.iconst 1, 1) := by decide +kernel
theorem d_x_contains_18 : decode b_x_contains 18 = .ok (.goto 4, 3) := by decide +kernel
theorem d_x_contains_21 : decode b_x_contains 21 = .ok (.iconst 0, 1) := by decide +kernel
theorem d_x_contains_22 : decode b_x_contains 22 = .ok (.ireturn, 1) := by decide +kernel
def f_x_contains (zs : Int64) (nu : Int32) : Bool := if (f_x_isNumber nu) = true then
    (if (((zs.toUInt64 >>> (nu.toInt64.toUInt64 &&& Int64.toUInt64 63)).toInt64) &&& 1) = 0 then
      (false)
    else
      (true))
  else
    (false)
set_option maxHeartbeats 4000000 in
set_option maxRecDepth 100000 in
theorem c_x_contains (l : Launch) (D : va_G) (cA : Nat → ClassId) (zs : Int64) (nu : Int32) : Met l y_x_contains (.code y_x_contains b_x_contains 3 (some .boolean) :: tb) (rmd 1) (Pro D cA [.long zs, .int nu] (fun _ => True)) (Qro (.int (bz (f_x_contains zs nu)))) 0 0 nof := by
  refine ro_in (by decide) (Nat.le_of_ble_eq_true rfl) (fun p e s m below meth c ls FX hnm hK hP hl => ?_)
  have hl : lv_has ls 3 [(0, .long zs), (2, .int nu)] := hl
  generalize ([.long zs, .int nu] : List Value).toArray = args at FX ⊢
  obtain ⟨hx, hb, hml, hown, hts, hr, hlk⟩ := id FX
  refine lv_iload_n hx hb d_x_contains_0 rfl (lv_at hl 1 rfl) ?_
  refine ro_S (v := .int (bz (f_x_isNumber nu))) (As := [.int nu]) (rest := []) FX hK (c_x_isNumber l D cA nu) trivial kc_x_isNumber km_x_130 ki_x ks_x_isNumber rfl ok_x_isNumber ⟨Nat.le_of_ble_eq_true rfl, Nat.le_of_ble_eq_true rfl⟩ ⟨Nat.zero_le _, Nat.zero_le _⟩ hl.1 rfl (Nat.le_of_ble_eq_true rfl) d_x_contains_1 ?_
  refine lv_if_eq (tgt := 21) hx hb d_x_contains_4 (by decide) (fun c1 => ?_) (fun c1 => ?_)
  · have c1 := bz_f c1
    refine lv_iconst (v := 0) hx hb d_x_contains_21 (by decide) ?_
    exact ro_zret FX (by rw [f_x_contains, if_neg c1] <;> rfl) d_x_contains_22
  · have c1 := bz_t c1
    refine lv_lload_n hx hb d_x_contains_7 rfl (lv_at hl 0 rfl) ?_
    refine lv_iload_n hx hb d_x_contains_8 rfl (lv_at hl 1 rfl) ?_
    refine lv_lushr (v := (zs.toUInt64 >>> (nu.toInt64.toUInt64 &&& Int64.toUInt64 63)).toInt64) hx hb d_x_contains_9 rfl ?_
    refine lv_lconst (v := 1) hx hb d_x_contains_10 (by decide) ?_
    refine lv_land hx hb d_x_contains_11 ?_
    refine lv_lconst (v := 0) hx hb d_x_contains_12 (by decide) ?_
    refine W.lcmp hx hb d_x_contains_13 ?_
    refine lv_if_eq (tgt := 21) hx hb d_x_contains_14 (by decide) (fun c2 => ?_) (fun c2 => ?_)
    · have c2 := cp_eq c2
      refine lv_iconst (v := 0) hx hb d_x_contains_21 (by decide) ?_
      exact ro_zret FX (by rw [f_x_contains, if_pos c1, if_pos c2] <;> rfl) d_x_contains_22
    · have c2 := cp_ne c2
      refine lv_iconst (v := 1) hx hb d_x_contains_17 (by decide) ?_
      refine lv_goto (tgt := 22) hx hb d_x_contains_18 (by decide) ?_
      exact ro_zret FX (by rw [f_x_contains, if_pos c1, if_neg c2] <;> rfl) d_x_contains_22
theorem d_x_isFlake_0 : decode b_x_isFlake 0 = .ok (.iload_n 1, 1) := by decide +kernel
theorem d_x_isFlake_1 : decode b_x_isFlake 1 = .ok (.iconst 1, 1) := by decide +kernel
theorem d_x_isFlake_2 : decode b_x_isFlake 2 = .ok (.if_icmp .lt 22, 3) := by decide +kernel
theorem d_x_isFlake_5 : decode b_x_isFlake 5 = .ok (.iload_n 1, 1) := by decide +kernel
theorem d_x_isFlake_6 : decode b_x_isFlake 6 = .ok (.bipush 9, 2) := by decide +kernel
theorem d_x_isFlake_8 : decode b_x_isFlake 8 = .ok (.if_icmp .gt 16, 3) := by decide +kernel
theorem d_x_isFlake_11 : decode b_x_isFlake 11 = .ok (.iload_n 0, 1) := by decide +kernel
theorem d_x_isFlake_12 : decode b_x_isFlake 12 = .ok (.ifCond .lt 12, 3) := by decide +kernel
theorem d_x_isFlake_15 : decode b_x_isFlake 15 = .ok (.iload_n 0, 1) := by decide +kernel
theorem d_x_isFlake_16 : decode b_x_isFlake 16 = .ok (.iload_n 1, 1) := by decide +kernel
theorem d_x_isFlake_17 : decode b_x_isFlake 17 = .ok (.if_icmp .ge 7, 3) := by decide +kernel
theorem d_x_isFlake_20 : decode b_x_isFlake 20 = .ok (.iconst 1, 1) := by decide +kernel
theorem d_x_isFlake_21 : decode b_x_isFlake 21 = .ok (.goto 4, 3) := by decide +kernel
theorem d_x_isFlake_24 : decode b_x_isFlake 24 = .ok (.iconst 0, 1) := by decide +kernel
theorem d_x_isFlake_25 : decode b_x_isFlake 25 = .ok (.ireturn, 1) := by decide +kernel
def f_x_isFlake (pp : Int32) (qq : Int32) : Bool := if qq < 1 then
    (false)
  else
    (if 9 < qq then
      (false)
    else
      (if pp < 0 then
        (false)
      else
        (if qq ≤ pp then
          (false)
        else
          (true))))
set_option maxHeartbeats 4000000 in
set_option maxRecDepth 100000 in
theorem c_x_isFlake (l : Launch) (D : va_G) (cA : Nat → ClassId) (pp : Int32) (qq : Int32) : Met l y_x_isFlake (.code y_x_isFlake b_x_isFlake 2 (some .boolean) :: tb) (rmd 0) (Pro D cA [.int pp, .int qq] (fun _ => True)) (Qro (.int (bz (f_x_isFlake pp qq)))) 0 0 nof := by
  refine ro_in (by decide) (Nat.le_of_ble_eq_true rfl) (fun p e s m below meth c ls FX hnm hK hP hl => ?_)
  have hl : lv_has ls 2 [(0, .int pp), (1, .int qq)] := hl
  generalize ([.int pp, .int qq] : List Value).toArray = args at FX ⊢
  obtain ⟨hx, hb, hml, hown, hts, hr, hlk⟩ := id FX
  refine lv_iload_n hx hb d_x_isFlake_0 rfl (lv_at hl 1 rfl) ?_
  refine lv_iconst (v := 1) hx hb d_x_isFlake_1 (by decide) ?_
  refine lv_icmp_lt (tgt := 24) hx hb d_x_isFlake_2 (by decide) (fun c1 => ?_) (fun c1 => ?_)
  · have c1 := c1
    refine lv_iconst (v := 0) hx hb d_x_isFlake_24 (by decide) ?_
    exact ro_zret FX (by rw [f_x_isFlake, if_pos c1] <;> rfl) d_x_isFlake_25
  · have c1 := c1
    refine lv_iload_n hx hb d_x_isFlake_5 rfl (lv_at hl 1 rfl) ?_
    refine lv_bipush (v := 9) hx hb d_x_isFlake_6 (by decide) ?_
    refine lv_icmp_gt (tgt := 24) hx hb d_x_isFlake_8 (by decide) (fun c2 => ?_) (fun c2 => ?_)
    · have c2 := c2
      refine lv_iconst (v := 0) hx hb d_x_isFlake_24 (by decide) ?_
      exact ro_zret FX (by rw [f_x_isFlake, if_neg c1, if_pos c2] <;> rfl) d_x_isFlake_25
    · have c2 := c2
      refine lv_iload_n hx hb d_x_isFlake_11 rfl (lv_at hl 0 rfl) ?_
      refine lv_if_lt (tgt := 24) hx hb d_x_isFlake_12 (by decide) (fun c3 => ?_) (fun c3 => ?_)
      · have c3 := c3
        refine lv_iconst (v := 0) hx hb d_x_isFlake_24 (by decide) ?_
        exact ro_zret FX (by rw [f_x_isFlake, if_neg c1, if_neg c2, if_pos c3] <;> rfl) d_x_isFlake_25
      · have c3 := c3
        refine lv_iload_n hx hb d_x_isFlake_15 rfl (lv_at hl 0 rfl) ?_
        refine lv_iload_n hx hb d_x_isFlake_16 rfl (lv_at hl 1 rfl) ?_
        refine lv_icmp_ge (tgt := 24) hx hb d_x_isFlake_17 (by decide) (fun c4 => ?_) (fun c4 => ?_)
        · have c4 := c4
          refine lv_iconst (v := 0) hx hb d_x_isFlake_24 (by decide) ?_
          exact ro_zret FX (by rw [f_x_isFlake, if_neg c1, if_neg c2, if_neg c3, if_pos c4] <;> rfl) d_x_isFlake_25
        · have c4 := c4
          refine lv_iconst (v := 1) hx hb d_x_isFlake_20 (by decide) ?_
          refine lv_goto (tgt := 25) hx hb d_x_isFlake_21 (by decide) ?_
          exact ro_zret FX (by rw [f_x_isFlake, if_neg c1, if_neg c2, if_neg c3, if_neg c4] <;> rfl) d_x_isFlake_25
theorem d_x_isSure_0 : decode b_x_isSure 0 = .ok (.iload_n 0, 1) := by decide +kernel
theorem d_x_isSure_1 : decode b_x_isSure 1 = .ok (.bipush 51, 2) := by decide +kernel
theorem d_x_isSure_3 : decode b_x_isSure 3 = .ok (.if_icmp .lt 13, 3) := by decide +kernel
theorem d_x_isSure_6 : decode b_x_isSure 6 = .ok (.iload_n 0, 1) := by decide +kernel
theorem d_x_isSure_7 : decode b_x_isSure 7 = .ok (.bipush 100, 2) := by decide +kernel
theorem d_x_isSure_9 : decode b_x_isSure 9 = .ok (.if_icmp .gt 7, 3) := by decide +kernel
theorem d_x_isSure_12 : decode b_x_isSure 12 = .ok (.iconst 1, 1) := by decide +kernel
theorem d_x_isSure_13 : decode b_x_isSure 13 = .ok (.goto 4, 3) := by decide +kernel
theorem d_x_isSure_16 : decode b_x_isSure 16 = .ok (.iconst 0, 1) := by decide +kernel
theorem d_x_isSure_17 : decode b_x_isSure 17 = .ok (.ireturn, 1) := by decide +kernel
def f_x_isSure (nu : Int32) : Bool := if nu < 51 then
    (false)
  else
    (if 100 < nu then
      (false)
    else
      (true))
set_option maxHeartbeats 4000000 in
set_option maxRecDepth 100000 in
theorem c_x_isSure (l : Launch) (D : va_G) (cA : Nat → ClassId) (nu : Int32) : Met l y_x_isSure (.code y_x_isSure b_x_isSure 1 (some .boolean) :: tb) (rmd 0) (Pro D cA [.int nu] (fun _ => True)) (Qro (.int (bz (f_x_isSure nu)))) 0 0 nof := by
  refine ro_in (by decide) (Nat.le_of_ble_eq_true rfl) (fun p e s m below meth c ls FX hnm hK hP hl => ?_)
  have hl : lv_has ls 1 [(0, .int nu)] := hl
  generalize ([.int nu] : List Value).toArray = args at FX ⊢
  obtain ⟨hx, hb, hml, hown, hts, hr, hlk⟩ := id FX
  refine lv_iload_n hx hb d_x_isSure_0 rfl (lv_at hl 0 rfl) ?_
  refine lv_bipush (v := 51) hx hb d_x_isSure_1 (by decide) ?_
  refine lv_icmp_lt (tgt := 16) hx hb d_x_isSure_3 (by decide) (fun c1 => ?_) (fun c1 => ?_)
  · have c1 := c1
    refine lv_iconst (v := 0) hx hb d_x_isSure_16 (by decide) ?_
    exact ro_zret FX (by rw [f_x_isSure, if_pos c1] <;> rfl) d_x_isSure_17
  · have c1 := c1
    refine lv_iload_n hx hb d_x_isSure_6 rfl (lv_at hl 0 rfl) ?_
    refine lv_bipush (v := 100) hx hb d_x_isSure_7 (by decide) ?_
    refine lv_icmp_gt (tgt := 16) hx hb d_x_isSure_9 (by decide) (fun c2 => ?_) (fun c2 => ?_)
    · have c2 := c2
      refine lv_iconst (v := 0) hx hb d_x_isSure_16 (by decide) ?_
      exact ro_zret FX (by rw [f_x_isSure, if_neg c1, if_pos c2] <;> rfl) d_x_isSure_17
    · have c2 := c2
      refine lv_iconst (v := 1) hx hb d_x_isSure_12 (by decide) ?_
      refine lv_goto (tgt := 17) hx hb d_x_isSure_13 (by decide) ?_
      exact ro_zret FX (by rw [f_x_isSure, if_neg c1, if_neg c2] <;> rfl) d_x_isSure_17
/-! the class's own world: the object, its array of targets, the graph and its two arrays, and of each target the object and its weights. The addresses are ad 0 .. ad (4 + 2 nt). -/
abbrev GS : Type := (Nat → Int64) × (Nat → Int64) × Int32 × Int64 × Int64
abbrev TS : Type := Int64 × Int64 × Bool × Int32 × Int32 × Int32 × Int32 × Int32 × Int32 × (Nat → Int64)
def tvf (ad : Nat → Nat) (nt : Nat) : Nat → Option Nat := fun k => if k < nt then some (ad (5 + 2 * k)) else none
abbrev cX (cA : Nat → ClassId) (ad : Nat → Nat) (nt : Nat) (G : GS) : va_W := [(ad 0, .inr (0, [.ref (ad 2), .ref (ad 1), .int (nI nt)])), (ad 1, .inl (cA 1, 4, .inr (.inr (.inr (.inr (tvf ad nt)))))), (ad 2, .inr (1, [.ref (ad 3), .ref (ad 4), .int G.2.2.1, .long G.2.2.2.1, .long G.2.2.2.2])), (ad 3, .inl (cA 0, 40, .inr (.inl G.1))), (ad 4, .inl (cA 0, 40, .inr (.inl G.2.1)))]
abbrev cT (cA : Nat → ClassId) (ad : Nat → Nat) (j : Nat) (T : TS) : va_W := [(ad (5 + 2 * j), .inr (2, [.ref (ad 2), .ref (ad (6 + 2 * j)), .long T.1, .long T.2.1, .int (bz T.2.2.1), .int T.2.2.2.1, .int T.2.2.2.2.1, .int T.2.2.2.2.2.1, .int T.2.2.2.2.2.2.1, .int T.2.2.2.2.2.2.2.1, .int T.2.2.2.2.2.2.2.2.1])), (ad (6 + 2 * j), .inl (cA 0, 40, .inr (.inl T.2.2.2.2.2.2.2.2.2)))]
def WX (D : va_G) (cA : Nat → ClassId) (ad : Nat → Nat) (nt : Nat) (G : GS) (TT : Nat → TS) (H : Heap) : Prop := va_P D classes (cX cA ad nt G) H ∧ ∀ j, j < nt → va_P D classes (cT cA ad j (TT j)) H
/-- the addresses are apart -/
def adX (ad : Nat → Nat) (nt : Nat) : Prop := ∀ i j, i < 5 + 2 * nt → j < 5 + 2 * nt → ad i = ad j → i = j
/-- whose they are -/
def ox (ad : Nat → Nat) (nt : Nat) : Nat → Prop := fun q => ∃ i, i < 5 + 2 * nt ∧ q = ad i
def om {α : Type} (o : Option Nat) (a : α) (b : Nat → α) : α := match o with
  | none => a
  | some j => b j
theorem om_none {α : Type} {o : Option Nat} {a : α} {b : Nat → α} (h : o = none) : om o a b = a := by rw [h]; rfl
theorem om_some {α : Type} {o : Option Nat} {a : α} {b : Nat → α} {j : Nat} (h : o = some j) : om o a b = b j := by rw [h]; rfl
/-- where each cell of a list of addresses stands -/
theorem d_of {ws : va_W} (f : Nat → Nat) (h1 : ∀ (i : Nat) (q : Nat × va_E), ws[i]? = some q → ∀ (j : Nat) (r : Nat × va_E), ws[j]? = some r → q.1 = r.1 → i = j) : va_D (fun _ => True) ws := ⟨fun i j p q hp hq e => h1 i p hp j q hq e, fun _ _ _ => trivial⟩
theorem lst_d {ad : Nat → Nat} {n : Nat} (hinj : ∀ i j, i < n → j < n → ad i = ad j → i = j) {ws : va_W} (is : List Nat) (hl : ws.map Prod.fst = is.map ad) (hn : va_nd is = true) (hb : ∀ i ∈ is, i < n) : va_D (fun _ => True) ws := by
  refine ⟨fun i j p q hp hq e => ?_, fun _ _ _ => trivial⟩
  have hi : (ws.map Prod.fst)[i]? = some p.1 := by rw [List.getElem?_map, hp]; rfl
  have hj : (ws.map Prod.fst)[j]? = some q.1 := by rw [List.getElem?_map, hq]; rfl
  rw [hl, List.getElem?_map] at hi hj
  cases hi1 : is[i]? with
  | none => rw [hi1] at hi; cases hi
  | some a =>
    cases hj1 : is[j]? with
    | none => rw [hj1] at hj; cases hj
    | some b' =>
      rw [hi1] at hi; rw [hj1] at hj
      have ea : ad a = p.1 := Option.some.inj hi
      have eb : ad b' = q.1 := Option.some.inj hj
      have hab : a = b' := hinj a b' (hb a (List.mem_of_getElem? hi1)) (hb b' (List.mem_of_getElem? hj1)) (by rw [ea, eb, e])
      subst hab
      exact va_nd_inj is hn i j a hi1 hj1
theorem aw_iff {ws : va_W} {q : Nat} : aw ws q ↔ q ∈ ws.map Prod.fst := by
  constructor
  · rintro ⟨k, e, h⟩
    exact List.mem_map.mpr ⟨(q, e), List.mem_of_getElem? h, rfl⟩
  · intro h
    obtain ⟨⟨a, e⟩, h1, h2⟩ := List.mem_map.mp h
    obtain ⟨k, hk⟩ := List.getElem?_of_mem h1
    exact ⟨k, e, by rw [hk]; cases h2; rfl⟩
theorem S_mono {A B : Nat → Prop} {H0 H : Heap} {locs : List Loc} (h : va_S A H0 H locs) (hAB : ∀ q, A q → B q) : va_S B H0 H locs := ⟨h.1, fun q h1 h2 => h.2.1 q h1 (fun z => h2 (hAB q z)), fun l hl => hAB _ (h.2.2 l hl)⟩
theorem ox_7 {cA : Nat → ClassId} {ad : Nat → Nat} {nt j : Nat} (hj : j < nt) {T : TS} {G : GS} : ∀ q, aw (cT cA ad j T ++ cX cA ad nt G) q → ox ad nt q := by
  intro q h
  rw [aw_iff] at h
  simp only [List.map_append, List.map_cons, List.map_nil, List.cons_append, List.nil_append, List.mem_cons, List.not_mem_nil, or_false] at h
  rcases h with h | h | h | h | h | h | h
  · exact ⟨5 + 2 * j, by omega, h⟩
  · exact ⟨6 + 2 * j, by omega, h⟩
  · exact ⟨0, by omega, h⟩
  · exact ⟨1, by omega, h⟩
  · exact ⟨2, by omega, h⟩
  · exact ⟨3, by omega, h⟩
  · exact ⟨4, by omega, h⟩
theorem ox_5 {cA : Nat → ClassId} {ad : Nat → Nat} {nt : Nat} {G : GS} : ∀ q, aw (cX cA ad nt G) q → ox ad nt q := by
  intro q h
  rw [aw_iff] at h
  simp only [List.map_cons, List.map_nil, List.mem_cons, List.not_mem_nil, or_false] at h
  rcases h with h | h | h | h | h
  · exact ⟨0, by omega, h⟩
  · exact ⟨1, by omega, h⟩
  · exact ⟨2, by omega, h⟩
  · exact ⟨3, by omega, h⟩
  · exact ⟨4, by omega, h⟩
theorem wx_d7 {cA : Nat → ClassId} {ad : Nat → Nat} {nt j : Nat} (hinj : adX ad nt) (hj : j < nt) {T : TS} {G : GS} : va_D (fun _ => True) (cT cA ad j T ++ cX cA ad nt G) := by
  refine ⟨fun a b' p q hp hq e => ?_, fun _ _ _ => trivial⟩
  have key : ∀ (k : Nat) (r : Nat × va_E), (cT cA ad j T ++ cX cA ad nt G)[k]? = some r → r.1 = ad (if k < 2 then 5 + 2 * j + k else k - 2) ∧ k < 7 := by
    intro k r hr
    match k, hr with
    | 0, hr => cases hr; exact ⟨rfl, by omega⟩
    | 1, hr => cases hr; exact ⟨by simp; congr 1; omega, by omega⟩
    | 2, hr => cases hr; exact ⟨rfl, by omega⟩
    | 3, hr => cases hr; exact ⟨rfl, by omega⟩
    | 4, hr => cases hr; exact ⟨rfl, by omega⟩
    | 5, hr => cases hr; exact ⟨rfl, by omega⟩
    | 6, hr => cases hr; exact ⟨rfl, by omega⟩
    | k + 7, hr => simp at hr
  obtain ⟨e1, h1⟩ := key a p hp
  obtain ⟨e2, h2⟩ := key b' q hq
  rw [e1, e2] at e
  have h3 := hinj _ _ (by split <;> omega) (by split <;> omega) e
  split at h3 <;> split at h3 <;> omega
theorem wx_d5 {cA : Nat → ClassId} {ad : Nat → Nat} {nt : Nat} (hinj : adX ad nt) {G : GS} : va_D (fun _ => True) (cX cA ad nt G) := lst_d hinj [0, 1, 2, 3, 4] rfl rfl (fun i hi => by simp at hi; omega)
/-- behind a method that changed a target's cells, or the graph's -/
theorem wx_put7 {D : va_G} {cA : Nat → ClassId} {ad : Nat → Nat} {nt j : Nat} {G G' : GS} {TT : Nat → TS} {T' : TS} {H0 H : Heap} {locs : List Loc} {A : Nat → Prop} (hW : WX D cA ad nt G TT H0) (hinj : adX ad nt) (hj : j < nt) (hA : A = aw (cT cA ad j (TT j) ++ cX cA ad nt G)) (hS : va_S A H0 H locs) (hP : va_P D classes (cT cA ad j T' ++ cX cA ad nt G') H) : WX D cA ad nt G' (va_up TT j T') H := by
  subst hA
  refine ⟨hP.sub [2, 3, 4, 5, 6] rfl, fun k hk => ?_⟩
  by_cases hkj : k = j
  · subst hkj
    rw [va_up_self]
    exact hP.sub [0, 1] rfl
  · rw [va_up_ne _ _ hkj]
    refine (hW.2 k hk).kept (fun a q hq => ?_)
    have hq0 := (hW.2 k hk a q hq).lt
    refine hS.2.1 q.1 hq0 (fun h => ?_)
    have e : ∃ i, (i = 5 + 2 * k ∨ i = 6 + 2 * k) ∧ q.1 = ad i := by
      match a, hq with
      | 0, hq => cases hq; exact ⟨_, Or.inl rfl, rfl⟩
      | 1, hq => cases hq; exact ⟨_, Or.inr rfl, rfl⟩
      | a + 2, hq => simp at hq
    obtain ⟨i, hi, e⟩ := e
    rw [aw_iff] at h
    simp only [List.map_append, List.map_cons, List.map_nil, List.cons_append, List.nil_append, List.mem_cons, List.not_mem_nil, or_false] at h
    rw [e] at h
    rcases h with h | h | h | h | h | h | h <;> have h2 := hinj _ _ (by omega) (by omega) h <;> omega
theorem wx_put5 {D : va_G} {cA : Nat → ClassId} {ad : Nat → Nat} {nt : Nat} {G G' : GS} {TT : Nat → TS} {H0 H : Heap} {locs : List Loc} {A : Nat → Prop} (hW : WX D cA ad nt G TT H0) (hinj : adX ad nt) (hA : A = aw (cX cA ad nt G)) (hS : va_S A H0 H locs) (hP : va_P D classes (cX cA ad nt G') H) : WX D cA ad nt G' TT H := by
  subst hA
  refine ⟨hP, fun k hk => ?_⟩
  refine (hW.2 k hk).kept (fun a q hq => ?_)
  have hq0 := (hW.2 k hk a q hq).lt
  refine hS.2.1 q.1 hq0 (fun h => ?_)
  have e : ∃ i, (i = 5 + 2 * k ∨ i = 6 + 2 * k) ∧ q.1 = ad i := by
    match a, hq with
    | 0, hq => cases hq; exact ⟨_, Or.inl rfl, rfl⟩
    | 1, hq => cases hq; exact ⟨_, Or.inr rfl, rfl⟩
    | a + 2, hq => simp at hq
  obtain ⟨i, hi, e⟩ := e
  rw [aw_iff] at h
  simp only [List.map_cons, List.map_nil, List.mem_cons, List.not_mem_nil, or_false] at h
  rw [e] at h
  rcases h with h | h | h | h | h <;> have h2 := hinj _ _ (by omega) (by omega) h <;> omega
theorem num_nI {x : Int32} (h : f_x_isNumber x = true) : ∃ j : Nat, j < 40 ∧ x = nI j := by
  unfold f_x_isNumber at h
  by_cases h0 : x < 0
  · rw [if_pos h0] at h; cases h
  · rw [if_neg h0] at h
    by_cases h1 : (40 : Int32) ≤ x
    · rw [if_pos h1] at h; cases h
    · exact in_nI h0 h1
theorem vin2 {x : Int32} (h0 : ¬ x < 0) (h1 : ¬ (40 : Int32) ≤ x) : vp_in x 40 := by
  obtain ⟨j, hj, e⟩ := in_nI h0 h1
  exact vin e hj (by decide)
theorem in_nI2 {x : Int32} (h0 : ¬ x < 0) (h1 : x < 40) : ∃ j : Nat, j < 40 ∧ x = nI j := in_nI h0 (Int32.not_le.mpr h1)
theorem vin3 {x : Int32} (h0 : ¬ x < 0) (h1 : x < 4) : vp_in x 4 := by
  obtain ⟨j, hj, e⟩ := nI_of h0
  have h2 : j < 4 := k_lt e (rfl : (4 : Int32) = nI 4) (Int32.not_le.mpr h1) hj
  exact vin e h2 (by decide)
theorem tvf_at {ad : Nat → Nat} {nt : Nat} {nu : Int32} (hnt : nt ≤ 4) (h0 : ¬ nu < 0) (h1 : ¬ nI nt ≤ nu) : tvf ad nt nu.toNatClampNeg = some (ad (5 + 2 * nu.toNatClampNeg)) := by
  obtain ⟨j, hj, e⟩ := nI_of h0
  have h2 : j < nt := k_lt e rfl h1 hj
  subst e
  rw [nI_clamp hj]
  unfold tvf
  rw [if_pos h2]
