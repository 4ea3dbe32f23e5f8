theorem d_t_init_0 : decode b_t_init 0 = .ok (.aload_n 0, 1) := by decide +kernel
theorem d_t_init_1 : decode b_t_init 1 = .ok (.invokespecial 3, 3) := by decide +kernel
theorem d_t_init_4 : decode b_t_init 4 = .ok (.aload_n 0, 1) := by decide +kernel
theorem d_t_init_5 : decode b_t_init 5 = .ok (.aload_n 1, 1) := by decide +kernel
theorem d_t_init_6 : decode b_t_init 6 = .ok (.putfield 9, 3) := by decide +kernel
theorem d_t_init_9 : decode b_t_init 9 = .ok (.aload_n 0, 1) := by decide +kernel
theorem d_t_init_10 : decode b_t_init 10 = .ok (.bipush 40, 2) := by decide +kernel
theorem d_t_init_12 : decode b_t_init 12 = .ok (.newarray .long, 2) := by decide +kernel
theorem d_t_init_14 : decode b_t_init 14 = .ok (.putfield 15, 3) := by decide +kernel
theorem d_t_init_17 : decode b_t_init 17 = .ok (.aload_n 0, 1) := by decide +kernel
theorem d_t_init_18 : decode b_t_init 18 = .ok (.lconst 0, 1) := by decide +kernel
theorem d_t_init_19 : decode b_t_init 19 = .ok (.putfield 19, 3) := by decide +kernel
theorem d_t_init_22 : decode b_t_init 22 = .ok (.aload_n 0, 1) := by decide +kernel
theorem d_t_init_23 : decode b_t_init 23 = .ok (.lconst 0, 1) := by decide +kernel
theorem d_t_init_24 : decode b_t_init 24 = .ok (.putfield 23, 3) := by decide +kernel
theorem d_t_init_27 : decode b_t_init 27 = .ok (.aload_n 0, 1) := by decide +kernel
theorem d_t_init_28 : decode b_t_init 28 = .ok (.iconst 0, 1) := by decide +kernel
theorem d_t_init_29 : decode b_t_init 29 = .ok (.putfield 26, 3) := by decide +kernel
theorem d_t_init_32 : decode b_t_init 32 = .ok (.aload_n 0, 1) := by decide +kernel
theorem d_t_init_33 : decode b_t_init 33 = .ok (.iconst (-1), 1) := by decide +kernel
theorem d_t_init_34 : decode b_t_init 34 = .ok (.putfield 30, 3) := by decide +kernel
theorem d_t_init_37 : decode b_t_init 37 = .ok (.aload_n 0, 1) := by decide +kernel
theorem d_t_init_38 : decode b_t_init 38 = .ok (.iconst 0, 1) := by decide +kernel
theorem d_t_init_39 : decode b_t_init 39 = .ok (.putfield 34, 3) := by decide +kernel
theorem d_t_init_42 : decode b_t_init 42 = .ok (.aload_n 0, 1) := by decide +kernel
theorem d_t_init_43 : decode b_t_init 43 = .ok (.iconst 1, 1) := by decide +kernel
theorem d_t_init_44 : decode b_t_init 44 = .ok (.putfield 37, 3) := by decide +kernel
theorem d_t_init_47 : decode b_t_init 47 = .ok (.aload_n 0, 1) := by decide +kernel
theorem d_t_init_48 : decode b_t_init 48 = .ok (.bipush 100, 2) := by decide +kernel
theorem d_t_init_50 : decode b_t_init 50 = .ok (.putfield 40, 3) := by decide +kernel
theorem d_t_init_53 : decode b_t_init 53 = .ok (.aload_n 0, 1) := by decide +kernel
theorem d_t_init_54 : decode b_t_init 54 = .ok (.iconst 0, 1) := by decide +kernel
theorem d_t_init_55 : decode b_t_init 55 = .ok (.putfield 43, 3) := by decide +kernel
theorem d_t_init_58 : decode b_t_init 58 = .ok (.aload_n 0, 1) := by decide +kernel
theorem d_t_init_59 : decode b_t_init 59 = .ok (.iconst 0, 1) := by decide +kernel
theorem d_t_init_60 : decode b_t_init 60 = .ok (.putfield 46, 3) := by decide +kernel
theorem d_t_init_63 : decode b_t_init 63 = .ok (.return_, 1) := by decide +kernel
set_option maxHeartbeats 4000000 in
set_option maxRecDepth 100000 in
theorem c_t_init (l : Launch) (D : va_G) (cA : Nat → ClassId) (t : Nat) (gg : Nat) (sz : Nat) : Met l y_t_init (.code y_t_init b_t_init 2 none :: tb) (rma 1 1 40) (Pro D cA [.ref t, .ref gg] (fun H0 => H0.size = sz ∧ va_P D classes [(t, .inr (2, [.null, .null, .long 0, .long 0, .int (bz false), .int 0, .int 0, .int 0, .int 0, .int 0, .int 0]))] H0 ∧ va_D (fun _ => True) [(t, .inr (2, [.null, .null, .long 0, .long 0, .int (bz false), .int 0, .int 0, .int 0, .int 0, .int 0, .int 0]))])) (Qmu (va_A [(t, .inr (2, [.null, .null, .long 0, .long 0, .int (bz false), .int 0, .int 0, .int 0, .int 0, .int 0, .int 0]))] sz) (fun v0 H0 => v0 = none ∧ ∃ n0 : Nat, va_P D classes [(t, .inr (2, [.ref gg, .ref n0, .long 0, .long 0, .int (bz false), .int (-1), .int 0, .int 1, .int 100, .int 0, .int 0])), (n0, .inl (cA 0, 40, .inr (.inl (fun _ => 0))))] H0 ∧ va_D (va_A [(t, .inr (2, [.null, .null, .long 0, .long 0, .int (bz false), .int 0, .int 0, .int 0, .int 0, .int 0, .int 0]))] sz) [(t, .inr (2, [.ref gg, .ref n0, .long 0, .long 0, .int (bz false), .int (-1), .int 0, .int 1, .int 100, .int 0, .int 0])), (n0, .inl (cA 0, 40, .inr (.inl (fun _ => 0))))])) 1 40 (va_A [(t, .inr (2, [.null, .null, .long 0, .long 0, .int (bz false), .int 0, .int 0, .int 0, .int 0, .int 0, .int 0]))] sz) := by
  refine ro_in (by decide) (Nat.le_of_ble_eq_true rfl) (fun p e s m below meth c ls FX hnm hK hP hl => ?_)
  have hl : lv_has ls 2 [(0, .ref t), (1, .ref gg)] := hl
  obtain ⟨hsz, hP, hD0⟩ := hP
  subst hsz
  have hP : va_P D classes [(t, .inr (2, [.null, .null, .long 0, .long 0, .int (bz false), .int 0, .int 0, .int 0, .int 0, .int 0, .int 0]))] s.heap := hP
  have hD := hD0.self (sz := s.heap.size)
  generalize hAe : va_A [(t, .inr (2, [.null, .null, .long 0, .long 0, .int (bz false), .int 0, .int 0, .int 0, .int 0, .int 0, .int 0]))] s.heap.size = A at hD ⊢
  have hA : ∀ q : Nat, s.heap.size ≤ q → A q := fun q h => by rw [← hAe]; exact Or.inr h
  have hS : va_S A s.heap s.heap [] := va_S.rf
  generalize ([.ref t, .ref gg] : List Value).toArray = args at FX ⊢
  obtain ⟨hx, hb, hml, hown, hts, hr, hlk⟩ := id FX
  have hin : meth.name = "<init>" := hnm
  refine lv_aload_n hx hb d_t_init_0 rfl (lv_at hl 0 rfl) ?_
  refine W.objInit hx hb hown (hts _ km_t_3) (hts _ ks_objInit) (hts _ kc_objInit) rfl (by rw [hml]; exact hl.1) rfl d_t_init_1 (Nat.le_of_ble_eq_true rfl) (Nat.le_of_ble_eq_true rfl) ?_
  refine W.eq (g2 := F0 m 4 ls []) rfl ?_
  refine lv_aload_n hx hb d_t_init_4 rfl (lv_at hl 0 rfl) ?_
  refine lv_aload_n hx hb d_t_init_5 rfl (lv_at hl 1 rfl) ?_
  refine va_putF (D := D) (v := .ref gg) (ty := (.object "CulpritSearch$Graph")) hx hb hts i_t t_t t_t_ok n_t hown hK.1 hP hD hS 0 rfl rfl 0 (by decide) (hts _ kf_t_9) (fun _ h9 => h9) rfl hin rfl (by decide +kernel) rfl rfl (Nat.le_of_ble_eq_true rfl) d_t_init_6 (fun H locs hP hD hS => ?_)
  have hP : va_P D classes [(t, .inr (2, [.ref gg, .null, .long 0, .long 0, .int (bz false), .int 0, .int 0, .int 0, .int 0, .int 0, .int 0]))] H := hP
  have hD : va_D A [(t, .inr (2, [.ref gg, .null, .long 0, .long 0, .int (bz false), .int 0, .int 0, .int 0, .int 0, .int 0, .int 0]))] := hD
  refine lv_aload_n hx hb d_t_init_9 rfl (lv_at hl 0 rfl) ?_
  refine lv_bipush (v := 40) hx hb d_t_init_10 (by decide) ?_
  refine va_newa (atype := .long) (ty := .long) (a0 := (40, .inr (.inl (fun _ => 0)))) hx hb (hts _ ka_long) rfl hK.1 hP hD hS hA (fun _ => rfl) (by decide) rfl (by decide) (Nat.le_of_ble_eq_true rfl) (Nat.le_of_ble_eq_true rfl) d_t_init_12 (fun q1 cL H hKK hP hD hS => ?_)
  obtain rfl := arr_same 0 rfl hK hKK (fun _ _ => ra_prim (fun _ h => by cases h))
  have hP : va_P D classes [(t, .inr (2, [.ref gg, .null, .long 0, .long 0, .int (bz false), .int 0, .int 0, .int 0, .int 0, .int 0, .int 0])), (q1, .inl (cA 0, 40, .inr (.inl (fun _ => 0))))] H := hP
  have hD : va_D A [(t, .inr (2, [.ref gg, .null, .long 0, .long 0, .int (bz false), .int 0, .int 0, .int 0, .int 0, .int 0, .int 0])), (q1, .inl (cA 0, 40, .inr (.inl (fun _ => 0))))] := hD
  refine va_putF (D := D) (v := .ref q1) (ty := (.array .long)) hx hb hts i_t t_t t_t_ok n_t hown hK.1 hP hD hS 0 rfl rfl 1 (by decide) (hts _ kf_t_15) (fun _ h9 => h9) rfl hin rfl (by decide +kernel) rfl rfl (Nat.le_of_ble_eq_true rfl) d_t_init_14 (fun H locs hP hD hS => ?_)
  have hP : va_P D classes [(t, .inr (2, [.ref gg, .ref q1, .long 0, .long 0, .int (bz false), .int 0, .int 0, .int 0, .int 0, .int 0, .int 0])), (q1, .inl (cA 0, 40, .inr (.inl (fun _ => 0))))] H := hP
  have hD : va_D A [(t, .inr (2, [.ref gg, .ref q1, .long 0, .long 0, .int (bz false), .int 0, .int 0, .int 0, .int 0, .int 0, .int 0])), (q1, .inl (cA 0, 40, .inr (.inl (fun _ => 0))))] := hD
  refine lv_aload_n hx hb d_t_init_17 rfl (lv_at hl 0 rfl) ?_
  refine lv_lconst (v := 0) hx hb d_t_init_18 (by decide) ?_
  refine va_put (D := D) (v := .long 0) (ty := .long) hx hb hts i_t t_t t_t_ok n_t hown hK.1 hP hD hS 0 rfl rfl 2 (by decide) (hts _ kf_t_19) (fun _ h9 => h9) rfl (by decide +kernel) rfl rfl (Nat.le_of_ble_eq_true rfl) d_t_init_19 (fun H locs hP hD hS => ?_)
  have hP : va_P D classes [(t, .inr (2, [.ref gg, .ref q1, .long 0, .long 0, .int (bz false), .int 0, .int 0, .int 0, .int 0, .int 0, .int 0])), (q1, .inl (cA 0, 40, .inr (.inl (fun _ => 0))))] H := hP
  have hD : va_D A [(t, .inr (2, [.ref gg, .ref q1, .long 0, .long 0, .int (bz false), .int 0, .int 0, .int 0, .int 0, .int 0, .int 0])), (q1, .inl (cA 0, 40, .inr (.inl (fun _ => 0))))] := hD
  refine lv_aload_n hx hb d_t_init_22 rfl (lv_at hl 0 rfl) ?_
  refine lv_lconst (v := 0) hx hb d_t_init_23 (by decide) ?_
  refine va_put (D := D) (v := .long 0) (ty := .long) hx hb hts i_t t_t t_t_ok n_t hown hK.1 hP hD hS 0 rfl rfl 3 (by decide) (hts _ kf_t_23) (fun _ h9 => h9) rfl (by decide +kernel) rfl rfl (Nat.le_of_ble_eq_true rfl) d_t_init_24 (fun H locs hP hD hS => ?_)
  have hP : va_P D classes [(t, .inr (2, [.ref gg, .ref q1, .long 0, .long 0, .int (bz false), .int 0, .int 0, .int 0, .int 0, .int 0, .int 0])), (q1, .inl (cA 0, 40, .inr (.inl (fun _ => 0))))] H := hP
  have hD : va_D A [(t, .inr (2, [.ref gg, .ref q1, .long 0, .long 0, .int (bz false), .int 0, .int 0, .int 0, .int 0, .int 0, .int 0])), (q1, .inl (cA 0, 40, .inr (.inl (fun _ => 0))))] := hD
  refine lv_aload_n hx hb d_t_init_27 rfl (lv_at hl 0 rfl) ?_
  refine lv_iconst (v := 0) hx hb d_t_init_28 (by decide) ?_
  refine W.eq (g2 := F0 m 29 ls [.int (bz false), .ref t]) rfl ?_
  refine va_put (D := D) (v := .int (bz false)) (ty := .boolean) hx hb hts i_t t_t t_t_ok n_t hown hK.1 hP hD hS 0 rfl rfl 4 (by decide) (hts _ kf_t_26) (fun _ h9 => h9) rfl (by decide +kernel) (bz_n _) (bz_ft _) (Nat.le_of_ble_eq_true rfl) d_t_init_29 (fun H locs hP hD hS => ?_)
  have hP : va_P D classes [(t, .inr (2, [.ref gg, .ref q1, .long 0, .long 0, .int (bz false), .int 0, .int 0, .int 0, .int 0, .int 0, .int 0])), (q1, .inl (cA 0, 40, .inr (.inl (fun _ => 0))))] H := hP
  have hD : va_D A [(t, .inr (2, [.ref gg, .ref q1, .long 0, .long 0, .int (bz false), .int 0, .int 0, .int 0, .int 0, .int 0, .int 0])), (q1, .inl (cA 0, 40, .inr (.inl (fun _ => 0))))] := hD
  refine lv_aload_n hx hb d_t_init_32 rfl (lv_at hl 0 rfl) ?_
  refine lv_iconst (v := (-1)) hx hb d_t_init_33 (by decide) ?_
  refine va_put (D := D) (v := .int (-1)) (ty := .int) hx hb hts i_t t_t t_t_ok n_t hown hK.1 hP hD hS 0 rfl rfl 5 (by decide) (hts _ kf_t_30) (fun _ h9 => h9) rfl (by decide +kernel) rfl rfl (Nat.le_of_ble_eq_true rfl) d_t_init_34 (fun H locs hP hD hS => ?_)
  have hP : va_P D classes [(t, .inr (2, [.ref gg, .ref q1, .long 0, .long 0, .int (bz false), .int (-1), .int 0, .int 0, .int 0, .int 0, .int 0])), (q1, .inl (cA 0, 40, .inr (.inl (fun _ => 0))))] H := hP
  have hD : va_D A [(t, .inr (2, [.ref gg, .ref q1, .long 0, .long 0, .int (bz false), .int (-1), .int 0, .int 0, .int 0, .int 0, .int 0])), (q1, .inl (cA 0, 40, .inr (.inl (fun _ => 0))))] := hD
  refine lv_aload_n hx hb d_t_init_37 rfl (lv_at hl 0 rfl) ?_
  refine lv_iconst (v := 0) hx hb d_t_init_38 (by decide) ?_
  refine va_put (D := D) (v := .int 0) (ty := .int) hx hb hts i_t t_t t_t_ok n_t hown hK.1 hP hD hS 0 rfl rfl 6 (by decide) (hts _ kf_t_34) (fun _ h9 => h9) rfl (by decide +kernel) rfl rfl (Nat.le_of_ble_eq_true rfl) d_t_init_39 (fun H locs hP hD hS => ?_)
  have hP : va_P D classes [(t, .inr (2, [.ref gg, .ref q1, .long 0, .long 0, .int (bz false), .int (-1), .int 0, .int 0, .int 0, .int 0, .int 0])), (q1, .inl (cA 0, 40, .inr (.inl (fun _ => 0))))] H := hP
  have hD : va_D A [(t, .inr (2, [.ref gg, .ref q1, .long 0, .long 0, .int (bz false), .int (-1), .int 0, .int 0, .int 0, .int 0, .int 0])), (q1, .inl (cA 0, 40, .inr (.inl (fun _ => 0))))] := hD
  refine lv_aload_n hx hb d_t_init_42 rfl (lv_at hl 0 rfl) ?_
  refine lv_iconst (v := 1) hx hb d_t_init_43 (by decide) ?_
  refine va_put (D := D) (v := .int 1) (ty := .int) hx hb hts i_t t_t t_t_ok n_t hown hK.1 hP hD hS 0 rfl rfl 7 (by decide) (hts _ kf_t_37) (fun _ h9 => h9) rfl (by decide +kernel) rfl rfl (Nat.le_of_ble_eq_true rfl) d_t_init_44 (fun H locs hP hD hS => ?_)
  have hP : va_P D classes [(t, .inr (2, [.ref gg, .ref q1, .long 0, .long 0, .int (bz false), .int (-1), .int 0, .int 1, .int 0, .int 0, .int 0])), (q1, .inl (cA 0, 40, .inr (.inl (fun _ => 0))))] H := hP
  have hD : va_D A [(t, .inr (2, [.ref gg, .ref q1, .long 0, .long 0, .int (bz false), .int (-1), .int 0, .int 1, .int 0, .int 0, .int 0])), (q1, .inl (cA 0, 40, .inr (.inl (fun _ => 0))))] := hD
  refine lv_aload_n hx hb d_t_init_47 rfl (lv_at hl 0 rfl) ?_
  refine lv_bipush (v := 100) hx hb d_t_init_48 (by decide) ?_
  refine va_put (D := D) (v := .int 100) (ty := .int) hx hb hts i_t t_t t_t_ok n_t hown hK.1 hP hD hS 0 rfl rfl 8 (by decide) (hts _ kf_t_40) (fun _ h9 => h9) rfl (by decide +kernel) rfl rfl (Nat.le_of_ble_eq_true rfl) d_t_init_50 (fun H locs hP hD hS => ?_)
  have hP : va_P D classes [(t, .inr (2, [.ref gg, .ref q1, .long 0, .long 0, .int (bz false), .int (-1), .int 0, .int 1, .int 100, .int 0, .int 0])), (q1, .inl (cA 0, 40, .inr (.inl (fun _ => 0))))] H := hP
  have hD : va_D A [(t, .inr (2, [.ref gg, .ref q1, .long 0, .long 0, .int (bz false), .int (-1), .int 0, .int 1, .int 100, .int 0, .int 0])), (q1, .inl (cA 0, 40, .inr (.inl (fun _ => 0))))] := hD
  refine lv_aload_n hx hb d_t_init_53 rfl (lv_at hl 0 rfl) ?_
  refine lv_iconst (v := 0) hx hb d_t_init_54 (by decide) ?_
  refine va_put (D := D) (v := .int 0) (ty := .int) hx hb hts i_t t_t t_t_ok n_t hown hK.1 hP hD hS 0 rfl rfl 9 (by decide) (hts _ kf_t_43) (fun _ h9 => h9) rfl (by decide +kernel) rfl rfl (Nat.le_of_ble_eq_true rfl) d_t_init_55 (fun H locs hP hD hS => ?_)
  have hP : va_P D classes [(t, .inr (2, [.ref gg, .ref q1, .long 0, .long 0, .int (bz false), .int (-1), .int 0, .int 1, .int 100, .int 0, .int 0])), (q1, .inl (cA 0, 40, .inr (.inl (fun _ => 0))))] H := hP
  have hD : va_D A [(t, .inr (2, [.ref gg, .ref q1, .long 0, .long 0, .int (bz false), .int (-1), .int 0, .int 1, .int 100, .int 0, .int 0])), (q1, .inl (cA 0, 40, .inr (.inl (fun _ => 0))))] := hD
  refine lv_aload_n hx hb d_t_init_58 rfl (lv_at hl 0 rfl) ?_
  refine lv_iconst (v := 0) hx hb d_t_init_59 (by decide) ?_
  refine va_put (D := D) (v := .int 0) (ty := .int) hx hb hts i_t t_t t_t_ok n_t hown hK.1 hP hD hS 0 rfl rfl 10 (by decide) (hts _ kf_t_46) (fun _ h9 => h9) rfl (by decide +kernel) rfl rfl (Nat.le_of_ble_eq_true rfl) d_t_init_60 (fun H locs hP hD hS => ?_)
  have hP : va_P D classes [(t, .inr (2, [.ref gg, .ref q1, .long 0, .long 0, .int (bz false), .int (-1), .int 0, .int 1, .int 100, .int 0, .int 0])), (q1, .inl (cA 0, 40, .inr (.inl (fun _ => 0))))] H := hP
  have hD : va_D A [(t, .inr (2, [.ref gg, .ref q1, .long 0, .long 0, .int (bz false), .int (-1), .int 0, .int 1, .int 100, .int 0, .int 0])), (q1, .inl (cA 0, 40, .inr (.inl (fun _ => 0))))] := hD
  have hP : va_P D classes [(t, .inr (2, [.ref gg, .ref q1, .long 0, .long 0, .int (bz false), .int (-1), .int 0, .int 1, .int 100, .int 0, .int 0])), (q1, .inl (cA 0, 40, .inr (.inl (fun _ => 0))))] H := hP.sub [0, 1] rfl
  have hD : va_D A [(t, .inr (2, [.ref gg, .ref q1, .long 0, .long 0, .int (bz false), .int (-1), .int 0, .int 1, .int 100, .int 0, .int 0])), (q1, .inl (cA 0, 40, .inr (.inl (fun _ => 0))))] := hD.sub [0, 1] (by decide) rfl
  exact mu_vret FX hS ⟨rfl, q1, hP, hD⟩ d_t_init_63
theorem d_t_isSearched_0 : decode b_t_isSearched 0 = .ok (.aload_n 0, 1) := by decide +kernel
theorem d_t_isSearched_1 : decode b_t_isSearched 1 = .ok (.getfield 26, 3) := by decide +kernel
theorem d_t_isSearched_4 : decode b_t_isSearched 4 = .ok (.ireturn, 1) := by decide +kernel
def f_t_isSearched (se : Bool) : Bool := se
set_option maxHeartbeats 4000000 in
set_option maxRecDepth 100000 in
theorem c_t_isSearched (l : Launch) (D : va_G) (cA : Nat → ClassId) (t wa : Nat) (go cl : Int64) (se : Bool) (bad fp fq su an sks : Int32) (wt : Nat → Int64) (g pa re : Nat) (ps rs : Nat → Int64) (sz : Int32) (bu sk : Int64) : Met l y_t_isSearched (.code y_t_isSearched b_t_isSearched 1 (some .boolean) :: tb) (rmd 0) (Pro D cA [.ref t] (va_P D classes [(t, .inr (2, [.ref g, .ref wa, .long go, .long cl, .int (bz se), .int bad, .int fp, .int fq, .int su, .int an, .int sks])), (wa, .inl (cA 0, 40, .inr (.inl wt))), (g, .inr (1, [.ref pa, .ref re, .int sz, .long bu, .long sk])), (pa, .inl (cA 0, 40, .inr (.inl ps))), (re, .inl (cA 0, 40, .inr (.inl rs)))])) (Qro (.int (bz (f_t_isSearched se)))) 0 0 nof := by
  refine ro_in (by decide) (Nat.le_of_ble_eq_true rfl) (fun p e s m below meth c ls FX hnm hK hP hl => ?_)
  have hl : lv_has ls 1 [(0, .ref t)] := hl
  have hP : va_P D classes [(t, .inr (2, [.ref g, .ref wa, .long go, .long cl, .int (bz se), .int bad, .int fp, .int fq, .int su, .int an, .int sks])), (wa, .inl (cA 0, 40, .inr (.inl wt))), (g, .inr (1, [.ref pa, .ref re, .int sz, .long bu, .long sk])), (pa, .inl (cA 0, 40, .inr (.inl ps))), (re, .inl (cA 0, 40, .inr (.inl rs)))] s.heap := hP
  generalize ([.ref t] : List Value).toArray = args at FX ⊢
  obtain ⟨hx, hb, hml, hown, hts, hr, hlk⟩ := id FX
  refine lv_aload_n hx hb d_t_isSearched_0 rfl (lv_at hl 0 rfl) ?_
  refine ro_get (v := .int (bz se)) FX hK hP 0 4 rfl rfl rfl i_t (by decide) kf_t_26 d_t_isSearched_1 ?_
  exact ro_zret FX (by rw [f_t_isSearched] <;> rfl) d_t_isSearched_4
theorem d_t_isCleared_0 : decode b_t_isCleared 0 = .ok (.aload_n 0, 1) := by decide +kernel
theorem d_t_isCleared_1 : decode b_t_isCleared 1 = .ok (.getfield 23, 3) := by decide +kernel
theorem d_t_isCleared_4 : decode b_t_isCleared 4 = .ok (.iload_n 1, 1) := by decide +kernel
theorem d_t_isCleared_5 : decode b_t_isCleared 5 = .ok (.invokestatic 49, 3) := by decide +kernel
theorem d_t_isCleared_8 : decode b_t_isCleared 8 = .ok (.ireturn, 1) := by decide +kernel
def f_t_isCleared (cl : Int64) (nu : Int32) : Bool := (f_x_contains cl nu)
set_option maxHeartbeats 4000000 in
set_option maxRecDepth 100000 in
theorem c_t_isCleared (l : Launch) (D : va_G) (cA : Nat → ClassId) (t wa : Nat) (go cl : Int64) (se : Bool) (bad fp fq su an sks : Int32) (wt : Nat → Int64) (g pa re : Nat) (ps rs : Nat → Int64) (sz : Int32) (bu sk : Int64) (nu : Int32) : Met l y_t_isCleared (.code y_t_isCleared b_t_isCleared 2 (some .boolean) :: tb) (rmd 2) (Pro D cA [.ref t, .int nu] (va_P D classes [(t, .inr (2, [.ref g, .ref wa, .long go, .long cl, .int (bz se), .int bad, .int fp, .int fq, .int su, .int an, .int sks])), (wa, .inl (cA 0, 40, .inr (.inl wt))), (g, .inr (1, [.ref pa, .ref re, .int sz, .long bu, .long sk])), (pa, .inl (cA 0, 40, .inr (.inl ps))), (re, .inl (cA 0, 40, .inr (.inl rs)))])) (Qro (.int (bz (f_t_isCleared cl nu)))) 0 0 nof := by
  refine ro_in (by decide) (Nat.le_of_ble_eq_true rfl) (fun p e s m below meth c ls FX hnm hK hP hl => ?_)
  have hl : lv_has ls 2 [(0, .ref t), (1, .int nu)] := hl
  have hP : va_P D classes [(t, .inr (2, [.ref g, .ref wa, .long go, .long cl, .int (bz se), .int bad, .int fp, .int fq, .int su, .int an, .int sks])), (wa, .inl (cA 0, 40, .inr (.inl wt))), (g, .inr (1, [.ref pa, .ref re, .int sz, .long bu, .long sk])), (pa, .inl (cA 0, 40, .inr (.inl ps))), (re, .inl (cA 0, 40, .inr (.inl rs)))] s.heap := hP
  generalize ([.ref t, .int nu] : List Value).toArray = args at FX ⊢
  obtain ⟨hx, hb, hml, hown, hts, hr, hlk⟩ := id FX
  refine lv_aload_n hx hb d_t_isCleared_0 rfl (lv_at hl 0 rfl) ?_
  refine ro_get (v := .long cl) FX hK hP 0 3 rfl rfl rfl i_t (by decide) kf_t_23 d_t_isCleared_1 ?_
  refine lv_iload_n hx hb d_t_isCleared_4 rfl (lv_at hl 1 rfl) ?_
  refine ro_SN (v := .int (bz (f_x_contains cl nu))) (As := [.long cl, .int nu]) (rest := []) FX hK (c_x_contains l D cA cl nu) trivial kc_x_contains km_t_49 ki_x ks_x_contains rfl ok_x_contains ⟨Nat.le_of_ble_eq_true rfl, Nat.le_of_ble_eq_true rfl⟩ ⟨Nat.zero_le _, Nat.zero_le _⟩ hl.1 rfl (Nat.le_of_ble_eq_true rfl) d_t_isCleared_5 ?_
  exact ro_zret FX (by rw [f_t_isCleared] <;> rfl) d_t_isCleared_8
theorem d_t_weightOf_0 : decode b_t_weightOf 0 = .ok (.iload_n 1, 1) := by decide +kernel
theorem d_t_weightOf_1 : decode b_t_weightOf 1 = .ok (.ifCond .lt 21, 3) := by decide +kernel
theorem d_t_weightOf_4 : decode b_t_weightOf 4 = .ok (.iload_n 1, 1) := by decide +kernel
theorem d_t_weightOf_5 : decode b_t_weightOf 5 = .ok (.aload_n 0, 1) := by decide +kernel
theorem d_t_weightOf_6 : decode b_t_weightOf 6 = .ok (.getfield 15, 3) := by decide +kernel
theorem d_t_weightOf_9 : decode b_t_weightOf 9 = .ok (.arraylength, 1) := by decide +kernel
theorem d_t_weightOf_10 : decode b_t_weightOf 10 = .ok (.if_icmp .ge 12, 3) := by decide +kernel
theorem d_t_weightOf_13 : decode b_t_weightOf 13 = .ok (.aload_n 0, 1) := by decide +kernel
theorem d_t_weightOf_14 : decode b_t_weightOf 14 = .ok (.getfield 15, 3) := by decide +kernel
theorem d_t_weightOf_17 : decode b_t_weightOf 17 = .ok (.iload_n 1, 1) := by decide +kernel
theorem d_t_weightOf_18 : decode b_t_weightOf 18 = .ok (.laload, 1) := by decide +kernel
theorem d_t_weightOf_19 : decode b_t_weightOf 19 = .ok (.goto 4, 3) := by decide +kernel
theorem d_t_weightOf_22 : decode b_t_weightOf 22 = .ok (.lconst 0, 1) := by decide +kernel
theorem d_t_weightOf_23 : decode b_t_weightOf 23 = .ok (.lreturn, 1) := by decide +kernel
def f_t_weightOf (wt : Nat → Int64) (nu : Int32) : Int64 := if nu < 0 then
    (0)
  else
    (if 40 ≤ nu then
      (0)
    else
      (wt nu.toNatClampNeg))
set_option maxHeartbeats 4000000 in
set_option maxRecDepth 100000 in
theorem c_t_weightOf (l : Launch) (D : va_G) (cA : Nat → ClassId) (t wa : Nat) (go cl : Int64) (se : Bool) (bad fp fq su an sks : Int32) (wt : Nat → Int64) (g pa re : Nat) (ps rs : Nat → Int64) (sz : Int32) (bu sk : Int64) (nu : Int32) : Met l y_t_weightOf (.code y_t_weightOf b_t_weightOf 2 (some .long) :: tb) (rmd 0) (Pro D cA [.ref t, .int nu] (va_P D classes [(t, .inr (2, [.ref g, .ref wa, .long go, .long cl, .int (bz se), .int bad, .int fp, .int fq, .int su, .int an, .int sks])), (wa, .inl (cA 0, 40, .inr (.inl wt))), (g, .inr (1, [.ref pa, .ref re, .int sz, .long bu, .long sk])), (pa, .inl (cA 0, 40, .inr (.inl ps))), (re, .inl (cA 0, 40, .inr (.inl rs)))])) (Qro (.long (f_t_weightOf wt nu))) 0 0 nof := by
  refine ro_in (by decide) (Nat.le_of_ble_eq_true rfl) (fun p e s m below meth c ls FX hnm hK hP hl => ?_)
  have hl : lv_has ls 2 [(0, .ref t), (1, .int nu)] := hl
  have hP : va_P D classes [(t, .inr (2, [.ref g, .ref wa, .long go, .long cl, .int (bz se), .int bad, .int fp, .int fq, .int su, .int an, .int sks])), (wa, .inl (cA 0, 40, .inr (.inl wt))), (g, .inr (1, [.ref pa, .ref re, .int sz, .long bu, .long sk])), (pa, .inl (cA 0, 40, .inr (.inl ps))), (re, .inl (cA 0, 40, .inr (.inl rs)))] s.heap := hP
  generalize ([.ref t, .int nu] : List Value).toArray = args at FX ⊢
  obtain ⟨hx, hb, hml, hown, hts, hr, hlk⟩ := id FX
  refine lv_iload_n hx hb d_t_weightOf_0 rfl (lv_at hl 1 rfl) ?_
  refine lv_if_lt (tgt := 22) hx hb d_t_weightOf_1 (by decide) (fun c1 => ?_) (fun c1 => ?_)
  · have c1 := c1
    refine lv_lconst (v := 0) hx hb d_t_weightOf_22 (by decide) ?_
    exact ro_lret FX (by rw [f_t_weightOf, if_pos c1]) d_t_weightOf_23
  · have c1 := c1
    refine lv_iload_n hx hb d_t_weightOf_4 rfl (lv_at hl 1 rfl) ?_
    refine lv_aload_n hx hb d_t_weightOf_5 rfl (lv_at hl 0 rfl) ?_
    refine ro_get (v := .ref wa) FX hK hP 0 1 rfl rfl rfl i_t (by decide) kf_t_15 d_t_weightOf_6 ?_
    refine va_alen (v := 40) hx hb hK.1 hP 1 0 rfl rfl rfl d_t_weightOf_9 ?_
    refine lv_icmp_ge (tgt := 22) hx hb d_t_weightOf_10 (by decide) (fun c2 => ?_) (fun c2 => ?_)
    · have c2 := c2
      refine lv_lconst (v := 0) hx hb d_t_weightOf_22 (by decide) ?_
      exact ro_lret FX (by rw [f_t_weightOf, if_neg c1, if_pos c2]) d_t_weightOf_23
    · have c2 := c2
      refine lv_aload_n hx hb d_t_weightOf_13 rfl (lv_at hl 0 rfl) ?_
      refine ro_get (v := .ref wa) FX hK hP 0 1 rfl rfl rfl i_t (by decide) kf_t_15 d_t_weightOf_14 ?_
      refine lv_iload_n hx hb d_t_weightOf_17 rfl (lv_at hl 1 rfl) ?_
      refine va_lald hx hb hK.1 hP 1 0 rfl rfl (vin2 c1 c2) d_t_weightOf_18 ?_
      refine lv_goto (tgt := 23) hx hb d_t_weightOf_19 (by decide) ?_
      exact ro_lret FX (by rw [f_t_weightOf, if_neg c1, if_neg c2]) d_t_weightOf_23
theorem d_t_weightWithin_0 : decode b_t_weightWithin 0 = .ok (.lconst 0, 1) := by decide +kernel
theorem d_t_weightWithin_1 : decode b_t_weightWithin 1 = .ok (.lstore_n 3, 1) := by decide +kernel
theorem d_t_weightWithin_2 : decode b_t_weightWithin 2 = .ok (.iconst 0, 1) := by decide +kernel
theorem d_t_weightWithin_3 : decode b_t_weightWithin 3 = .ok (.istore 5, 2) := by decide +kernel
theorem d_t_weightWithin_5 : decode b_t_weightWithin 5 = .ok (.iload 5, 2) := by decide +kernel
theorem d_t_weightWithin_7 : decode b_t_weightWithin 7 = .ok (.aload_n 0, 1) := by decide +kernel
theorem d_t_weightWithin_8 : decode b_t_weightWithin 8 = .ok (.getfield 15, 3) := by decide +kernel
theorem d_t_weightWithin_11 : decode b_t_weightWithin 11 = .ok (.arraylength, 1) := by decide +kernel
theorem d_t_weightWithin_12 : decode b_t_weightWithin 12 = .ok (.if_icmp .ge 28, 3) := by decide +kernel
theorem d_t_weightWithin_15 : decode b_t_weightWithin 15 = .ok (.lload_n 1, 1) := by decide +kernel
theorem d_t_weightWithin_16 : decode b_t_weightWithin 16 = .ok (.iload 5, 2) := by decide +kernel
theorem d_t_weightWithin_18 : decode b_t_weightWithin 18 = .ok (.invokestatic 49, 3) := by decide +kernel
theorem d_t_weightWithin_21 : decode b_t_weightWithin 21 = .ok (.ifCond .eq 13, 3) := by decide +kernel
theorem d_t_weightWithin_24 : decode b_t_weightWithin 24 = .ok (.lload_n 3, 1) := by decide +kernel
theorem d_t_weightWithin_25 : decode b_t_weightWithin 25 = .ok (.aload_n 0, 1) := by decide +kernel
theorem d_t_weightWithin_26 : decode b_t_weightWithin 26 = .ok (.getfield 15, 3) := by decide +kernel
theorem d_t_weightWithin_29 : decode b_t_weightWithin 29 = .ok (.iload 5, 2) := by decide +kernel
theorem d_t_weightWithin_31 : decode b_t_weightWithin 31 = .ok (.laload, 1) := by decide +kernel
theorem d_t_weightWithin_32 : decode b_t_weightWithin 32 = .ok (.ladd, 1) := by decide +kernel
theorem d_t_weightWithin_33 : decode b_t_weightWithin 33 = .ok (.lstore_n 3, 1) := by decide +kernel
theorem d_t_weightWithin_34 : decode b_t_weightWithin 34 = .ok (.iinc 5 1, 3) := by decide +kernel
theorem d_t_weightWithin_37 : decode b_t_weightWithin 37 = .ok (.goto (-32), 3) := by decide +kernel
theorem d_t_weightWithin_40 : decode b_t_weightWithin 40 = .ok (.lload_n 3, 1) := by decide +kernel
theorem d_t_weightWithin_41 : decode b_t_weightWithin 41 = .ok (.lreturn, 1) := by decide +kernel
def L_t_weightWithin_5 (wt : Nat → Int64) (zs : Int64) : Nat → Int64 → Int32 → Int64
  | 0, _, _ => 0
  | n + 1, ac, xi => if 40 ≤ xi then
    (ac)
  else
    (if (f_x_contains zs xi) = true then
      (L_t_weightWithin_5 wt zs n (ac + (wt xi.toNatClampNeg)) (xi + 1))
    else
      (L_t_weightWithin_5 wt zs n ac (xi + 1)))
theorem L_t_weightWithin_5_s (wt : Nat → Int64) (zs : Int64) (n : Nat) (ac : Int64) (xi : Int32) : L_t_weightWithin_5 wt zs (n + 1) ac xi = if 40 ≤ xi then
    (ac)
  else
    (if (f_x_contains zs xi) = true then
      (L_t_weightWithin_5 wt zs n (ac + (wt xi.toNatClampNeg)) (xi + 1))
    else
      (L_t_weightWithin_5 wt zs n ac (xi + 1))) := rfl
def f_t_weightWithin (wt : Nat → Int64) (zs : Int64) : Int64 := L_t_weightWithin_5 wt zs 41 0 0
set_option maxHeartbeats 4000000 in
set_option maxRecDepth 100000 in
theorem c_t_weightWithin (l : Launch) (D : va_G) (cA : Nat → ClassId) (t wa : Nat) (go cl : Int64) (se : Bool) (bad fp fq su an sks : Int32) (wt : Nat → Int64) (g pa re : Nat) (ps rs : Nat → Int64) (sz : Int32) (bu sk : Int64) (zs : Int64) : Met l y_t_weightWithin (.code y_t_weightWithin b_t_weightWithin 6 (some .long) :: tb) (rmd 2) (Pro D cA [.ref t, .long zs] (va_P D classes [(t, .inr (2, [.ref g, .ref wa, .long go, .long cl, .int (bz se), .int bad, .int fp, .int fq, .int su, .int an, .int sks])), (wa, .inl (cA 0, 40, .inr (.inl wt))), (g, .inr (1, [.ref pa, .ref re, .int sz, .long bu, .long sk])), (pa, .inl (cA 0, 40, .inr (.inl ps))), (re, .inl (cA 0, 40, .inr (.inl rs)))])) (Qro (.long (f_t_weightWithin wt zs))) 0 0 nof := by
  refine ro_in (by decide) (Nat.le_of_ble_eq_true rfl) (fun p e s m below meth c ls FX hnm hK hP hl => ?_)
  have hl : lv_has ls 6 [(0, .ref t), (1, .long zs)] := hl
  have hP : va_P D classes [(t, .inr (2, [.ref g, .ref wa, .long go, .long cl, .int (bz se), .int bad, .int fp, .int fq, .int su, .int an, .int sks])), (wa, .inl (cA 0, 40, .inr (.inl wt))), (g, .inr (1, [.ref pa, .ref re, .int sz, .long bu, .long sk])), (pa, .inl (cA 0, 40, .inr (.inl ps))), (re, .inl (cA 0, 40, .inr (.inl rs)))] s.heap := hP
  generalize ([.ref t, .long zs] : List Value).toArray = args at FX ⊢
  obtain ⟨hx, hb, hml, hown, hts, hr, hlk⟩ := id FX
  refine lv_lconst (v := 0) hx hb d_t_weightWithin_0 (by decide) ?_
  refine lv_lstore_n (lv' := [(3, .long 0), (0, .ref t), (1, .long zs)]) hx hb d_t_weightWithin_1 rfl hl (by decide) rfl (fun ls hl => ?_)
  refine lv_iconst (v := 0) hx hb d_t_weightWithin_2 (by decide) ?_
  refine lv_istore (lv' := [(5, .int 0), (3, .long 0), (0, .ref t), (1, .long zs)]) hx hb d_t_weightWithin_3 hl (by decide) rfl (fun ls hl => ?_)
  have loop : ∀ (n k : Nat) (ac : Int64) (xi : Int32) (ls : Array Slot), k + n = 41 → k ≤ 40 → xi = nI k → lv_has ls 6 [(0, .ref t), (1, .long zs), (3, .long ac), (5, .int xi)] → W p l e (rmd 2) s m args below meth c s.heap [] 0 0 (MQ below (Qro (.long (L_t_weightWithin_5 wt zs n ac xi))) args s 0 0 nof) (F0 m 5 ls []) := by
    intro n
    induction n with
    | zero =>
      intro k ac xi ls h1 h2
      exact absurd h1 (by omega)
    | succ n ih =>
      intro k ac xi ls hkn hk hxi hl
      refine lv_iload hx hb d_t_weightWithin_5 (lv_at hl 3 rfl) ?_
      refine lv_aload_n hx hb d_t_weightWithin_7 rfl (lv_at hl 0 rfl) ?_
      refine ro_get (v := .ref wa) FX hK hP 0 1 rfl rfl rfl i_t (by decide) kf_t_15 d_t_weightWithin_8 ?_
      refine va_alen (v := 40) hx hb hK.1 hP 1 0 rfl rfl rfl d_t_weightWithin_11 ?_
      refine lv_icmp_ge (tgt := 40) hx hb d_t_weightWithin_12 (by decide) (fun c1 => ?_) (fun c1 => ?_)
      · have c1 := c1
        refine lv_lload_n hx hb d_t_weightWithin_40 rfl (lv_at hl 2 rfl) ?_
        exact ro_lret FX (by rw [L_t_weightWithin_5_s, if_pos c1]) d_t_weightWithin_41
      · have c1 := c1
        have hk1 : k < 40 := k_lt hxi rfl c1 (by omega)
        refine lv_lload_n hx hb d_t_weightWithin_15 rfl (lv_at hl 1 rfl) ?_
        refine lv_iload hx hb d_t_weightWithin_16 (lv_at hl 3 rfl) ?_
        refine ro_SN (v := .int (bz (f_x_contains zs xi))) (As := [.long zs, .int xi]) (rest := []) FX hK (c_x_contains l D cA zs xi) trivial kc_x_contains km_t_49 ki_x ks_x_contains rfl ok_x_contains ⟨Nat.le_of_ble_eq_true rfl, Nat.le_of_ble_eq_true rfl⟩ ⟨Nat.zero_le _, Nat.zero_le _⟩ hl.1 rfl (Nat.le_of_ble_eq_true rfl) d_t_weightWithin_18 ?_
        refine lv_if_eq (tgt := 34) hx hb d_t_weightWithin_21 (by decide) (fun c2 => ?_) (fun c2 => ?_)
        · have c2 := bz_f c2
          refine lv_iinc (v := xi + 1) (lv' := [(5, .int (xi + 1)), (0, .ref t), (1, .long zs), (3, .long ac)]) hx hb d_t_weightWithin_34 hl (k := 3) rfl rfl (by decide) rfl (fun ls hl => ?_)
          refine lv_goto (tgt := 5) hx hb d_t_weightWithin_37 (by decide) ?_
          refine ro_to (by rw [L_t_weightWithin_5_s, if_neg c1, if_neg c2]) ?_
          exact ih (k + 1) ac (xi + 1) ls (by omega) (by omega) (by rw [hxi]; exact nI_1 _)  (lv_sub hl [1, 2, 3, 0] rfl)
        · have c2 := bz_t c2
          refine lv_lload_n hx hb d_t_weightWithin_24 rfl (lv_at hl 2 rfl) ?_
          refine lv_aload_n hx hb d_t_weightWithin_25 rfl (lv_at hl 0 rfl) ?_
          refine ro_get (v := .ref wa) FX hK hP 0 1 rfl rfl rfl i_t (by decide) kf_t_15 d_t_weightWithin_26 ?_
          refine lv_iload hx hb d_t_weightWithin_29 (lv_at hl 3 rfl) ?_
          refine va_lald hx hb hK.1 hP 1 0 rfl rfl (vin hxi hk1 (by decide)) d_t_weightWithin_31 ?_
          refine lv_ladd hx hb d_t_weightWithin_32 ?_
          refine lv_lstore_n (lv' := [(3, .long (ac + (wt xi.toNatClampNeg))), (0, .ref t), (1, .long zs), (5, .int xi)]) hx hb d_t_weightWithin_33 rfl hl (by decide) rfl (fun ls hl => ?_)
          refine lv_iinc (v := xi + 1) (lv' := [(5, .int (xi + 1)), (3, .long (ac + (wt xi.toNatClampNeg))), (0, .ref t), (1, .long zs)]) hx hb d_t_weightWithin_34 hl (k := 3) rfl rfl (by decide) rfl (fun ls hl => ?_)
          refine lv_goto (tgt := 5) hx hb d_t_weightWithin_37 (by decide) ?_
          refine ro_to (by rw [L_t_weightWithin_5_s, if_neg c1, if_pos c2]) ?_
          exact ih (k + 1) (ac + (wt xi.toNatClampNeg)) (xi + 1) ls (by omega) (by omega) (by rw [hxi]; exact nI_1 _)  (lv_sub hl [2, 3, 1, 0] rfl)
  refine ro_to (by rw [f_t_weightWithin]) ?_
  exact loop 41 0 0 0 ls rfl (Nat.zero_le _) rfl  (lv_sub hl [2, 3, 1, 0] rfl)
theorem d_t_weightOfAll_0 : decode b_t_weightOfAll 0 = .ok (.lconst 0, 1) := by decide +kernel
theorem d_t_weightOfAll_1 : decode b_t_weightOfAll 1 = .ok (.lstore_n 1, 1) := by decide +kernel
theorem d_t_weightOfAll_2 : decode b_t_weightOfAll 2 = .ok (.iconst 0, 1) := by decide +kernel
theorem d_t_weightOfAll_3 : decode b_t_weightOfAll 3 = .ok (.istore_n 3, 1) := by decide +kernel
theorem d_t_weightOfAll_4 : decode b_t_weightOfAll 4 = .ok (.iload_n 3, 1) := by decide +kernel
theorem d_t_weightOfAll_5 : decode b_t_weightOfAll 5 = .ok (.aload_n 0, 1) := by decide +kernel
theorem d_t_weightOfAll_6 : decode b_t_weightOfAll 6 = .ok (.getfield 15, 3) := by decide +kernel
theorem d_t_weightOfAll_9 : decode b_t_weightOfAll 9 = .ok (.arraylength, 1) := by decide +kernel
theorem d_t_weightOfAll_10 : decode b_t_weightOfAll 10 = .ok (.if_icmp .ge 18, 3) := by decide +kernel
theorem d_t_weightOfAll_13 : decode b_t_weightOfAll 13 = .ok (.lload_n 1, 1) := by decide +kernel
theorem d_t_weightOfAll_14 : decode b_t_weightOfAll 14 = .ok (.aload_n 0, 1) := by decide +kernel
theorem d_t_weightOfAll_15 : decode b_t_weightOfAll 15 = .ok (.getfield 15, 3) := by decide +kernel
theorem d_t_weightOfAll_18 : decode b_t_weightOfAll 18 = .ok (.iload_n 3, 1) := by decide +kernel
theorem d_t_weightOfAll_19 : decode b_t_weightOfAll 19 = .ok (.laload, 1) := by decide +kernel
theorem d_t_weightOfAll_20 : decode b_t_weightOfAll 20 = .ok (.ladd, 1) := by decide +kernel
theorem d_t_weightOfAll_21 : decode b_t_weightOfAll 21 = .ok (.lstore_n 1, 1) := by decide +kernel
theorem d_t_weightOfAll_22 : decode b_t_weightOfAll 22 = .ok (.iinc 3 1, 3) := by decide +kernel
theorem d_t_weightOfAll_25 : decode b_t_weightOfAll 25 = .ok (.goto (-21), 3) := by decide +kernel
theorem d_t_weightOfAll_28 : decode b_t_weightOfAll 28 = .ok (.lload_n 1, 1) := by decide +kernel
theorem d_t_weightOfAll_29 : decode b_t_weightOfAll 29 = .ok (.lreturn, 1) := by decide +kernel
def L_t_weightOfAll_4 (wt : Nat → Int64) : Nat → Int64 → Int32 → Int64
  | 0, _, _ => 0
  | n + 1, ac, xi => if 40 ≤ xi then
    (ac)
  else
    (L_t_weightOfAll_4 wt n (ac + (wt xi.toNatClampNeg)) (xi + 1))
theorem L_t_weightOfAll_4_s (wt : Nat → Int64) (n : Nat) (ac : Int64) (xi : Int32) : L_t_weightOfAll_4 wt (n + 1) ac xi = if 40 ≤ xi then
    (ac)
  else
    (L_t_weightOfAll_4 wt n (ac + (wt xi.toNatClampNeg)) (xi + 1)) := rfl
def f_t_weightOfAll (wt : Nat → Int64) : Int64 := L_t_weightOfAll_4 wt 41 0 0
set_option maxHeartbeats 4000000 in
set_option maxRecDepth 100000 in
theorem c_t_weightOfAll (l : Launch) (D : va_G) (cA : Nat → ClassId) (t wa : Nat) (go cl : Int64) (se : Bool) (bad fp fq su an sks : Int32) (wt : Nat → Int64) (g pa re : Nat) (ps rs : Nat → Int64) (sz : Int32) (bu sk : Int64) : Met l y_t_weightOfAll (.code y_t_weightOfAll b_t_weightOfAll 4 (some .long) :: tb) (rmd 0) (Pro D cA [.ref t] (va_P D classes [(t, .inr (2, [.ref g, .ref wa, .long go, .long cl, .int (bz se), .int bad, .int fp, .int fq, .int su, .int an, .int sks])), (wa, .inl (cA 0, 40, .inr (.inl wt))), (g, .inr (1, [.ref pa, .ref re, .int sz, .long bu, .long sk])), (pa, .inl (cA 0, 40, .inr (.inl ps))), (re, .inl (cA 0, 40, .inr (.inl rs)))])) (Qro (.long (f_t_weightOfAll wt))) 0 0 nof := by
  refine ro_in (by decide) (Nat.le_of_ble_eq_true rfl) (fun p e s m below meth c ls FX hnm hK hP hl => ?_)
  have hl : lv_has ls 4 [(0, .ref t)] := hl
  have hP : va_P D classes [(t, .inr (2, [.ref g, .ref wa, .long go, .long cl, .int (bz se), .int bad, .int fp, .int fq, .int su, .int an, .int sks])), (wa, .inl (cA 0, 40, .inr (.inl wt))), (g, .inr (1, [.ref pa, .ref re, .int sz, .long bu, .long sk])), (pa, .inl (cA 0, 40, .inr (.inl ps))), (re, .inl (cA 0, 40, .inr (.inl rs)))] s.heap := hP
  generalize ([.ref t] : List Value).toArray = args at FX ⊢
  obtain ⟨hx, hb, hml, hown, hts, hr, hlk⟩ := id FX
  refine lv_lconst (v := 0) hx hb d_t_weightOfAll_0 (by decide) ?_
  refine lv_lstore_n (lv' := [(1, .long 0), (0, .ref t)]) hx hb d_t_weightOfAll_1 rfl hl (by decide) rfl (fun ls hl => ?_)
  refine lv_iconst (v := 0) hx hb d_t_weightOfAll_2 (by decide) ?_
  refine lv_istore_n (lv' := [(3, .int 0), (1, .long 0), (0, .ref t)]) hx hb d_t_weightOfAll_3 rfl hl (by decide) rfl (fun ls hl => ?_)
  have loop : ∀ (n k : Nat) (ac : Int64) (xi : Int32) (ls : Array Slot), k + n = 41 → k ≤ 40 → xi = nI k → lv_has ls 4 [(0, .ref t), (1, .long ac), (3, .int xi)] → W p l e (rmd 0) s m args below meth c s.heap [] 0 0 (MQ below (Qro (.long (L_t_weightOfAll_4 wt n ac xi))) args s 0 0 nof) (F0 m 4 ls []) := by
    intro n
    induction n with
    | zero =>
      intro k ac xi ls h1 h2
      exact absurd h1 (by omega)
    | succ n ih =>
      intro k ac xi ls hkn hk hxi hl
      refine lv_iload_n hx hb d_t_weightOfAll_4 rfl (lv_at hl 2 rfl) ?_
      refine lv_aload_n hx hb d_t_weightOfAll_5 rfl (lv_at hl 0 rfl) ?_
      refine ro_get (v := .ref wa) FX hK hP 0 1 rfl rfl rfl i_t (by decide) kf_t_15 d_t_weightOfAll_6 ?_
      refine va_alen (v := 40) hx hb hK.1 hP 1 0 rfl rfl rfl d_t_weightOfAll_9 ?_
      refine lv_icmp_ge (tgt := 28) hx hb d_t_weightOfAll_10 (by decide) (fun c1 => ?_) (fun c1 => ?_)
      · have c1 := c1
        refine lv_lload_n hx hb d_t_weightOfAll_28 rfl (lv_at hl 1 rfl) ?_
        exact ro_lret FX (by rw [L_t_weightOfAll_4_s, if_pos c1]) d_t_weightOfAll_29
      · have c1 := c1
        have hk1 : k < 40 := k_lt hxi rfl c1 (by omega)
        refine lv_lload_n hx hb d_t_weightOfAll_13 rfl (lv_at hl 1 rfl) ?_
        refine lv_aload_n hx hb d_t_weightOfAll_14 rfl (lv_at hl 0 rfl) ?_
        refine ro_get (v := .ref wa) FX hK hP 0 1 rfl rfl rfl i_t (by decide) kf_t_15 d_t_weightOfAll_15 ?_
        refine lv_iload_n hx hb d_t_weightOfAll_18 rfl (lv_at hl 2 rfl) ?_
        refine va_lald hx hb hK.1 hP 1 0 rfl rfl (vin hxi hk1 (by decide)) d_t_weightOfAll_19 ?_
        refine lv_ladd hx hb d_t_weightOfAll_20 ?_
        refine lv_lstore_n (lv' := [(1, .long (ac + (wt xi.toNatClampNeg))), (0, .ref t), (3, .int xi)]) hx hb d_t_weightOfAll_21 rfl hl (by decide) rfl (fun ls hl => ?_)
        refine lv_iinc (v := xi + 1) (lv' := [(3, .int (xi + 1)), (1, .long (ac + (wt xi.toNatClampNeg))), (0, .ref t)]) hx hb d_t_weightOfAll_22 hl (k := 2) rfl rfl (by decide) rfl (fun ls hl => ?_)
        refine lv_goto (tgt := 4) hx hb d_t_weightOfAll_25 (by decide) ?_
        refine ro_to (by rw [L_t_weightOfAll_4_s, if_neg c1]) ?_
        exact ih (k + 1) (ac + (wt xi.toNatClampNeg)) (xi + 1) ls (by omega) (by omega) (by rw [hxi]; exact nI_1 _)  (lv_sub hl [2, 1, 0] rfl)
  refine ro_to (by rw [f_t_weightOfAll]) ?_
  exact loop 41 0 0 0 ls rfl (Nat.zero_le _) rfl  (lv_sub hl [2, 1, 0] rfl)
theorem d_t_culprit_0 : decode b_t_culprit 0 = .ok (.aload_n 0, 1) := by decide +kernel
theorem d_t_culprit_1 : decode b_t_culprit 1 = .ok (.getfield 40, 3) := by decide +kernel
theorem d_t_culprit_4 : decode b_t_culprit 4 = .ok (.i2l, 1) := by decide +kernel
theorem d_t_culprit_5 : decode b_t_culprit 5 = .ok (.aload_n 0, 1) := by decide +kernel
theorem d_t_culprit_6 : decode b_t_culprit 6 = .ok (.invokevirtual 70, 3) := by decide +kernel
theorem d_t_culprit_9 : decode b_t_culprit 9 = .ok (.lmul, 1) := by decide +kernel
theorem d_t_culprit_10 : decode b_t_culprit 10 = .ok (.lstore_n 1, 1) := by decide +kernel
theorem d_t_culprit_11 : decode b_t_culprit 11 = .ok (.iconst 0, 1) := by decide +kernel
theorem d_t_culprit_12 : decode b_t_culprit 12 = .ok (.istore_n 3, 1) := by decide +kernel
theorem d_t_culprit_13 : decode b_t_culprit 13 = .ok (.iload_n 3, 1) := by decide +kernel
theorem d_t_culprit_14 : decode b_t_culprit 14 = .ok (.aload_n 0, 1) := by decide +kernel
theorem d_t_culprit_15 : decode b_t_culprit 15 = .ok (.getfield 15, 3) := by decide +kernel
theorem d_t_culprit_18 : decode b_t_culprit 18 = .ok (.arraylength, 1) := by decide +kernel
theorem d_t_culprit_19 : decode b_t_culprit 19 = .ok (.if_icmp .ge 37, 3) := by decide +kernel
theorem d_t_culprit_22 : decode b_t_culprit 22 = .ok (.aload_n 0, 1) := by decide +kernel
theorem d_t_culprit_23 : decode b_t_culprit 23 = .ok (.getfield 15, 3) := by decide +kernel
theorem d_t_culprit_26 : decode b_t_culprit 26 = .ok (.iload_n 3, 1) := by decide +kernel
theorem d_t_culprit_27 : decode b_t_culprit 27 = .ok (.laload, 1) := by decide +kernel
theorem d_t_culprit_28 : decode b_t_culprit 28 = .ok (.lconst 0, 1) := by decide +kernel
theorem d_t_culprit_29 : decode b_t_culprit 29 = .ok (.lcmp, 1) := by decide +kernel
theorem d_t_culprit_30 : decode b_t_culprit 30 = .ok (.ifCond .le 20, 3) := by decide +kernel
theorem d_t_culprit_33 : decode b_t_culprit 33 = .ok (.aload_n 0, 1) := by decide +kernel
theorem d_t_culprit_34 : decode b_t_culprit 34 = .ok (.getfield 15, 3) := by decide +kernel
theorem d_t_culprit_37 : decode b_t_culprit 37 = .ok (.iload_n 3, 1) := by decide +kernel
theorem d_t_culprit_38 : decode b_t_culprit 38 = .ok (.laload, 1) := by decide +kernel
theorem d_t_culprit_39 : decode b_t_culprit 39 = .ok (.ldc2_w 74, 3) := by decide +kernel
theorem d_t_culprit_42 : decode b_t_culprit 42 = .ok (.lmul, 1) := by decide +kernel
theorem d_t_culprit_43 : decode b_t_culprit 43 = .ok (.lload_n 1, 1) := by decide +kernel
theorem d_t_culprit_44 : decode b_t_culprit 44 = .ok (.lcmp, 1) := by decide +kernel
theorem d_t_culprit_45 : decode b_t_culprit 45 = .ok (.ifCond .lt 5, 3) := by decide +kernel
theorem d_t_culprit_48 : decode b_t_culprit 48 = .ok (.iload_n 3, 1) := by decide +kernel
theorem d_t_culprit_49 : decode b_t_culprit 49 = .ok (.ireturn, 1) := by decide +kernel
theorem d_t_culprit_50 : decode b_t_culprit 50 = .ok (.iinc 3 1, 3) := by decide +kernel
theorem d_t_culprit_53 : decode b_t_culprit 53 = .ok (.goto (-40), 3) := by decide +kernel
theorem d_t_culprit_56 : decode b_t_culprit 56 = .ok (.iconst (-1), 1) := by decide +kernel
theorem d_t_culprit_57 : decode b_t_culprit 57 = .ok (.ireturn, 1) := by decide +kernel
def L_t_culprit_13 (su : Int32) (wt : Nat → Int64) : Nat → Int32 → Int32
  | 0, _ => 0
  | n + 1, xi => if 40 ≤ xi then
    ((-1))
  else
    (if 0 < (wt xi.toNatClampNeg) then
      (if ((wt xi.toNatClampNeg) * 100) < (su.toInt64 * (f_t_weightOfAll wt)) then
        (L_t_culprit_13 su wt n (xi + 1))
      else
        (xi))
    else
      (L_t_culprit_13 su wt n (xi + 1)))
theorem L_t_culprit_13_s (su : Int32) (wt : Nat → Int64) (n : Nat) (xi : Int32) : L_t_culprit_13 su wt (n + 1) xi = if 40 ≤ xi then
    ((-1))
  else
    (if 0 < (wt xi.toNatClampNeg) then
      (if ((wt xi.toNatClampNeg) * 100) < (su.toInt64 * (f_t_weightOfAll wt)) then
        (L_t_culprit_13 su wt n (xi + 1))
      else
        (xi))
    else
      (L_t_culprit_13 su wt n (xi + 1))) := rfl
def f_t_culprit (su : Int32) (wt : Nat → Int64) : Int32 := L_t_culprit_13 su wt 41 0
set_option maxHeartbeats 4000000 in
set_option maxRecDepth 100000 in
theorem c_t_culprit (l : Launch) (D : va_G) (cA : Nat → ClassId) (t wa : Nat) (go cl : Int64) (se : Bool) (bad fp fq su an sks : Int32) (wt : Nat → Int64) (g pa re : Nat) (ps rs : Nat → Int64) (sz : Int32) (bu sk : Int64) : Met l y_t_culprit (.code y_t_culprit b_t_culprit 4 (some .int) :: tb) (rmd 1) (Pro D cA [.ref t] (va_P D classes [(t, .inr (2, [.ref g, .ref wa, .long go, .long cl, .int (bz se), .int bad, .int fp, .int fq, .int su, .int an, .int sks])), (wa, .inl (cA 0, 40, .inr (.inl wt))), (g, .inr (1, [.ref pa, .ref re, .int sz, .long bu, .long sk])), (pa, .inl (cA 0, 40, .inr (.inl ps))), (re, .inl (cA 0, 40, .inr (.inl rs)))])) (Qro (.int (f_t_culprit su wt))) 0 0 nof := by
  refine ro_in (by decide) (Nat.le_of_ble_eq_true rfl) (fun p e s m below meth c ls FX hnm hK hP hl => ?_)
  have hl : lv_has ls 4 [(0, .ref t)] := hl
  have hP : va_P D classes [(t, .inr (2, [.ref g, .ref wa, .long go, .long cl, .int (bz se), .int bad, .int fp, .int fq, .int su, .int an, .int sks])), (wa, .inl (cA 0, 40, .inr (.inl wt))), (g, .inr (1, [.ref pa, .ref re, .int sz, .long bu, .long sk])), (pa, .inl (cA 0, 40, .inr (.inl ps))), (re, .inl (cA 0, 40, .inr (.inl rs)))] s.heap := hP
  generalize ([.ref t] : List Value).toArray = args at FX ⊢
  obtain ⟨hx, hb, hml, hown, hts, hr, hlk⟩ := id FX
  refine lv_aload_n hx hb d_t_culprit_0 rfl (lv_at hl 0 rfl) ?_
  refine ro_get (v := .int su) FX hK hP 0 8 rfl rfl rfl i_t (by decide) kf_t_40 d_t_culprit_1 ?_
  refine lv_i2l (v := su.toInt64) hx hb d_t_culprit_4 rfl ?_
  refine lv_aload_n hx hb d_t_culprit_5 rfl (lv_at hl 0 rfl) ?_
  refine ro_V (v := .long (f_t_weightOfAll wt)) (As := []) (rest := [.long su.toInt64]) (q0 := 0) FX hK (c_t_weightOfAll l D cA t wa go cl se bad fp fq su an sks wt g pa re ps rs sz bu sk) hP hP rfl rfl rfl kc_t_weightOfAll km_t_70 ki_t ks_t_weightOfAll ke_t_weightOfAll rfl ok_t_weightOfAll ⟨Nat.le_of_ble_eq_true rfl, Nat.le_of_ble_eq_true rfl⟩ ⟨Nat.zero_le _, Nat.zero_le _⟩ hl.1 rfl (Nat.le_of_ble_eq_true rfl) d_t_culprit_6 ?_
  refine lv_lmul hx hb d_t_culprit_9 ?_
  refine lv_lstore_n (lv' := [(1, .long (su.toInt64 * (f_t_weightOfAll wt))), (0, .ref t)]) hx hb d_t_culprit_10 rfl hl (by decide) rfl (fun ls hl => ?_)
  refine lv_iconst (v := 0) hx hb d_t_culprit_11 (by decide) ?_
  refine lv_istore_n (lv' := [(3, .int 0), (1, .long (su.toInt64 * (f_t_weightOfAll wt))), (0, .ref t)]) hx hb d_t_culprit_12 rfl hl (by decide) rfl (fun ls hl => ?_)
  have loop : ∀ (n k : Nat) (xi : Int32) (ls : Array Slot), k + n = 41 → k ≤ 40 → xi = nI k → lv_has ls 4 [(0, .ref t), (1, .long (su.toInt64 * (f_t_weightOfAll wt))), (3, .int xi)] → W p l e (rmd 1) s m args below meth c s.heap [] 0 0 (MQ below (Qro (.int (L_t_culprit_13 su wt n xi))) args s 0 0 nof) (F0 m 13 ls []) := by
    intro n
    induction n with
    | zero =>
      intro k xi ls h1 h2
      exact absurd h1 (by omega)
    | succ n ih =>
      intro k xi ls hkn hk hxi hl
      refine lv_iload_n hx hb d_t_culprit_13 rfl (lv_at hl 2 rfl) ?_
      refine lv_aload_n hx hb d_t_culprit_14 rfl (lv_at hl 0 rfl) ?_
      refine ro_get (v := .ref wa) FX hK hP 0 1 rfl rfl rfl i_t (by decide) kf_t_15 d_t_culprit_15 ?_
      refine va_alen (v := 40) hx hb hK.1 hP 1 0 rfl rfl rfl d_t_culprit_18 ?_
      refine lv_icmp_ge (tgt := 56) hx hb d_t_culprit_19 (by decide) (fun c1 => ?_) (fun c1 => ?_)
      · have c1 := c1
        refine lv_iconst (v := (-1)) hx hb d_t_culprit_56 (by decide) ?_
        exact ro_iret FX (by rw [L_t_culprit_13_s, if_pos c1]) d_t_culprit_57
      · have c1 := c1
        have hk1 : k < 40 := k_lt hxi rfl c1 (by omega)
        refine lv_aload_n hx hb d_t_culprit_22 rfl (lv_at hl 0 rfl) ?_
        refine ro_get (v := .ref wa) FX hK hP 0 1 rfl rfl rfl i_t (by decide) kf_t_15 d_t_culprit_23 ?_
        refine lv_iload_n hx hb d_t_culprit_26 rfl (lv_at hl 2 rfl) ?_
        refine va_lald hx hb hK.1 hP 1 0 rfl rfl (vin hxi hk1 (by decide)) d_t_culprit_27 ?_
        refine lv_lconst (v := 0) hx hb d_t_culprit_28 (by decide) ?_
        refine W.lcmp hx hb d_t_culprit_29 ?_
        refine lv_if_le (tgt := 50) hx hb d_t_culprit_30 (by decide) (fun c2 => ?_) (fun c2 => ?_)
        · have c2 := cp_le c2
          refine lv_iinc (v := xi + 1) (lv' := [(3, .int (xi + 1)), (0, .ref t), (1, .long (su.toInt64 * (f_t_weightOfAll wt)))]) hx hb d_t_culprit_50 hl (k := 2) rfl rfl (by decide) rfl (fun ls hl => ?_)
          refine lv_goto (tgt := 13) hx hb d_t_culprit_53 (by decide) ?_
          refine ro_to (by rw [L_t_culprit_13_s, if_neg c1, if_neg c2]) ?_
          exact ih (k + 1) (xi + 1) ls (by omega) (by omega) (by rw [hxi]; exact nI_1 _)  (lv_sub hl [1, 2, 0] rfl)
        · have c2 := cp_nle c2
          refine lv_aload_n hx hb d_t_culprit_33 rfl (lv_at hl 0 rfl) ?_
          refine ro_get (v := .ref wa) FX hK hP 0 1 rfl rfl rfl i_t (by decide) kf_t_15 d_t_culprit_34 ?_
          refine lv_iload_n hx hb d_t_culprit_37 rfl (lv_at hl 2 rfl) ?_
          refine va_lald hx hb hK.1 hP 1 0 rfl rfl (vin hxi hk1 (by decide)) d_t_culprit_38 ?_
          refine lv_ldc2 (v := 100) hx hb hown (hts _ kl_t_74) d_t_culprit_39 ?_
          refine lv_lmul hx hb d_t_culprit_42 ?_
          refine lv_lload_n hx hb d_t_culprit_43 rfl (lv_at hl 1 rfl) ?_
          refine W.lcmp hx hb d_t_culprit_44 ?_
          refine lv_if_lt (tgt := 50) hx hb d_t_culprit_45 (by decide) (fun c3 => ?_) (fun c3 => ?_)
          · have c3 := cp_lt c3
            refine lv_iinc (v := xi + 1) (lv' := [(3, .int (xi + 1)), (0, .ref t), (1, .long (su.toInt64 * (f_t_weightOfAll wt)))]) hx hb d_t_culprit_50 hl (k := 2) rfl rfl (by decide) rfl (fun ls hl => ?_)
            refine lv_goto (tgt := 13) hx hb d_t_culprit_53 (by decide) ?_
            refine ro_to (by rw [L_t_culprit_13_s, if_neg c1, if_pos c2, if_pos c3]) ?_
            exact ih (k + 1) (xi + 1) ls (by omega) (by omega) (by rw [hxi]; exact nI_1 _)  (lv_sub hl [1, 2, 0] rfl)
          · have c3 := cp_nlt c3
            refine lv_iload_n hx hb d_t_culprit_48 rfl (lv_at hl 2 rfl) ?_
            exact ro_iret FX (by rw [L_t_culprit_13_s, if_neg c1, if_pos c2, if_neg c3]) d_t_culprit_49
  refine ro_to (by rw [f_t_culprit]) ?_
  exact loop 41 0 0 ls rfl (Nat.zero_le _) rfl  (lv_sub hl [2, 1, 0] rfl)
theorem d_t_mostEven_0 : decode b_t_mostEven 0 = .ok (.aload_n 0, 1) := by decide +kernel
theorem d_t_mostEven_1 : decode b_t_mostEven 1 = .ok (.invokevirtual 70, 3) := by decide +kernel
theorem d_t_mostEven_4 : decode b_t_mostEven 4 = .ok (.lstore_n 1, 1) := by decide +kernel
theorem d_t_mostEven_5 : decode b_t_mostEven 5 = .ok (.iconst (-1), 1) := by decide +kernel
theorem d_t_mostEven_6 : decode b_t_mostEven 6 = .ok (.istore_n 3, 1) := by decide +kernel
theorem d_t_mostEven_7 : decode b_t_mostEven 7 = .ok (.lconst 0, 1) := by decide +kernel
theorem d_t_mostEven_8 : decode b_t_mostEven 8 = .ok (.lstore 4, 2) := by decide +kernel
theorem d_t_mostEven_10 : decode b_t_mostEven 10 = .ok (.iconst 0, 1) := by decide +kernel
theorem d_t_mostEven_11 : decode b_t_mostEven 11 = .ok (.istore 6, 2) := by decide +kernel
theorem d_t_mostEven_13 : decode b_t_mostEven 13 = .ok (.iload 6, 2) := by decide +kernel
theorem d_t_mostEven_15 : decode b_t_mostEven 15 = .ok (.aload_n 0, 1) := by decide +kernel
theorem d_t_mostEven_16 : decode b_t_mostEven 16 = .ok (.getfield 9, 3) := by decide +kernel
theorem d_t_mostEven_19 : decode b_t_mostEven 19 = .ok (.getfield 86, 3) := by decide +kernel
theorem d_t_mostEven_22 : decode b_t_mostEven 22 = .ok (.if_icmp .ge 132, 3) := by decide +kernel
theorem d_t_mostEven_25 : decode b_t_mostEven 25 = .ok (.aload_n 0, 1) := by decide +kernel
theorem d_t_mostEven_26 : decode b_t_mostEven 26 = .ok (.getfield 9, 3) := by decide +kernel
theorem d_t_mostEven_29 : decode b_t_mostEven 29 = .ok (.iload 6, 2) := by decide +kernel
theorem d_t_mostEven_31 : decode b_t_mostEven 31 = .ok (.invokevirtual 89, 3) := by decide +kernel
theorem d_t_mostEven_34 : decode b_t_mostEven 34 = .ok (.ifCond .eq 7, 3) := by decide +kernel
theorem d_t_mostEven_37 : decode b_t_mostEven 37 = .ok (.lconst 0, 1) := by decide +kernel
theorem d_t_mostEven_38 : decode b_t_mostEven 38 = .ok (.goto 16, 3) := by decide +kernel
theorem d_t_mostEven_41 : decode b_t_mostEven 41 = .ok (.aload_n 0, 1) := by decide +kernel
theorem d_t_mostEven_42 : decode b_t_mostEven 42 = .ok (.aload_n 0, 1) := by decide +kernel
theorem d_t_mostEven_43 : decode b_t_mostEven 43 = .ok (.getfield 9, 3) := by decide +kernel
theorem d_t_mostEven_46 : decode b_t_mostEven 46 = .ok (.iload 6, 2) := by decide +kernel
theorem d_t_mostEven_48 : decode b_t_mostEven 48 = .ok (.invokevirtual 57, 3) := by decide +kernel
theorem d_t_mostEven_51 : decode b_t_mostEven 51 = .ok (.invokevirtual 93, 3) := by decide +kernel
theorem d_t_mostEven_54 : decode b_t_mostEven 54 = .ok (.lstore 7, 2) := by decide +kernel
theorem d_t_mostEven_56 : decode b_t_mostEven 56 = .ok (.lload 7, 2) := by decide +kernel
theorem d_t_mostEven_58 : decode b_t_mostEven 58 = .ok (.lconst 0, 1) := by decide +kernel
theorem d_t_mostEven_59 : decode b_t_mostEven 59 = .ok (.lcmp, 1) := by decide +kernel
theorem d_t_mostEven_60 : decode b_t_mostEven 60 = .ok (.ifCond .le 88, 3) := by decide +kernel
theorem d_t_mostEven_63 : decode b_t_mostEven 63 = .ok (.lload 7, 2) := by decide +kernel
theorem d_t_mostEven_65 : decode b_t_mostEven 65 = .ok (.lload_n 1, 1) := by decide +kernel
theorem d_t_mostEven_66 : decode b_t_mostEven 66 = .ok (.lcmp, 1) := by decide +kernel
theorem d_t_mostEven_67 : decode b_t_mostEven 67 = .ok (.ifCond .lt 6, 3) := by decide +kernel
theorem d_t_mostEven_70 : decode b_t_mostEven 70 = .ok (.goto 78, 3) := by decide +kernel
theorem d_t_mostEven_73 : decode b_t_mostEven 73 = .ok (.lload 7, 2) := by decide +kernel
theorem d_t_mostEven_75 : decode b_t_mostEven 75 = .ok (.lload_n 1, 1) := by decide +kernel
theorem d_t_mostEven_76 : decode b_t_mostEven 76 = .ok (.lload 7, 2) := by decide +kernel
theorem d_t_mostEven_78 : decode b_t_mostEven 78 = .ok (.lsub, 1) := by decide +kernel
theorem d_t_mostEven_79 : decode b_t_mostEven 79 = .ok (.lsub, 1) := by decide +kernel
theorem d_t_mostEven_80 : decode b_t_mostEven 80 = .ok (.invokestatic 97, 3) := by decide +kernel
theorem d_t_mostEven_83 : decode b_t_mostEven 83 = .ok (.lstore 9, 2) := by decide +kernel
theorem d_t_mostEven_85 : decode b_t_mostEven 85 = .ok (.lload 9, 2) := by decide +kernel
theorem d_t_mostEven_87 : decode b_t_mostEven 87 = .ok (.lload 4, 2) := by decide +kernel
theorem d_t_mostEven_89 : decode b_t_mostEven 89 = .ok (.lcmp, 1) := by decide +kernel
theorem d_t_mostEven_90 : decode b_t_mostEven 90 = .ok (.ifCond .ne 30, 3) := by decide +kernel
theorem d_t_mostEven_93 : decode b_t_mostEven 93 = .ok (.aload_n 0, 1) := by decide +kernel
theorem d_t_mostEven_94 : decode b_t_mostEven 94 = .ok (.getfield 9, 3) := by decide +kernel
theorem d_t_mostEven_97 : decode b_t_mostEven 97 = .ok (.iload 6, 2) := by decide +kernel
theorem d_t_mostEven_99 : decode b_t_mostEven 99 = .ok (.invokevirtual 102, 3) := by decide +kernel
theorem d_t_mostEven_102 : decode b_t_mostEven 102 = .ok (.ifCond .eq 18, 3) := by decide +kernel
theorem d_t_mostEven_105 : decode b_t_mostEven 105 = .ok (.aload_n 0, 1) := by decide +kernel
theorem d_t_mostEven_106 : decode b_t_mostEven 106 = .ok (.getfield 9, 3) := by decide +kernel
theorem d_t_mostEven_109 : decode b_t_mostEven 109 = .ok (.iload_n 3, 1) := by decide +kernel
theorem d_t_mostEven_110 : decode b_t_mostEven 110 = .ok (.invokevirtual 102, 3) := by decide +kernel
theorem d_t_mostEven_113 : decode b_t_mostEven 113 = .ok (.ifCond .ne 7, 3) := by decide +kernel
theorem d_t_mostEven_116 : decode b_t_mostEven 116 = .ok (.iconst 1, 1) := by decide +kernel
theorem d_t_mostEven_117 : decode b_t_mostEven 117 = .ok (.goto 4, 3) := by decide +kernel
theorem d_t_mostEven_120 : decode b_t_mostEven 120 = .ok (.iconst 0, 1) := by decide +kernel
theorem d_t_mostEven_121 : decode b_t_mostEven 121 = .ok (.istore 11, 2) := by decide +kernel
theorem d_t_mostEven_123 : decode b_t_mostEven 123 = .ok (.iload_n 3, 1) := by decide +kernel
theorem d_t_mostEven_124 : decode b_t_mostEven 124 = .ok (.iconst (-1), 1) := by decide +kernel
theorem d_t_mostEven_125 : decode b_t_mostEven 125 = .ok (.if_icmp .eq 16, 3) := by decide +kernel
theorem d_t_mostEven_128 : decode b_t_mostEven 128 = .ok (.lload 9, 2) := by decide +kernel
theorem d_t_mostEven_130 : decode b_t_mostEven 130 = .ok (.lload 4, 2) := by decide +kernel
theorem d_t_mostEven_132 : decode b_t_mostEven 132 = .ok (.lcmp, 1) := by decide +kernel
theorem d_t_mostEven_133 : decode b_t_mostEven 133 = .ok (.ifCond .lt 8, 3) := by decide +kernel
theorem d_t_mostEven_136 : decode b_t_mostEven 136 = .ok (.iload 11, 2) := by decide +kernel
theorem d_t_mostEven_138 : decode b_t_mostEven 138 = .ok (.ifCond .eq 10, 3) := by decide +kernel
theorem d_t_mostEven_141 : decode b_t_mostEven 141 = .ok (.iload 6, 2) := by decide +kernel
theorem d_t_mostEven_143 : decode b_t_mostEven 143 = .ok (.istore_n 3, 1) := by decide +kernel
theorem d_t_mostEven_144 : decode b_t_mostEven 144 = .ok (.lload 9, 2) := by decide +kernel
theorem d_t_mostEven_146 : decode b_t_mostEven 146 = .ok (.lstore 4, 2) := by decide +kernel
theorem d_t_mostEven_148 : decode b_t_mostEven 148 = .ok (.iinc 6 1, 3) := by decide +kernel
theorem d_t_mostEven_151 : decode b_t_mostEven 151 = .ok (.goto (-138), 3) := by decide +kernel
theorem d_t_mostEven_154 : decode b_t_mostEven 154 = .ok (.iload_n 3, 1) := by decide +kernel
theorem d_t_mostEven_155 : decode b_t_mostEven 155 = .ok (.ireturn, 1) := by decide +kernel
def L_t_mostEven_13 (wt : Nat → Int64) (rs : Nat → Int64) (sz : Int32) (bu : Int64) (sk : Int64) : Nat → Int32 → Int64 → Int32 → Int32
  | 0, _, _, _ => 0
  | n + 1, be, bg, xi => if sz ≤ xi then
    (be)
  else
    (if (f_g_isSkipped sk xi) = true then
      (L_t_mostEven_13 wt rs sz bu sk n be bg (xi + 1))
    else
      (if 0 < (f_t_weightWithin wt (f_g_reach rs sz xi)) then
        (if (f_t_weightWithin wt (f_g_reach rs sz xi)) < (f_t_weightOfAll wt) then
          (if (if 0 < ((f_t_weightWithin wt (f_g_reach rs sz xi)) - ((f_t_weightOfAll wt) - (f_t_weightWithin wt (f_g_reach rs sz xi)))) then ((f_t_weightWithin wt (f_g_reach rs sz xi)) - ((f_t_weightOfAll wt) - (f_t_weightWithin wt (f_g_reach rs sz xi)))) else -((f_t_weightWithin wt (f_g_reach rs sz xi)) - ((f_t_weightOfAll wt) - (f_t_weightWithin wt (f_g_reach rs sz xi))))) = bg then
            (if (f_g_isBuilt bu xi) = true then
              (if (f_g_isBuilt bu be) = true then
                (if be = (-1) then
                  (L_t_mostEven_13 wt rs sz bu sk n xi (if 0 < ((f_t_weightWithin wt (f_g_reach rs sz xi)) - ((f_t_weightOfAll wt) - (f_t_weightWithin wt (f_g_reach rs sz xi)))) then ((f_t_weightWithin wt (f_g_reach rs sz xi)) - ((f_t_weightOfAll wt) - (f_t_weightWithin wt (f_g_reach rs sz xi)))) else -((f_t_weightWithin wt (f_g_reach rs sz xi)) - ((f_t_weightOfAll wt) - (f_t_weightWithin wt (f_g_reach rs sz xi))))) (xi + 1))
                else
                  (if (if 0 < ((f_t_weightWithin wt (f_g_reach rs sz xi)) - ((f_t_weightOfAll wt) - (f_t_weightWithin wt (f_g_reach rs sz xi)))) then ((f_t_weightWithin wt (f_g_reach rs sz xi)) - ((f_t_weightOfAll wt) - (f_t_weightWithin wt (f_g_reach rs sz xi)))) else -((f_t_weightWithin wt (f_g_reach rs sz xi)) - ((f_t_weightOfAll wt) - (f_t_weightWithin wt (f_g_reach rs sz xi))))) < bg then
                    (L_t_mostEven_13 wt rs sz bu sk n xi (if 0 < ((f_t_weightWithin wt (f_g_reach rs sz xi)) - ((f_t_weightOfAll wt) - (f_t_weightWithin wt (f_g_reach rs sz xi)))) then ((f_t_weightWithin wt (f_g_reach rs sz xi)) - ((f_t_weightOfAll wt) - (f_t_weightWithin wt (f_g_reach rs sz xi)))) else -((f_t_weightWithin wt (f_g_reach rs sz xi)) - ((f_t_weightOfAll wt) - (f_t_weightWithin wt (f_g_reach rs sz xi))))) (xi + 1))
                  else
                    (L_t_mostEven_13 wt rs sz bu sk n be bg (xi + 1))))
              else
                (if be = (-1) then
                  (L_t_mostEven_13 wt rs sz bu sk n xi (if 0 < ((f_t_weightWithin wt (f_g_reach rs sz xi)) - ((f_t_weightOfAll wt) - (f_t_weightWithin wt (f_g_reach rs sz xi)))) then ((f_t_weightWithin wt (f_g_reach rs sz xi)) - ((f_t_weightOfAll wt) - (f_t_weightWithin wt (f_g_reach rs sz xi)))) else -((f_t_weightWithin wt (f_g_reach rs sz xi)) - ((f_t_weightOfAll wt) - (f_t_weightWithin wt (f_g_reach rs sz xi))))) (xi + 1))
                else
                  (if (if 0 < ((f_t_weightWithin wt (f_g_reach rs sz xi)) - ((f_t_weightOfAll wt) - (f_t_weightWithin wt (f_g_reach rs sz xi)))) then ((f_t_weightWithin wt (f_g_reach rs sz xi)) - ((f_t_weightOfAll wt) - (f_t_weightWithin wt (f_g_reach rs sz xi)))) else -((f_t_weightWithin wt (f_g_reach rs sz xi)) - ((f_t_weightOfAll wt) - (f_t_weightWithin wt (f_g_reach rs sz xi))))) < bg then
                    (L_t_mostEven_13 wt rs sz bu sk n xi (if 0 < ((f_t_weightWithin wt (f_g_reach rs sz xi)) - ((f_t_weightOfAll wt) - (f_t_weightWithin wt (f_g_reach rs sz xi)))) then ((f_t_weightWithin wt (f_g_reach rs sz xi)) - ((f_t_weightOfAll wt) - (f_t_weightWithin wt (f_g_reach rs sz xi)))) else -((f_t_weightWithin wt (f_g_reach rs sz xi)) - ((f_t_weightOfAll wt) - (f_t_weightWithin wt (f_g_reach rs sz xi))))) (xi + 1))
                  else
                    (L_t_mostEven_13 wt rs sz bu sk n xi (if 0 < ((f_t_weightWithin wt (f_g_reach rs sz xi)) - ((f_t_weightOfAll wt) - (f_t_weightWithin wt (f_g_reach rs sz xi)))) then ((f_t_weightWithin wt (f_g_reach rs sz xi)) - ((f_t_weightOfAll wt) - (f_t_weightWithin wt (f_g_reach rs sz xi)))) else -((f_t_weightWithin wt (f_g_reach rs sz xi)) - ((f_t_weightOfAll wt) - (f_t_weightWithin wt (f_g_reach rs sz xi))))) (xi + 1)))))
            else
              (if be = (-1) then
                (L_t_mostEven_13 wt rs sz bu sk n xi (if 0 < ((f_t_weightWithin wt (f_g_reach rs sz xi)) - ((f_t_weightOfAll wt) - (f_t_weightWithin wt (f_g_reach rs sz xi)))) then ((f_t_weightWithin wt (f_g_reach rs sz xi)) - ((f_t_weightOfAll wt) - (f_t_weightWithin wt (f_g_reach rs sz xi)))) else -((f_t_weightWithin wt (f_g_reach rs sz xi)) - ((f_t_weightOfAll wt) - (f_t_weightWithin wt (f_g_reach rs sz xi))))) (xi + 1))
              else
                (if (if 0 < ((f_t_weightWithin wt (f_g_reach rs sz xi)) - ((f_t_weightOfAll wt) - (f_t_weightWithin wt (f_g_reach rs sz xi)))) then ((f_t_weightWithin wt (f_g_reach rs sz xi)) - ((f_t_weightOfAll wt) - (f_t_weightWithin wt (f_g_reach rs sz xi)))) else -((f_t_weightWithin wt (f_g_reach rs sz xi)) - ((f_t_weightOfAll wt) - (f_t_weightWithin wt (f_g_reach rs sz xi))))) < bg then
                  (L_t_mostEven_13 wt rs sz bu sk n xi (if 0 < ((f_t_weightWithin wt (f_g_reach rs sz xi)) - ((f_t_weightOfAll wt) - (f_t_weightWithin wt (f_g_reach rs sz xi)))) then ((f_t_weightWithin wt (f_g_reach rs sz xi)) - ((f_t_weightOfAll wt) - (f_t_weightWithin wt (f_g_reach rs sz xi)))) else -((f_t_weightWithin wt (f_g_reach rs sz xi)) - ((f_t_weightOfAll wt) - (f_t_weightWithin wt (f_g_reach rs sz xi))))) (xi + 1))
                else
                  (L_t_mostEven_13 wt rs sz bu sk n be bg (xi + 1)))))
          else
            (if be = (-1) then
              (L_t_mostEven_13 wt rs sz bu sk n xi (if 0 < ((f_t_weightWithin wt (f_g_reach rs sz xi)) - ((f_t_weightOfAll wt) - (f_t_weightWithin wt (f_g_reach rs sz xi)))) then ((f_t_weightWithin wt (f_g_reach rs sz xi)) - ((f_t_weightOfAll wt) - (f_t_weightWithin wt (f_g_reach rs sz xi)))) else -((f_t_weightWithin wt (f_g_reach rs sz xi)) - ((f_t_weightOfAll wt) - (f_t_weightWithin wt (f_g_reach rs sz xi))))) (xi + 1))
            else
              (if (if 0 < ((f_t_weightWithin wt (f_g_reach rs sz xi)) - ((f_t_weightOfAll wt) - (f_t_weightWithin wt (f_g_reach rs sz xi)))) then ((f_t_weightWithin wt (f_g_reach rs sz xi)) - ((f_t_weightOfAll wt) - (f_t_weightWithin wt (f_g_reach rs sz xi)))) else -((f_t_weightWithin wt (f_g_reach rs sz xi)) - ((f_t_weightOfAll wt) - (f_t_weightWithin wt (f_g_reach rs sz xi))))) < bg then
                (L_t_mostEven_13 wt rs sz bu sk n xi (if 0 < ((f_t_weightWithin wt (f_g_reach rs sz xi)) - ((f_t_weightOfAll wt) - (f_t_weightWithin wt (f_g_reach rs sz xi)))) then ((f_t_weightWithin wt (f_g_reach rs sz xi)) - ((f_t_weightOfAll wt) - (f_t_weightWithin wt (f_g_reach rs sz xi)))) else -((f_t_weightWithin wt (f_g_reach rs sz xi)) - ((f_t_weightOfAll wt) - (f_t_weightWithin wt (f_g_reach rs sz xi))))) (xi + 1))
              else
                (L_t_mostEven_13 wt rs sz bu sk n be bg (xi + 1)))))
        else
          (L_t_mostEven_13 wt rs sz bu sk n be bg (xi + 1)))
      else
        (L_t_mostEven_13 wt rs sz bu sk n be bg (xi + 1))))
theorem L_t_mostEven_13_s (wt : Nat → Int64) (rs : Nat → Int64) (sz : Int32) (bu : Int64) (sk : Int64) (n : Nat) (be : Int32) (bg : Int64) (xi : Int32) : L_t_mostEven_13 wt rs sz bu sk (n + 1) be bg xi = if sz ≤ xi then
    (be)
  else
    (if (f_g_isSkipped sk xi) = true then
      (L_t_mostEven_13 wt rs sz bu sk n be bg (xi + 1))
    else
      (if 0 < (f_t_weightWithin wt (f_g_reach rs sz xi)) then
        (if (f_t_weightWithin wt (f_g_reach rs sz xi)) < (f_t_weightOfAll wt) then
          (if (if 0 < ((f_t_weightWithin wt (f_g_reach rs sz xi)) - ((f_t_weightOfAll wt) - (f_t_weightWithin wt (f_g_reach rs sz xi)))) then ((f_t_weightWithin wt (f_g_reach rs sz xi)) - ((f_t_weightOfAll wt) - (f_t_weightWithin wt (f_g_reach rs sz xi)))) else -((f_t_weightWithin wt (f_g_reach rs sz xi)) - ((f_t_weightOfAll wt) - (f_t_weightWithin wt (f_g_reach rs sz xi))))) = bg then
            (if (f_g_isBuilt bu xi) = true then
              (if (f_g_isBuilt bu be) = true then
                (if be = (-1) then
                  (L_t_mostEven_13 wt rs sz bu sk n xi (if 0 < ((f_t_weightWithin wt (f_g_reach rs sz xi)) - ((f_t_weightOfAll wt) - (f_t_weightWithin wt (f_g_reach rs sz xi)))) then ((f_t_weightWithin wt (f_g_reach rs sz xi)) - ((f_t_weightOfAll wt) - (f_t_weightWithin wt (f_g_reach rs sz xi)))) else -((f_t_weightWithin wt (f_g_reach rs sz xi)) - ((f_t_weightOfAll wt) - (f_t_weightWithin wt (f_g_reach rs sz xi))))) (xi + 1))
                else
                  (if (if 0 < ((f_t_weightWithin wt (f_g_reach rs sz xi)) - ((f_t_weightOfAll wt) - (f_t_weightWithin wt (f_g_reach rs sz xi)))) then ((f_t_weightWithin wt (f_g_reach rs sz xi)) - ((f_t_weightOfAll wt) - (f_t_weightWithin wt (f_g_reach rs sz xi)))) else -((f_t_weightWithin wt (f_g_reach rs sz xi)) - ((f_t_weightOfAll wt) - (f_t_weightWithin wt (f_g_reach rs sz xi))))) < bg then
                    (L_t_mostEven_13 wt rs sz bu sk n xi (if 0 < ((f_t_weightWithin wt (f_g_reach rs sz xi)) - ((f_t_weightOfAll wt) - (f_t_weightWithin wt (f_g_reach rs sz xi)))) then ((f_t_weightWithin wt (f_g_reach rs sz xi)) - ((f_t_weightOfAll wt) - (f_t_weightWithin wt (f_g_reach rs sz xi)))) else -((f_t_weightWithin wt (f_g_reach rs sz xi)) - ((f_t_weightOfAll wt) - (f_t_weightWithin wt (f_g_reach rs sz xi))))) (xi + 1))
                  else
                    (L_t_mostEven_13 wt rs sz bu sk n be bg (xi + 1))))
              else
                (if be = (-1) then
                  (L_t_mostEven_13 wt rs sz bu sk n xi (if 0 < ((f_t_weightWithin wt (f_g_reach rs sz xi)) - ((f_t_weightOfAll wt) - (f_t_weightWithin wt (f_g_reach rs sz xi)))) then ((f_t_weightWithin wt (f_g_reach rs sz xi)) - ((f_t_weightOfAll wt) - (f_t_weightWithin wt (f_g_reach rs sz xi)))) else -((f_t_weightWithin wt (f_g_reach rs sz xi)) - ((f_t_weightOfAll wt) - (f_t_weightWithin wt (f_g_reach rs sz xi))))) (xi + 1))
                else
                  (if (if 0 < ((f_t_weightWithin wt (f_g_reach rs sz xi)) - ((f_t_weightOfAll wt) - (f_t_weightWithin wt (f_g_reach rs sz xi)))) then ((f_t_weightWithin wt (f_g_reach rs sz xi)) - ((f_t_weightOfAll wt) - (f_t_weightWithin wt (f_g_reach rs sz xi)))) else -((f_t_weightWithin wt (f_g_reach rs sz xi)) - ((f_t_weightOfAll wt) - (f_t_weightWithin wt (f_g_reach rs sz xi))))) < bg then
                    (L_t_mostEven_13 wt rs sz bu sk n xi (if 0 < ((f_t_weightWithin wt (f_g_reach rs sz xi)) - ((f_t_weightOfAll wt) - (f_t_weightWithin wt (f_g_reach rs sz xi)))) then ((f_t_weightWithin wt (f_g_reach rs sz xi)) - ((f_t_weightOfAll wt) - (f_t_weightWithin wt (f_g_reach rs sz xi)))) else -((f_t_weightWithin wt (f_g_reach rs sz xi)) - ((f_t_weightOfAll wt) - (f_t_weightWithin wt (f_g_reach rs sz xi))))) (xi + 1))
                  else
                    (L_t_mostEven_13 wt rs sz bu sk n xi (if 0 < ((f_t_weightWithin wt (f_g_reach rs sz xi)) - ((f_t_weightOfAll wt) - (f_t_weightWithin wt (f_g_reach rs sz xi)))) then ((f_t_weightWithin wt (f_g_reach rs sz xi)) - ((f_t_weightOfAll wt) - (f_t_weightWithin wt (f_g_reach rs sz xi)))) else -((f_t_weightWithin wt (f_g_reach rs sz xi)) - ((f_t_weightOfAll wt) - (f_t_weightWithin wt (f_g_reach rs sz xi))))) (xi + 1)))))
            else
              (if be = (-1) then
                (L_t_mostEven_13 wt rs sz bu sk n xi (if 0 < ((f_t_weightWithin wt (f_g_reach rs sz xi)) - ((f_t_weightOfAll wt) - (f_t_weightWithin wt (f_g_reach rs sz xi)))) then ((f_t_weightWithin wt (f_g_reach rs sz xi)) - ((f_t_weightOfAll wt) - (f_t_weightWithin wt (f_g_reach rs sz xi)))) else -((f_t_weightWithin wt (f_g_reach rs sz xi)) - ((f_t_weightOfAll wt) - (f_t_weightWithin wt (f_g_reach rs sz xi))))) (xi + 1))
              else
                (if (if 0 < ((f_t_weightWithin wt (f_g_reach rs sz xi)) - ((f_t_weightOfAll wt) - (f_t_weightWithin wt (f_g_reach rs sz xi)))) then ((f_t_weightWithin wt (f_g_reach rs sz xi)) - ((f_t_weightOfAll wt) - (f_t_weightWithin wt (f_g_reach rs sz xi)))) else -((f_t_weightWithin wt (f_g_reach rs sz xi)) - ((f_t_weightOfAll wt) - (f_t_weightWithin wt (f_g_reach rs sz xi))))) < bg then
                  (L_t_mostEven_13 wt rs sz bu sk n xi (if 0 < ((f_t_weightWithin wt (f_g_reach rs sz xi)) - ((f_t_weightOfAll wt) - (f_t_weightWithin wt (f_g_reach rs sz xi)))) then ((f_t_weightWithin wt (f_g_reach rs sz xi)) - ((f_t_weightOfAll wt) - (f_t_weightWithin wt (f_g_reach rs sz xi)))) else -((f_t_weightWithin wt (f_g_reach rs sz xi)) - ((f_t_weightOfAll wt) - (f_t_weightWithin wt (f_g_reach rs sz xi))))) (xi + 1))
                else
                  (L_t_mostEven_13 wt rs sz bu sk n be bg (xi + 1)))))
          else
            (if be = (-1) then
              (L_t_mostEven_13 wt rs sz bu sk n xi (if 0 < ((f_t_weightWithin wt (f_g_reach rs sz xi)) - ((f_t_weightOfAll wt) - (f_t_weightWithin wt (f_g_reach rs sz xi)))) then ((f_t_weightWithin wt (f_g_reach rs sz xi)) - ((f_t_weightOfAll wt) - (f_t_weightWithin wt (f_g_reach rs sz xi)))) else -((f_t_weightWithin wt (f_g_reach rs sz xi)) - ((f_t_weightOfAll wt) - (f_t_weightWithin wt (f_g_reach rs sz xi))))) (xi + 1))
            else
              (if (if 0 < ((f_t_weightWithin wt (f_g_reach rs sz xi)) - ((f_t_weightOfAll wt) - (f_t_weightWithin wt (f_g_reach rs sz xi)))) then ((f_t_weightWithin wt (f_g_reach rs sz xi)) - ((f_t_weightOfAll wt) - (f_t_weightWithin wt (f_g_reach rs sz xi)))) else -((f_t_weightWithin wt (f_g_reach rs sz xi)) - ((f_t_weightOfAll wt) - (f_t_weightWithin wt (f_g_reach rs sz xi))))) < bg then
                (L_t_mostEven_13 wt rs sz bu sk n xi (if 0 < ((f_t_weightWithin wt (f_g_reach rs sz xi)) - ((f_t_weightOfAll wt) - (f_t_weightWithin wt (f_g_reach rs sz xi)))) then ((f_t_weightWithin wt (f_g_reach rs sz xi)) - ((f_t_weightOfAll wt) - (f_t_weightWithin wt (f_g_reach rs sz xi)))) else -((f_t_weightWithin wt (f_g_reach rs sz xi)) - ((f_t_weightOfAll wt) - (f_t_weightWithin wt (f_g_reach rs sz xi))))) (xi + 1))
              else
                (L_t_mostEven_13 wt rs sz bu sk n be bg (xi + 1)))))
        else
          (L_t_mostEven_13 wt rs sz bu sk n be bg (xi + 1)))
      else
        (L_t_mostEven_13 wt rs sz bu sk n be bg (xi + 1)))) := rfl
def f_t_mostEven (wt : Nat → Int64) (rs : Nat → Int64) (sz : Int32) (bu : Int64) (sk : Int64) : Int32 := L_t_mostEven_13 wt rs sz bu sk 41 (-1) 0 0
set_option maxHeartbeats 4000000 in
set_option maxRecDepth 100000 in
theorem c_t_mostEven (l : Launch) (D : va_G) (cA : Nat → ClassId) (t wa : Nat) (go cl : Int64) (se : Bool) (bad fp fq su an sks : Int32) (wt : Nat → Int64) (g pa re : Nat) (ps rs : Nat → Int64) (sz : Int32) (bu sk : Int64) (S : Nat) (hS40 : S ≤ 40) (hsz : sz = nI S) : Met l y_t_mostEven (.code y_t_mostEven b_t_mostEven 12 (some .int) :: tb) (rmd 3) (Pro D cA [.ref t] (va_P D classes [(t, .inr (2, [.ref g, .ref wa, .long go, .long cl, .int (bz se), .int bad, .int fp, .int fq, .int su, .int an, .int sks])), (wa, .inl (cA 0, 40, .inr (.inl wt))), (g, .inr (1, [.ref pa, .ref re, .int sz, .long bu, .long sk])), (pa, .inl (cA 0, 40, .inr (.inl ps))), (re, .inl (cA 0, 40, .inr (.inl rs)))])) (Qro (.int (f_t_mostEven wt rs sz bu sk))) 0 0 nof := by
  refine ro_in (by decide) (Nat.le_of_ble_eq_true rfl) (fun p e s m below meth c ls FX hnm hK hP hl => ?_)
  have hl : lv_has ls 12 [(0, .ref t)] := hl
  have hP : va_P D classes [(t, .inr (2, [.ref g, .ref wa, .long go, .long cl, .int (bz se), .int bad, .int fp, .int fq, .int su, .int an, .int sks])), (wa, .inl (cA 0, 40, .inr (.inl wt))), (g, .inr (1, [.ref pa, .ref re, .int sz, .long bu, .long sk])), (pa, .inl (cA 0, 40, .inr (.inl ps))), (re, .inl (cA 0, 40, .inr (.inl rs)))] s.heap := hP
  generalize ([.ref t] : List Value).toArray = args at FX ⊢
  obtain ⟨hx, hb, hml, hown, hts, hr, hlk⟩ := id FX
  refine lv_aload_n hx hb d_t_mostEven_0 rfl (lv_at hl 0 rfl) ?_
  refine ro_V (v := .long (f_t_weightOfAll wt)) (As := []) (rest := []) (q0 := 0) FX hK (c_t_weightOfAll l D cA t wa go cl se bad fp fq su an sks wt g pa re ps rs sz bu sk) hP hP rfl rfl rfl kc_t_weightOfAll km_t_70 ki_t ks_t_weightOfAll ke_t_weightOfAll rfl ok_t_weightOfAll ⟨Nat.le_of_ble_eq_true rfl, Nat.le_of_ble_eq_true rfl⟩ ⟨Nat.zero_le _, Nat.zero_le _⟩ hl.1 rfl (Nat.le_of_ble_eq_true rfl) d_t_mostEven_1 ?_
  refine lv_lstore_n (lv' := [(1, .long (f_t_weightOfAll wt)), (0, .ref t)]) hx hb d_t_mostEven_4 rfl hl (by decide) rfl (fun ls hl => ?_)
  refine lv_iconst (v := (-1)) hx hb d_t_mostEven_5 (by decide) ?_
  refine lv_istore_n (lv' := [(3, .int (-1)), (1, .long (f_t_weightOfAll wt)), (0, .ref t)]) hx hb d_t_mostEven_6 rfl hl (by decide) rfl (fun ls hl => ?_)
  refine lv_lconst (v := 0) hx hb d_t_mostEven_7 (by decide) ?_
  refine lv_lstore (lv' := [(4, .long 0), (3, .int (-1)), (1, .long (f_t_weightOfAll wt)), (0, .ref t)]) hx hb d_t_mostEven_8 hl (by decide) rfl (fun ls hl => ?_)
  refine lv_iconst (v := 0) hx hb d_t_mostEven_10 (by decide) ?_
  refine lv_istore (lv' := [(6, .int 0), (4, .long 0), (3, .int (-1)), (1, .long (f_t_weightOfAll wt)), (0, .ref t)]) hx hb d_t_mostEven_11 hl (by decide) rfl (fun ls hl => ?_)
  have loop : ∀ (n k : Nat) (be : Int32) (bg : Int64) (xi : Int32) (ls : Array Slot), k + n = 41 → k ≤ 40 → xi = nI k → lv_has ls 12 [(0, .ref t), (1, .long (f_t_weightOfAll wt)), (3, .int be), (4, .long bg), (6, .int xi)] → W p l e (rmd 3) s m args below meth c s.heap [] 0 0 (MQ below (Qro (.int (L_t_mostEven_13 wt rs sz bu sk n be bg xi))) args s 0 0 nof) (F0 m 13 ls []) := by
    intro n
    induction n with
    | zero =>
      intro k be bg xi ls h1 h2
      exact absurd h1 (by omega)
    | succ n ih =>
      intro k be bg xi ls hkn hk hxi hl
      refine lv_iload hx hb d_t_mostEven_13 (lv_at hl 4 rfl) ?_
      refine lv_aload_n hx hb d_t_mostEven_15 rfl (lv_at hl 0 rfl) ?_
      refine ro_get (v := .ref g) FX hK hP 0 0 rfl rfl rfl i_t (by decide) kf_t_9 d_t_mostEven_16 ?_
      refine ro_getN (v := .int sz) FX hK hP 2 2 rfl rfl rfl i_g (by decide) kf_t_86 d_t_mostEven_19 ?_
      refine lv_icmp_ge (tgt := 154) hx hb d_t_mostEven_22 (by decide) (fun c1 => ?_) (fun c1 => ?_)
      · have c1 := c1
        refine lv_iload_n hx hb d_t_mostEven_154 rfl (lv_at hl 2 rfl) ?_
        exact ro_iret FX (by rw [L_t_mostEven_13_s, if_pos c1]) d_t_mostEven_155
      · have c1 := c1
        have hk1 : k < S := k_lt hxi hsz c1 (by omega)
        refine lv_aload_n hx hb d_t_mostEven_25 rfl (lv_at hl 0 rfl) ?_
        refine ro_get (v := .ref g) FX hK hP 0 0 rfl rfl rfl i_t (by decide) kf_t_9 d_t_mostEven_26 ?_
        refine lv_iload hx hb d_t_mostEven_29 (lv_at hl 4 rfl) ?_
        refine ro_V (v := .int (bz (f_g_isSkipped sk xi))) (As := [.int xi]) (rest := []) (q0 := 2) FX hK (c_g_isSkipped l D cA g pa re ps rs sz bu sk xi) (hP.sub [2, 3, 4] rfl) hP rfl rfl rfl kc_g_isSkipped km_t_89 ki_g ks_g_isSkipped ke_g_isSkipped rfl ok_g_isSkipped ⟨Nat.le_of_ble_eq_true rfl, Nat.le_of_ble_eq_true rfl⟩ ⟨Nat.zero_le _, Nat.zero_le _⟩ hl.1 rfl (Nat.le_of_ble_eq_true rfl) d_t_mostEven_31 ?_
        refine lv_if_eq (tgt := 41) hx hb d_t_mostEven_34 (by decide) (fun c2 => ?_) (fun c2 => ?_)
        · have c2 := bz_f c2
          refine lv_aload_n hx hb d_t_mostEven_41 rfl (lv_at hl 0 rfl) ?_
          refine lv_aload_n hx hb d_t_mostEven_42 rfl (lv_at hl 0 rfl) ?_
          refine ro_get (v := .ref g) FX hK hP 0 0 rfl rfl rfl i_t (by decide) kf_t_9 d_t_mostEven_43 ?_
          refine lv_iload hx hb d_t_mostEven_46 (lv_at hl 4 rfl) ?_
          refine ro_V (v := .long (f_g_reach rs sz xi)) (As := [.int xi]) (rest := [.ref t]) (q0 := 2) FX hK (c_g_reach l D cA g pa re ps rs sz bu sk xi) (hP.sub [2, 3, 4] rfl) hP rfl rfl rfl kc_g_reach km_t_57 ki_g ks_g_reach ke_g_reach rfl ok_g_reach ⟨Nat.le_of_ble_eq_true rfl, Nat.le_of_ble_eq_true rfl⟩ ⟨Nat.zero_le _, Nat.zero_le _⟩ hl.1 rfl (Nat.le_of_ble_eq_true rfl) d_t_mostEven_48 ?_
          refine ro_V (v := .long (f_t_weightWithin wt (f_g_reach rs sz xi))) (As := [.long (f_g_reach rs sz xi)]) (rest := []) (q0 := 0) FX hK (c_t_weightWithin l D cA t wa go cl se bad fp fq su an sks wt g pa re ps rs sz bu sk (f_g_reach rs sz xi)) hP hP rfl rfl rfl kc_t_weightWithin km_t_93 ki_t ks_t_weightWithin ke_t_weightWithin rfl ok_t_weightWithin ⟨Nat.le_of_ble_eq_true rfl, Nat.le_of_ble_eq_true rfl⟩ ⟨Nat.zero_le _, Nat.zero_le _⟩ hl.1 rfl (Nat.le_of_ble_eq_true rfl) d_t_mostEven_51 ?_
          refine lv_lstore (lv' := [(7, .long (f_t_weightWithin wt (f_g_reach rs sz xi))), (0, .ref t), (1, .long (f_t_weightOfAll wt)), (3, .int be), (4, .long bg), (6, .int xi)]) hx hb d_t_mostEven_54 hl (by decide) rfl (fun ls hl => ?_)
          refine lv_lload hx hb d_t_mostEven_56 (lv_at hl 0 rfl) ?_
          refine lv_lconst (v := 0) hx hb d_t_mostEven_58 (by decide) ?_
          refine W.lcmp hx hb d_t_mostEven_59 ?_
          refine lv_if_le (tgt := 148) hx hb d_t_mostEven_60 (by decide) (fun c3 => ?_) (fun c3 => ?_)
          · have c3 := cp_le c3
            refine lv_iinc (v := xi + 1) (lv' := [(6, .int (xi + 1)), (7, .long (f_t_weightWithin wt (f_g_reach rs sz xi))), (0, .ref t), (1, .long (f_t_weightOfAll wt)), (3, .int be), (4, .long bg)]) hx hb d_t_mostEven_148 hl (k := 5) rfl rfl (by decide) rfl (fun ls hl => ?_)
            refine lv_goto (tgt := 13) hx hb d_t_mostEven_151 (by decide) ?_
            refine ro_to (by rw [L_t_mostEven_13_s, if_neg c1, if_neg c2, if_neg c3]) ?_
            exact ih (k + 1) be bg (xi + 1) ls (by omega) (by omega) (by rw [hxi]; exact nI_1 _)  (lv_sub hl [2, 3, 4, 5, 0] rfl)
          · have c3 := cp_nle c3
            refine lv_lload hx hb d_t_mostEven_63 (lv_at hl 0 rfl) ?_
            refine lv_lload_n hx hb d_t_mostEven_65 rfl (lv_at hl 2 rfl) ?_
            refine W.lcmp hx hb d_t_mostEven_66 ?_
            refine lv_if_lt (tgt := 73) hx hb d_t_mostEven_67 (by decide) (fun c4 => ?_) (fun c4 => ?_)
            · have c4 := cp_lt c4
              refine lv_lload hx hb d_t_mostEven_73 (lv_at hl 0 rfl) ?_
              refine lv_lload_n hx hb d_t_mostEven_75 rfl (lv_at hl 2 rfl) ?_
              refine lv_lload hx hb d_t_mostEven_76 (lv_at hl 0 rfl) ?_
              refine lv_lsub hx hb d_t_mostEven_78 ?_
              refine lv_lsub hx hb d_t_mostEven_79 ?_
              refine va_mabs_long hx hb (hml.trans hl.1.symm) hown (hts _ km_t_97) (hts _ ks_abs_long) (hts _ ki_ma) (hts _ kc_abs_long) (Nat.le_of_ble_eq_true rfl) (Nat.le_of_ble_eq_true rfl) (Nat.zero_le _) (Nat.zero_le _) d_t_mostEven_80 ?_
              refine lv_lstore (lv' := [(9, .long (if 0 < ((f_t_weightWithin wt (f_g_reach rs sz xi)) - ((f_t_weightOfAll wt) - (f_t_weightWithin wt (f_g_reach rs sz xi)))) then ((f_t_weightWithin wt (f_g_reach rs sz xi)) - ((f_t_weightOfAll wt) - (f_t_weightWithin wt (f_g_reach rs sz xi)))) else -((f_t_weightWithin wt (f_g_reach rs sz xi)) - ((f_t_weightOfAll wt) - (f_t_weightWithin wt (f_g_reach rs sz xi)))))), (7, .long (f_t_weightWithin wt (f_g_reach rs sz xi))), (0, .ref t), (1, .long (f_t_weightOfAll wt)), (3, .int be), (4, .long bg), (6, .int xi)]) hx hb d_t_mostEven_83 hl (by decide) rfl (fun ls hl => ?_)
              refine lv_lload hx hb d_t_mostEven_85 (lv_at hl 0 rfl) ?_
              refine lv_lload hx hb d_t_mostEven_87 (lv_at hl 5 rfl) ?_
              refine W.lcmp hx hb d_t_mostEven_89 ?_
              refine lv_if_ne (tgt := 120) hx hb d_t_mostEven_90 (by decide) (fun c5 => ?_) (fun c5 => ?_)
              · have c5 := cp_ne c5
                refine lv_iconst (v := 0) hx hb d_t_mostEven_120 (by decide) ?_
                refine lv_istore (lv' := [(11, .int 0), (9, .long (if 0 < ((f_t_weightWithin wt (f_g_reach rs sz xi)) - ((f_t_weightOfAll wt) - (f_t_weightWithin wt (f_g_reach rs sz xi)))) then ((f_t_weightWithin wt (f_g_reach rs sz xi)) - ((f_t_weightOfAll wt) - (f_t_weightWithin wt (f_g_reach rs sz xi)))) else -((f_t_weightWithin wt (f_g_reach rs sz xi)) - ((f_t_weightOfAll wt) - (f_t_weightWithin wt (f_g_reach rs sz xi)))))), (7, .long (f_t_weightWithin wt (f_g_reach rs sz xi))), (0, .ref t), (1, .long (f_t_weightOfAll wt)), (3, .int be), (4, .long bg), (6, .int xi)]) hx hb d_t_mostEven_121 hl (by decide) rfl (fun ls hl => ?_)
                refine lv_iload_n hx hb d_t_mostEven_123 rfl (lv_at hl 5 rfl) ?_
                refine lv_iconst (v := (-1)) hx hb d_t_mostEven_124 (by decide) ?_
                refine lv_icmp_eq (tgt := 141) hx hb d_t_mostEven_125 (by decide) (fun c6 => ?_) (fun c6 => ?_)
                · have c6 := c6
                  refine lv_iload hx hb d_t_mostEven_141 (lv_at hl 7 rfl) ?_
                  refine lv_istore_n (lv' := [(3, .int xi), (11, .int 0), (9, .long (if 0 < ((f_t_weightWithin wt (f_g_reach rs sz xi)) - ((f_t_weightOfAll wt) - (f_t_weightWithin wt (f_g_reach rs sz xi)))) then ((f_t_weightWithin wt (f_g_reach rs sz xi)) - ((f_t_weightOfAll wt) - (f_t_weightWithin wt (f_g_reach rs sz xi)))) else -((f_t_weightWithin wt (f_g_reach rs sz xi)) - ((f_t_weightOfAll wt) - (f_t_weightWithin wt (f_g_reach rs sz xi)))))), (7, .long (f_t_weightWithin wt (f_g_reach rs sz xi))), (0, .ref t), (1, .long (f_t_weightOfAll wt)), (4, .long bg), (6, .int xi)]) hx hb d_t_mostEven_143 rfl hl (by decide) rfl (fun ls hl => ?_)
                  refine lv_lload hx hb d_t_mostEven_144 (lv_at hl 2 rfl) ?_
                  refine lv_lstore (lv' := [(4, .long (if 0 < ((f_t_weightWithin wt (f_g_reach rs sz xi)) - ((f_t_weightOfAll wt) - (f_t_weightWithin wt (f_g_reach rs sz xi)))) then ((f_t_weightWithin wt (f_g_reach rs sz xi)) - ((f_t_weightOfAll wt) - (f_t_weightWithin wt (f_g_reach rs sz xi)))) else -((f_t_weightWithin wt (f_g_reach rs sz xi)) - ((f_t_weightOfAll wt) - (f_t_weightWithin wt (f_g_reach rs sz xi)))))), (3, .int xi), (11, .int 0), (9, .long (if 0 < ((f_t_weightWithin wt (f_g_reach rs sz xi)) - ((f_t_weightOfAll wt) - (f_t_weightWithin wt (f_g_reach rs sz xi)))) then ((f_t_weightWithin wt (f_g_reach rs sz xi)) - ((f_t_weightOfAll wt) - (f_t_weightWithin wt (f_g_reach rs sz xi)))) else -((f_t_weightWithin wt (f_g_reach rs sz xi)) - ((f_t_weightOfAll wt) - (f_t_weightWithin wt (f_g_reach rs sz xi)))))), (7, .long (f_t_weightWithin wt (f_g_reach rs sz xi))), (0, .ref t), (1, .long (f_t_weightOfAll wt)), (6, .int xi)]) hx hb d_t_mostEven_146 hl (by decide) rfl (fun ls hl => ?_)
                  refine lv_iinc (v := xi + 1) (lv' := [(6, .int (xi + 1)), (4, .long (if 0 < ((f_t_weightWithin wt (f_g_reach rs sz xi)) - ((f_t_weightOfAll wt) - (f_t_weightWithin wt (f_g_reach rs sz xi)))) then ((f_t_weightWithin wt (f_g_reach rs sz xi)) - ((f_t_weightOfAll wt) - (f_t_weightWithin wt (f_g_reach rs sz xi)))) else -((f_t_weightWithin wt (f_g_reach rs sz xi)) - ((f_t_weightOfAll wt) - (f_t_weightWithin wt (f_g_reach rs sz xi)))))), (3, .int xi), (11, .int 0), (9, .long (if 0 < ((f_t_weightWithin wt (f_g_reach rs sz xi)) - ((f_t_weightOfAll wt) - (f_t_weightWithin wt (f_g_reach rs sz xi)))) then ((f_t_weightWithin wt (f_g_reach rs sz xi)) - ((f_t_weightOfAll wt) - (f_t_weightWithin wt (f_g_reach rs sz xi)))) else -((f_t_weightWithin wt (f_g_reach rs sz xi)) - ((f_t_weightOfAll wt) - (f_t_weightWithin wt (f_g_reach rs sz xi)))))), (7, .long (f_t_weightWithin wt (f_g_reach rs sz xi))), (0, .ref t), (1, .long (f_t_weightOfAll wt))]) hx hb d_t_mostEven_148 hl (k := 7) rfl rfl (by decide) rfl (fun ls hl => ?_)
                  refine lv_goto (tgt := 13) hx hb d_t_mostEven_151 (by decide) ?_
                  refine ro_to (by rw [L_t_mostEven_13_s, if_neg c1, if_neg c2, if_pos c3, if_pos c4, if_neg c5, if_pos c6]) ?_
                  exact ih (k + 1) xi (if 0 < ((f_t_weightWithin wt (f_g_reach rs sz xi)) - ((f_t_weightOfAll wt) - (f_t_weightWithin wt (f_g_reach rs sz xi)))) then ((f_t_weightWithin wt (f_g_reach rs sz xi)) - ((f_t_weightOfAll wt) - (f_t_weightWithin wt (f_g_reach rs sz xi)))) else -((f_t_weightWithin wt (f_g_reach rs sz xi)) - ((f_t_weightOfAll wt) - (f_t_weightWithin wt (f_g_reach rs sz xi))))) (xi + 1) ls (by omega) (by omega) (by rw [hxi]; exact nI_1 _)  (lv_sub hl [6, 7, 2, 1, 0] rfl)
                · have c6 := c6
                  refine lv_lload hx hb d_t_mostEven_128 (lv_at hl 1 rfl) ?_
                  refine lv_lload hx hb d_t_mostEven_130 (lv_at hl 6 rfl) ?_
                  refine W.lcmp hx hb d_t_mostEven_132 ?_
                  refine lv_if_lt (tgt := 141) hx hb d_t_mostEven_133 (by decide) (fun c7 => ?_) (fun c7 => ?_)
                  · have c7 := cp_lt c7
                    refine lv_iload hx hb d_t_mostEven_141 (lv_at hl 7 rfl) ?_
                    refine lv_istore_n (lv' := [(3, .int xi), (11, .int 0), (9, .long (if 0 < ((f_t_weightWithin wt (f_g_reach rs sz xi)) - ((f_t_weightOfAll wt) - (f_t_weightWithin wt (f_g_reach rs sz xi)))) then ((f_t_weightWithin wt (f_g_reach rs sz xi)) - ((f_t_weightOfAll wt) - (f_t_weightWithin wt (f_g_reach rs sz xi)))) else -((f_t_weightWithin wt (f_g_reach rs sz xi)) - ((f_t_weightOfAll wt) - (f_t_weightWithin wt (f_g_reach rs sz xi)))))), (7, .long (f_t_weightWithin wt (f_g_reach rs sz xi))), (0, .ref t), (1, .long (f_t_weightOfAll wt)), (4, .long bg), (6, .int xi)]) hx hb d_t_mostEven_143 rfl hl (by decide) rfl (fun ls hl => ?_)
                    refine lv_lload hx hb d_t_mostEven_144 (lv_at hl 2 rfl) ?_
                    refine lv_lstore (lv' := [(4, .long (if 0 < ((f_t_weightWithin wt (f_g_reach rs sz xi)) - ((f_t_weightOfAll wt) - (f_t_weightWithin wt (f_g_reach rs sz xi)))) then ((f_t_weightWithin wt (f_g_reach rs sz xi)) - ((f_t_weightOfAll wt) - (f_t_weightWithin wt (f_g_reach rs sz xi)))) else -((f_t_weightWithin wt (f_g_reach rs sz xi)) - ((f_t_weightOfAll wt) - (f_t_weightWithin wt (f_g_reach rs sz xi)))))), (3, .int xi), (11, .int 0), (9, .long (if 0 < ((f_t_weightWithin wt (f_g_reach rs sz xi)) - ((f_t_weightOfAll wt) - (f_t_weightWithin wt (f_g_reach rs sz xi)))) then ((f_t_weightWithin wt (f_g_reach rs sz xi)) - ((f_t_weightOfAll wt) - (f_t_weightWithin wt (f_g_reach rs sz xi)))) else -((f_t_weightWithin wt (f_g_reach rs sz xi)) - ((f_t_weightOfAll wt) - (f_t_weightWithin wt (f_g_reach rs sz xi)))))), (7, .long (f_t_weightWithin wt (f_g_reach rs sz xi))), (0, .ref t), (1, .long (f_t_weightOfAll wt)), (6, .int xi)]) hx hb d_t_mostEven_146 hl (by decide) rfl (fun ls hl => ?_)
                    refine lv_iinc (v := xi + 1) (lv' := [(6, .int (xi + 1)), (4, .long (if 0 < ((f_t_weightWithin wt (f_g_reach rs sz xi)) - ((f_t_weightOfAll wt) - (f_t_weightWithin wt (f_g_reach rs sz xi)))) then ((f_t_weightWithin wt (f_g_reach rs sz xi)) - ((f_t_weightOfAll wt) - (f_t_weightWithin wt (f_g_reach rs sz xi)))) else -((f_t_weightWithin wt (f_g_reach rs sz xi)) - ((f_t_weightOfAll wt) - (f_t_weightWithin wt (f_g_reach rs sz xi)))))), (3, .int xi), (11, .int 0), (9, .long (if 0 < ((f_t_weightWithin wt (f_g_reach rs sz xi)) - ((f_t_weightOfAll wt) - (f_t_weightWithin wt (f_g_reach rs sz xi)))) then ((f_t_weightWithin wt (f_g_reach rs sz xi)) - ((f_t_weightOfAll wt) - (f_t_weightWithin wt (f_g_reach rs sz xi)))) else -((f_t_weightWithin wt (f_g_reach rs sz xi)) - ((f_t_weightOfAll wt) - (f_t_weightWithin wt (f_g_reach rs sz xi)))))), (7, .long (f_t_weightWithin wt (f_g_reach rs sz xi))), (0, .ref t), (1, .long (f_t_weightOfAll wt))]) hx hb d_t_mostEven_148 hl (k := 7) rfl rfl (by decide) rfl (fun ls hl => ?_)
                    refine lv_goto (tgt := 13) hx hb d_t_mostEven_151 (by decide) ?_
                    refine ro_to (by rw [L_t_mostEven_13_s, if_neg c1, if_neg c2, if_pos c3, if_pos c4, if_neg c5, if_neg c6, if_pos c7]) ?_
                    exact ih (k + 1) xi (if 0 < ((f_t_weightWithin wt (f_g_reach rs sz xi)) - ((f_t_weightOfAll wt) - (f_t_weightWithin wt (f_g_reach rs sz xi)))) then ((f_t_weightWithin wt (f_g_reach rs sz xi)) - ((f_t_weightOfAll wt) - (f_t_weightWithin wt (f_g_reach rs sz xi)))) else -((f_t_weightWithin wt (f_g_reach rs sz xi)) - ((f_t_weightOfAll wt) - (f_t_weightWithin wt (f_g_reach rs sz xi))))) (xi + 1) ls (by omega) (by omega) (by rw [hxi]; exact nI_1 _)  (lv_sub hl [6, 7, 2, 1, 0] rfl)
                  · have c7 := cp_nlt c7
                    refine lv_iload hx hb d_t_mostEven_136 (lv_at hl 0 rfl) ?_
                    refine lv_if_eq (tgt := 148) hx hb d_t_mostEven_138 (by decide) (fun c8 => ?_) (fun c8 => absurd c8 (by decide))
                    refine lv_iinc (v := xi + 1) (lv' := [(6, .int (xi + 1)), (11, .int 0), (9, .long (if 0 < ((f_t_weightWithin wt (f_g_reach rs sz xi)) - ((f_t_weightOfAll wt) - (f_t_weightWithin wt (f_g_reach rs sz xi)))) then ((f_t_weightWithin wt (f_g_reach rs sz xi)) - ((f_t_weightOfAll wt) - (f_t_weightWithin wt (f_g_reach rs sz xi)))) else -((f_t_weightWithin wt (f_g_reach rs sz xi)) - ((f_t_weightOfAll wt) - (f_t_weightWithin wt (f_g_reach rs sz xi)))))), (7, .long (f_t_weightWithin wt (f_g_reach rs sz xi))), (0, .ref t), (1, .long (f_t_weightOfAll wt)), (3, .int be), (4, .long bg)]) hx hb d_t_mostEven_148 hl (k := 7) rfl rfl (by decide) rfl (fun ls hl => ?_)
                    refine lv_goto (tgt := 13) hx hb d_t_mostEven_151 (by decide) ?_
                    refine ro_to (by rw [L_t_mostEven_13_s, if_neg c1, if_neg c2, if_pos c3, if_pos c4, if_neg c5, if_neg c6, if_neg c7]) ?_
                    exact ih (k + 1) be bg (xi + 1) ls (by omega) (by omega) (by rw [hxi]; exact nI_1 _)  (lv_sub hl [4, 5, 6, 7, 0] rfl)
              · have c5 := cp_eq c5
                refine lv_aload_n hx hb d_t_mostEven_93 rfl (lv_at hl 2 rfl) ?_
                refine ro_get (v := .ref g) FX hK hP 0 0 rfl rfl rfl i_t (by decide) kf_t_9 d_t_mostEven_94 ?_
                refine lv_iload hx hb d_t_mostEven_97 (lv_at hl 6 rfl) ?_
                refine ro_V (v := .int (bz (f_g_isBuilt bu xi))) (As := [.int xi]) (rest := []) (q0 := 2) FX hK (c_g_isBuilt l D cA g pa re ps rs sz bu sk xi) (hP.sub [2, 3, 4] rfl) hP rfl rfl rfl kc_g_isBuilt km_t_102 ki_g ks_g_isBuilt ke_g_isBuilt rfl ok_g_isBuilt ⟨Nat.le_of_ble_eq_true rfl, Nat.le_of_ble_eq_true rfl⟩ ⟨Nat.zero_le _, Nat.zero_le _⟩ hl.1 rfl (Nat.le_of_ble_eq_true rfl) d_t_mostEven_99 ?_
                refine lv_if_eq (tgt := 120) hx hb d_t_mostEven_102 (by decide) (fun c9 => ?_) (fun c9 => ?_)
                · have c9 := bz_f c9
                  refine lv_iconst (v := 0) hx hb d_t_mostEven_120 (by decide) ?_
                  refine lv_istore (lv' := [(11, .int 0), (9, .long (if 0 < ((f_t_weightWithin wt (f_g_reach rs sz xi)) - ((f_t_weightOfAll wt) - (f_t_weightWithin wt (f_g_reach rs sz xi)))) then ((f_t_weightWithin wt (f_g_reach rs sz xi)) - ((f_t_weightOfAll wt) - (f_t_weightWithin wt (f_g_reach rs sz xi)))) else -((f_t_weightWithin wt (f_g_reach rs sz xi)) - ((f_t_weightOfAll wt) - (f_t_weightWithin wt (f_g_reach rs sz xi)))))), (7, .long (f_t_weightWithin wt (f_g_reach rs sz xi))), (0, .ref t), (1, .long (f_t_weightOfAll wt)), (3, .int be), (4, .long bg), (6, .int xi)]) hx hb d_t_mostEven_121 hl (by decide) rfl (fun ls hl => ?_)
                  refine lv_iload_n hx hb d_t_mostEven_123 rfl (lv_at hl 5 rfl) ?_
                  refine lv_iconst (v := (-1)) hx hb d_t_mostEven_124 (by decide) ?_
                  refine lv_icmp_eq (tgt := 141) hx hb d_t_mostEven_125 (by decide) (fun c10 => ?_) (fun c10 => ?_)
                  · have c10 := c10
                    refine lv_iload hx hb d_t_mostEven_141 (lv_at hl 7 rfl) ?_
                    refine lv_istore_n (lv' := [(3, .int xi), (11, .int 0), (9, .long (if 0 < ((f_t_weightWithin wt (f_g_reach rs sz xi)) - ((f_t_weightOfAll wt) - (f_t_weightWithin wt (f_g_reach rs sz xi)))) then ((f_t_weightWithin wt (f_g_reach rs sz xi)) - ((f_t_weightOfAll wt) - (f_t_weightWithin wt (f_g_reach rs sz xi)))) else -((f_t_weightWithin wt (f_g_reach rs sz xi)) - ((f_t_weightOfAll wt) - (f_t_weightWithin wt (f_g_reach rs sz xi)))))), (7, .long (f_t_weightWithin wt (f_g_reach rs sz xi))), (0, .ref t), (1, .long (f_t_weightOfAll wt)), (4, .long bg), (6, .int xi)]) hx hb d_t_mostEven_143 rfl hl (by decide) rfl (fun ls hl => ?_)
                    refine lv_lload hx hb d_t_mostEven_144 (lv_at hl 2 rfl) ?_
                    refine lv_lstore (lv' := [(4, .long (if 0 < ((f_t_weightWithin wt (f_g_reach rs sz xi)) - ((f_t_weightOfAll wt) - (f_t_weightWithin wt (f_g_reach rs sz xi)))) then ((f_t_weightWithin wt (f_g_reach rs sz xi)) - ((f_t_weightOfAll wt) - (f_t_weightWithin wt (f_g_reach rs sz xi)))) else -((f_t_weightWithin wt (f_g_reach rs sz xi)) - ((f_t_weightOfAll wt) - (f_t_weightWithin wt (f_g_reach rs sz xi)))))), (3, .int xi), (11, .int 0), (9, .long (if 0 < ((f_t_weightWithin wt (f_g_reach rs sz xi)) - ((f_t_weightOfAll wt) - (f_t_weightWithin wt (f_g_reach rs sz xi)))) then ((f_t_weightWithin wt (f_g_reach rs sz xi)) - ((f_t_weightOfAll wt) - (f_t_weightWithin wt (f_g_reach rs sz xi)))) else -((f_t_weightWithin wt (f_g_reach rs sz xi)) - ((f_t_weightOfAll wt) - (f_t_weightWithin wt (f_g_reach rs sz xi)))))), (7, .long (f_t_weightWithin wt (f_g_reach rs sz xi))), (0, .ref t), (1, .long (f_t_weightOfAll wt)), (6, .int xi)]) hx hb d_t_mostEven_146 hl (by decide) rfl (fun ls hl => ?_)
                    refine lv_iinc (v := xi + 1) (lv' := [(6, .int (xi + 1)), (4, .long (if 0 < ((f_t_weightWithin wt (f_g_reach rs sz xi)) - ((f_t_weightOfAll wt) - (f_t_weightWithin wt (f_g_reach rs sz xi)))) then ((f_t_weightWithin wt (f_g_reach rs sz xi)) - ((f_t_weightOfAll wt) - (f_t_weightWithin wt (f_g_reach rs sz xi)))) else -((f_t_weightWithin wt (f_g_reach rs sz xi)) - ((f_t_weightOfAll wt) - (f_t_weightWithin wt (f_g_reach rs sz xi)))))), (3, .int xi), (11, .int 0), (9, .long (if 0 < ((f_t_weightWithin wt (f_g_reach rs sz xi)) - ((f_t_weightOfAll wt) - (f_t_weightWithin wt (f_g_reach rs sz xi)))) then ((f_t_weightWithin wt (f_g_reach rs sz xi)) - ((f_t_weightOfAll wt) - (f_t_weightWithin wt (f_g_reach rs sz xi)))) else -((f_t_weightWithin wt (f_g_reach rs sz xi)) - ((f_t_weightOfAll wt) - (f_t_weightWithin wt (f_g_reach rs sz xi)))))), (7, .long (f_t_weightWithin wt (f_g_reach rs sz xi))), (0, .ref t), (1, .long (f_t_weightOfAll wt))]) hx hb d_t_mostEven_148 hl (k := 7) rfl rfl (by decide) rfl (fun ls hl => ?_)
                    refine lv_goto (tgt := 13) hx hb d_t_mostEven_151 (by decide) ?_
                    refine ro_to (by rw [L_t_mostEven_13_s, if_neg c1, if_neg c2, if_pos c3, if_pos c4, if_pos c5, if_neg c9, if_pos c10]) ?_
                    exact ih (k + 1) xi (if 0 < ((f_t_weightWithin wt (f_g_reach rs sz xi)) - ((f_t_weightOfAll wt) - (f_t_weightWithin wt (f_g_reach rs sz xi)))) then ((f_t_weightWithin wt (f_g_reach rs sz xi)) - ((f_t_weightOfAll wt) - (f_t_weightWithin wt (f_g_reach rs sz xi)))) else -((f_t_weightWithin wt (f_g_reach rs sz xi)) - ((f_t_weightOfAll wt) - (f_t_weightWithin wt (f_g_reach rs sz xi))))) (xi + 1) ls (by omega) (by omega) (by rw [hxi]; exact nI_1 _)  (lv_sub hl [6, 7, 2, 1, 0] rfl)
                  · have c10 := c10
                    refine lv_lload hx hb d_t_mostEven_128 (lv_at hl 1 rfl) ?_
                    refine lv_lload hx hb d_t_mostEven_130 (lv_at hl 6 rfl) ?_
                    refine W.lcmp hx hb d_t_mostEven_132 ?_
                    refine lv_if_lt (tgt := 141) hx hb d_t_mostEven_133 (by decide) (fun c11 => ?_) (fun c11 => ?_)
                    · have c11 := cp_lt c11
                      refine lv_iload hx hb d_t_mostEven_141 (lv_at hl 7 rfl) ?_
                      refine lv_istore_n (lv' := [(3, .int xi), (11, .int 0), (9, .long (if 0 < ((f_t_weightWithin wt (f_g_reach rs sz xi)) - ((f_t_weightOfAll wt) - (f_t_weightWithin wt (f_g_reach rs sz xi)))) then ((f_t_weightWithin wt (f_g_reach rs sz xi)) - ((f_t_weightOfAll wt) - (f_t_weightWithin wt (f_g_reach rs sz xi)))) else -((f_t_weightWithin wt (f_g_reach rs sz xi)) - ((f_t_weightOfAll wt) - (f_t_weightWithin wt (f_g_reach rs sz xi)))))), (7, .long (f_t_weightWithin wt (f_g_reach rs sz xi))), (0, .ref t), (1, .long (f_t_weightOfAll wt)), (4, .long bg), (6, .int xi)]) hx hb d_t_mostEven_143 rfl hl (by decide) rfl (fun ls hl => ?_)
                      refine lv_lload hx hb d_t_mostEven_144 (lv_at hl 2 rfl) ?_
                      refine lv_lstore (lv' := [(4, .long (if 0 < ((f_t_weightWithin wt (f_g_reach rs sz xi)) - ((f_t_weightOfAll wt) - (f_t_weightWithin wt (f_g_reach rs sz xi)))) then ((f_t_weightWithin wt (f_g_reach rs sz xi)) - ((f_t_weightOfAll wt) - (f_t_weightWithin wt (f_g_reach rs sz xi)))) else -((f_t_weightWithin wt (f_g_reach rs sz xi)) - ((f_t_weightOfAll wt) - (f_t_weightWithin wt (f_g_reach rs sz xi)))))), (3, .int xi), (11, .int 0), (9, .long (if 0 < ((f_t_weightWithin wt (f_g_reach rs sz xi)) - ((f_t_weightOfAll wt) - (f_t_weightWithin wt (f_g_reach rs sz xi)))) then ((f_t_weightWithin wt (f_g_reach rs sz xi)) - ((f_t_weightOfAll wt) - (f_t_weightWithin wt (f_g_reach rs sz xi)))) else -((f_t_weightWithin wt (f_g_reach rs sz xi)) - ((f_t_weightOfAll wt) - (f_t_weightWithin wt (f_g_reach rs sz xi)))))), (7, .long (f_t_weightWithin wt (f_g_reach rs sz xi))), (0, .ref t), (1, .long (f_t_weightOfAll wt)), (6, .int xi)]) hx hb d_t_mostEven_146 hl (by decide) rfl (fun ls hl => ?_)
                      refine lv_iinc (v := xi + 1) (lv' := [(6, .int (xi + 1)), (4, .long (if 0 < ((f_t_weightWithin wt (f_g_reach rs sz xi)) - ((f_t_weightOfAll wt) - (f_t_weightWithin wt (f_g_reach rs sz xi)))) then ((f_t_weightWithin wt (f_g_reach rs sz xi)) - ((f_t_weightOfAll wt) - (f_t_weightWithin wt (f_g_reach rs sz xi)))) else -((f_t_weightWithin wt (f_g_reach rs sz xi)) - ((f_t_weightOfAll wt) - (f_t_weightWithin wt (f_g_reach rs sz xi)))))), (3, .int xi), (11, .int 0), (9, .long (if 0 < ((f_t_weightWithin wt (f_g_reach rs sz xi)) - ((f_t_weightOfAll wt) - (f_t_weightWithin wt (f_g_reach rs sz xi)))) then ((f_t_weightWithin wt (f_g_reach rs sz xi)) - ((f_t_weightOfAll wt) - (f_t_weightWithin wt (f_g_reach rs sz xi)))) else -((f_t_weightWithin wt (f_g_reach rs sz xi)) - ((f_t_weightOfAll wt) - (f_t_weightWithin wt (f_g_reach rs sz xi)))))), (7, .long (f_t_weightWithin wt (f_g_reach rs sz xi))), (0, .ref t), (1, .long (f_t_weightOfAll wt))]) hx hb d_t_mostEven_148 hl (k := 7) rfl rfl (by decide) rfl (fun ls hl => ?_)
                      refine lv_goto (tgt := 13) hx hb d_t_mostEven_151 (by decide) ?_
                      refine ro_to (by rw [L_t_mostEven_13_s, if_neg c1, if_neg c2, if_pos c3, if_pos c4, if_pos c5, if_neg c9, if_neg c10, if_pos c11]) ?_
                      exact ih (k + 1) xi (if 0 < ((f_t_weightWithin wt (f_g_reach rs sz xi)) - ((f_t_weightOfAll wt) - (f_t_weightWithin wt (f_g_reach rs sz xi)))) then ((f_t_weightWithin wt (f_g_reach rs sz xi)) - ((f_t_weightOfAll wt) - (f_t_weightWithin wt (f_g_reach rs sz xi)))) else -((f_t_weightWithin wt (f_g_reach rs sz xi)) - ((f_t_weightOfAll wt) - (f_t_weightWithin wt (f_g_reach rs sz xi))))) (xi + 1) ls (by omega) (by omega) (by rw [hxi]; exact nI_1 _)  (lv_sub hl [6, 7, 2, 1, 0] rfl)
                    · have c11 := cp_nlt c11
                      refine lv_iload hx hb d_t_mostEven_136 (lv_at hl 0 rfl) ?_
                      refine lv_if_eq (tgt := 148) hx hb d_t_mostEven_138 (by decide) (fun c12 => ?_) (fun c12 => absurd c12 (by decide))
                      refine lv_iinc (v := xi + 1) (lv' := [(6, .int (xi + 1)), (11, .int 0), (9, .long (if 0 < ((f_t_weightWithin wt (f_g_reach rs sz xi)) - ((f_t_weightOfAll wt) - (f_t_weightWithin wt (f_g_reach rs sz xi)))) then ((f_t_weightWithin wt (f_g_reach rs sz xi)) - ((f_t_weightOfAll wt) - (f_t_weightWithin wt (f_g_reach rs sz xi)))) else -((f_t_weightWithin wt (f_g_reach rs sz xi)) - ((f_t_weightOfAll wt) - (f_t_weightWithin wt (f_g_reach rs sz xi)))))), (7, .long (f_t_weightWithin wt (f_g_reach rs sz xi))), (0, .ref t), (1, .long (f_t_weightOfAll wt)), (3, .int be), (4, .long bg)]) hx hb d_t_mostEven_148 hl (k := 7) rfl rfl (by decide) rfl (fun ls hl => ?_)
                      refine lv_goto (tgt := 13) hx hb d_t_mostEven_151 (by decide) ?_
                      refine ro_to (by rw [L_t_mostEven_13_s, if_neg c1, if_neg c2, if_pos c3, if_pos c4, if_pos c5, if_neg c9, if_neg c10, if_neg c11]) ?_
                      exact ih (k + 1) be bg (xi + 1) ls (by omega) (by omega) (by rw [hxi]; exact nI_1 _)  (lv_sub hl [4, 5, 6, 7, 0] rfl)
                · have c9 := bz_t c9
                  refine lv_aload_n hx hb d_t_mostEven_105 rfl (lv_at hl 2 rfl) ?_
                  refine ro_get (v := .ref g) FX hK hP 0 0 rfl rfl rfl i_t (by decide) kf_t_9 d_t_mostEven_106 ?_
                  refine lv_iload_n hx hb d_t_mostEven_109 rfl (lv_at hl 4 rfl) ?_
                  refine ro_V (v := .int (bz (f_g_isBuilt bu be))) (As := [.int be]) (rest := []) (q0 := 2) FX hK (c_g_isBuilt l D cA g pa re ps rs sz bu sk be) (hP.sub [2, 3, 4] rfl) hP rfl rfl rfl kc_g_isBuilt km_t_102 ki_g ks_g_isBuilt ke_g_isBuilt rfl ok_g_isBuilt ⟨Nat.le_of_ble_eq_true rfl, Nat.le_of_ble_eq_true rfl⟩ ⟨Nat.zero_le _, Nat.zero_le _⟩ hl.1 rfl (Nat.le_of_ble_eq_true rfl) d_t_mostEven_110 ?_
                  refine lv_if_ne (tgt := 120) hx hb d_t_mostEven_113 (by decide) (fun c13 => ?_) (fun c13 => ?_)
                  · have c13 := bz_t c13
                    refine lv_iconst (v := 0) hx hb d_t_mostEven_120 (by decide) ?_
                    refine lv_istore (lv' := [(11, .int 0), (9, .long (if 0 < ((f_t_weightWithin wt (f_g_reach rs sz xi)) - ((f_t_weightOfAll wt) - (f_t_weightWithin wt (f_g_reach rs sz xi)))) then ((f_t_weightWithin wt (f_g_reach rs sz xi)) - ((f_t_weightOfAll wt) - (f_t_weightWithin wt (f_g_reach rs sz xi)))) else -((f_t_weightWithin wt (f_g_reach rs sz xi)) - ((f_t_weightOfAll wt) - (f_t_weightWithin wt (f_g_reach rs sz xi)))))), (7, .long (f_t_weightWithin wt (f_g_reach rs sz xi))), (0, .ref t), (1, .long (f_t_weightOfAll wt)), (3, .int be), (4, .long bg), (6, .int xi)]) hx hb d_t_mostEven_121 hl (by decide) rfl (fun ls hl => ?_)
                    refine lv_iload_n hx hb d_t_mostEven_123 rfl (lv_at hl 5 rfl) ?_
                    refine lv_iconst (v := (-1)) hx hb d_t_mostEven_124 (by decide) ?_
                    refine lv_icmp_eq (tgt := 141) hx hb d_t_mostEven_125 (by decide) (fun c14 => ?_) (fun c14 => ?_)
                    · have c14 := c14
                      refine lv_iload hx hb d_t_mostEven_141 (lv_at hl 7 rfl) ?_
                      refine lv_istore_n (lv' := [(3, .int xi), (11, .int 0), (9, .long (if 0 < ((f_t_weightWithin wt (f_g_reach rs sz xi)) - ((f_t_weightOfAll wt) - (f_t_weightWithin wt (f_g_reach rs sz xi)))) then ((f_t_weightWithin wt (f_g_reach rs sz xi)) - ((f_t_weightOfAll wt) - (f_t_weightWithin wt (f_g_reach rs sz xi)))) else -((f_t_weightWithin wt (f_g_reach rs sz xi)) - ((f_t_weightOfAll wt) - (f_t_weightWithin wt (f_g_reach rs sz xi)))))), (7, .long (f_t_weightWithin wt (f_g_reach rs sz xi))), (0, .ref t), (1, .long (f_t_weightOfAll wt)), (4, .long bg), (6, .int xi)]) hx hb d_t_mostEven_143 rfl hl (by decide) rfl (fun ls hl => ?_)
                      refine lv_lload hx hb d_t_mostEven_144 (lv_at hl 2 rfl) ?_
                      refine lv_lstore (lv' := [(4, .long (if 0 < ((f_t_weightWithin wt (f_g_reach rs sz xi)) - ((f_t_weightOfAll wt) - (f_t_weightWithin wt (f_g_reach rs sz xi)))) then ((f_t_weightWithin wt (f_g_reach rs sz xi)) - ((f_t_weightOfAll wt) - (f_t_weightWithin wt (f_g_reach rs sz xi)))) else -((f_t_weightWithin wt (f_g_reach rs sz xi)) - ((f_t_weightOfAll wt) - (f_t_weightWithin wt (f_g_reach rs sz xi)))))), (3, .int xi), (11, .int 0), (9, .long (if 0 < ((f_t_weightWithin wt (f_g_reach rs sz xi)) - ((f_t_weightOfAll wt) - (f_t_weightWithin wt (f_g_reach rs sz xi)))) then ((f_t_weightWithin wt (f_g_reach rs sz xi)) - ((f_t_weightOfAll wt) - (f_t_weightWithin wt (f_g_reach rs sz xi)))) else -((f_t_weightWithin wt (f_g_reach rs sz xi)) - ((f_t_weightOfAll wt) - (f_t_weightWithin wt (f_g_reach rs sz xi)))))), (7, .long (f_t_weightWithin wt (f_g_reach rs sz xi))), (0, .ref t), (1, .long (f_t_weightOfAll wt)), (6, .int xi)]) hx hb d_t_mostEven_146 hl (by decide) rfl (fun ls hl => ?_)
                      refine lv_iinc (v := xi + 1) (lv' := [(6, .int (xi + 1)), (4, .long (if 0 < ((f_t_weightWithin wt (f_g_reach rs sz xi)) - ((f_t_weightOfAll wt) - (f_t_weightWithin wt (f_g_reach rs sz xi)))) then ((f_t_weightWithin wt (f_g_reach rs sz xi)) - ((f_t_weightOfAll wt) - (f_t_weightWithin wt (f_g_reach rs sz xi)))) else -((f_t_weightWithin wt (f_g_reach rs sz xi)) - ((f_t_weightOfAll wt) - (f_t_weightWithin wt (f_g_reach rs sz xi)))))), (3, .int xi), (11, .int 0), (9, .long (if 0 < ((f_t_weightWithin wt (f_g_reach rs sz xi)) - ((f_t_weightOfAll wt) - (f_t_weightWithin wt (f_g_reach rs sz xi)))) then ((f_t_weightWithin wt (f_g_reach rs sz xi)) - ((f_t_weightOfAll wt) - (f_t_weightWithin wt (f_g_reach rs sz xi)))) else -((f_t_weightWithin wt (f_g_reach rs sz xi)) - ((f_t_weightOfAll wt) - (f_t_weightWithin wt (f_g_reach rs sz xi)))))), (7, .long (f_t_weightWithin wt (f_g_reach rs sz xi))), (0, .ref t), (1, .long (f_t_weightOfAll wt))]) hx hb d_t_mostEven_148 hl (k := 7) rfl rfl (by decide) rfl (fun ls hl => ?_)
                      refine lv_goto (tgt := 13) hx hb d_t_mostEven_151 (by decide) ?_
                      refine ro_to (by rw [L_t_mostEven_13_s, if_neg c1, if_neg c2, if_pos c3, if_pos c4, if_pos c5, if_pos c9, if_pos c13, if_pos c14]) ?_
                      exact ih (k + 1) xi (if 0 < ((f_t_weightWithin wt (f_g_reach rs sz xi)) - ((f_t_weightOfAll wt) - (f_t_weightWithin wt (f_g_reach rs sz xi)))) then ((f_t_weightWithin wt (f_g_reach rs sz xi)) - ((f_t_weightOfAll wt) - (f_t_weightWithin wt (f_g_reach rs sz xi)))) else -((f_t_weightWithin wt (f_g_reach rs sz xi)) - ((f_t_weightOfAll wt) - (f_t_weightWithin wt (f_g_reach rs sz xi))))) (xi + 1) ls (by omega) (by omega) (by rw [hxi]; exact nI_1 _)  (lv_sub hl [6, 7, 2, 1, 0] rfl)
                    · have c14 := c14
                      refine lv_lload hx hb d_t_mostEven_128 (lv_at hl 1 rfl) ?_
                      refine lv_lload hx hb d_t_mostEven_130 (lv_at hl 6 rfl) ?_
                      refine W.lcmp hx hb d_t_mostEven_132 ?_
                      refine lv_if_lt (tgt := 141) hx hb d_t_mostEven_133 (by decide) (fun c15 => ?_) (fun c15 => ?_)
                      · have c15 := cp_lt c15
                        refine lv_iload hx hb d_t_mostEven_141 (lv_at hl 7 rfl) ?_
                        refine lv_istore_n (lv' := [(3, .int xi), (11, .int 0), (9, .long (if 0 < ((f_t_weightWithin wt (f_g_reach rs sz xi)) - ((f_t_weightOfAll wt) - (f_t_weightWithin wt (f_g_reach rs sz xi)))) then ((f_t_weightWithin wt (f_g_reach rs sz xi)) - ((f_t_weightOfAll wt) - (f_t_weightWithin wt (f_g_reach rs sz xi)))) else -((f_t_weightWithin wt (f_g_reach rs sz xi)) - ((f_t_weightOfAll wt) - (f_t_weightWithin wt (f_g_reach rs sz xi)))))), (7, .long (f_t_weightWithin wt (f_g_reach rs sz xi))), (0, .ref t), (1, .long (f_t_weightOfAll wt)), (4, .long bg), (6, .int xi)]) hx hb d_t_mostEven_143 rfl hl (by decide) rfl (fun ls hl => ?_)
                        refine lv_lload hx hb d_t_mostEven_144 (lv_at hl 2 rfl) ?_
                        refine lv_lstore (lv' := [(4, .long (if 0 < ((f_t_weightWithin wt (f_g_reach rs sz xi)) - ((f_t_weightOfAll wt) - (f_t_weightWithin wt (f_g_reach rs sz xi)))) then ((f_t_weightWithin wt (f_g_reach rs sz xi)) - ((f_t_weightOfAll wt) - (f_t_weightWithin wt (f_g_reach rs sz xi)))) else -((f_t_weightWithin wt (f_g_reach rs sz xi)) - ((f_t_weightOfAll wt) - (f_t_weightWithin wt (f_g_reach rs sz xi)))))), (3, .int xi), (11, .int 0), (9, .long (if 0 < ((f_t_weightWithin wt (f_g_reach rs sz xi)) - ((f_t_weightOfAll wt) - (f_t_weightWithin wt (f_g_reach rs sz xi)))) then ((f_t_weightWithin wt (f_g_reach rs sz xi)) - ((f_t_weightOfAll wt) - (f_t_weightWithin wt (f_g_reach rs sz xi)))) else -((f_t_weightWithin wt (f_g_reach rs sz xi)) - ((f_t_weightOfAll wt) - (f_t_weightWithin wt (f_g_reach rs sz xi)))))), (7, .long (f_t_weightWithin wt (f_g_reach rs sz xi))), (0, .ref t), (1, .long (f_t_weightOfAll wt)), (6, .int xi)]) hx hb d_t_mostEven_146 hl (by decide) rfl (fun ls hl => ?_)
                        refine lv_iinc (v := xi + 1) (lv' := [(6, .int (xi + 1)), (4, .long (if 0 < ((f_t_weightWithin wt (f_g_reach rs sz xi)) - ((f_t_weightOfAll wt) - (f_t_weightWithin wt (f_g_reach rs sz xi)))) then ((f_t_weightWithin wt (f_g_reach rs sz xi)) - ((f_t_weightOfAll wt) - (f_t_weightWithin wt (f_g_reach rs sz xi)))) else -((f_t_weightWithin wt (f_g_reach rs sz xi)) - ((f_t_weightOfAll wt) - (f_t_weightWithin wt (f_g_reach rs sz xi)))))), (3, .int xi), (11, .int 0), (9, .long (if 0 < ((f_t_weightWithin wt (f_g_reach rs sz xi)) - ((f_t_weightOfAll wt) - (f_t_weightWithin wt (f_g_reach rs sz xi)))) then ((f_t_weightWithin wt (f_g_reach rs sz xi)) - ((f_t_weightOfAll wt) - (f_t_weightWithin wt (f_g_reach rs sz xi)))) else -((f_t_weightWithin wt (f_g_reach rs sz xi)) - ((f_t_weightOfAll wt) - (f_t_weightWithin wt (f_g_reach rs sz xi)))))), (7, .long (f_t_weightWithin wt (f_g_reach rs sz xi))), (0, .ref t), (1, .long (f_t_weightOfAll wt))]) hx hb d_t_mostEven_148 hl (k := 7) rfl rfl (by decide) rfl (fun ls hl => ?_)
                        refine lv_goto (tgt := 13) hx hb d_t_mostEven_151 (by decide) ?_
                        refine ro_to (by rw [L_t_mostEven_13_s, if_neg c1, if_neg c2, if_pos c3, if_pos c4, if_pos c5, if_pos c9, if_pos c13, if_neg c14, if_pos c15]) ?_
                        exact ih (k + 1) xi (if 0 < ((f_t_weightWithin wt (f_g_reach rs sz xi)) - ((f_t_weightOfAll wt) - (f_t_weightWithin wt (f_g_reach rs sz xi)))) then ((f_t_weightWithin wt (f_g_reach rs sz xi)) - ((f_t_weightOfAll wt) - (f_t_weightWithin wt (f_g_reach rs sz xi)))) else -((f_t_weightWithin wt (f_g_reach rs sz xi)) - ((f_t_weightOfAll wt) - (f_t_weightWithin wt (f_g_reach rs sz xi))))) (xi + 1) ls (by omega) (by omega) (by rw [hxi]; exact nI_1 _)  (lv_sub hl [6, 7, 2, 1, 0] rfl)
                      · have c15 := cp_nlt c15
                        refine lv_iload hx hb d_t_mostEven_136 (lv_at hl 0 rfl) ?_
                        refine lv_if_eq (tgt := 148) hx hb d_t_mostEven_138 (by decide) (fun c16 => ?_) (fun c16 => absurd c16 (by decide))
                        refine lv_iinc (v := xi + 1) (lv' := [(6, .int (xi + 1)), (11, .int 0), (9, .long (if 0 < ((f_t_weightWithin wt (f_g_reach rs sz xi)) - ((f_t_weightOfAll wt) - (f_t_weightWithin wt (f_g_reach rs sz xi)))) then ((f_t_weightWithin wt (f_g_reach rs sz xi)) - ((f_t_weightOfAll wt) - (f_t_weightWithin wt (f_g_reach rs sz xi)))) else -((f_t_weightWithin wt (f_g_reach rs sz xi)) - ((f_t_weightOfAll wt) - (f_t_weightWithin wt (f_g_reach rs sz xi)))))), (7, .long (f_t_weightWithin wt (f_g_reach rs sz xi))), (0, .ref t), (1, .long (f_t_weightOfAll wt)), (3, .int be), (4, .long bg)]) hx hb d_t_mostEven_148 hl (k := 7) rfl rfl (by decide) rfl (fun ls hl => ?_)
                        refine lv_goto (tgt := 13) hx hb d_t_mostEven_151 (by decide) ?_
                        refine ro_to (by rw [L_t_mostEven_13_s, if_neg c1, if_neg c2, if_pos c3, if_pos c4, if_pos c5, if_pos c9, if_pos c13, if_neg c14, if_neg c15]) ?_
                        exact ih (k + 1) be bg (xi + 1) ls (by omega) (by omega) (by rw [hxi]; exact nI_1 _)  (lv_sub hl [4, 5, 6, 7, 0] rfl)
                  · have c13 := bz_f c13
                    refine lv_iconst (v := 1) hx hb d_t_mostEven_116 (by decide) ?_
                    refine lv_goto (tgt := 121) hx hb d_t_mostEven_117 (by decide) ?_
                    refine lv_istore (lv' := [(11, .int 1), (9, .long (if 0 < ((f_t_weightWithin wt (f_g_reach rs sz xi)) - ((f_t_weightOfAll wt) - (f_t_weightWithin wt (f_g_reach rs sz xi)))) then ((f_t_weightWithin wt (f_g_reach rs sz xi)) - ((f_t_weightOfAll wt) - (f_t_weightWithin wt (f_g_reach rs sz xi)))) else -((f_t_weightWithin wt (f_g_reach rs sz xi)) - ((f_t_weightOfAll wt) - (f_t_weightWithin wt (f_g_reach rs sz xi)))))), (7, .long (f_t_weightWithin wt (f_g_reach rs sz xi))), (0, .ref t), (1, .long (f_t_weightOfAll wt)), (3, .int be), (4, .long bg), (6, .int xi)]) hx hb d_t_mostEven_121 hl (by decide) rfl (fun ls hl => ?_)
                    refine lv_iload_n hx hb d_t_mostEven_123 rfl (lv_at hl 5 rfl) ?_
                    refine lv_iconst (v := (-1)) hx hb d_t_mostEven_124 (by decide) ?_
                    refine lv_icmp_eq (tgt := 141) hx hb d_t_mostEven_125 (by decide) (fun c17 => ?_) (fun c17 => ?_)
                    · have c17 := c17
                      refine lv_iload hx hb d_t_mostEven_141 (lv_at hl 7 rfl) ?_
                      refine lv_istore_n (lv' := [(3, .int xi), (11, .int 1), (9, .long (if 0 < ((f_t_weightWithin wt (f_g_reach rs sz xi)) - ((f_t_weightOfAll wt) - (f_t_weightWithin wt (f_g_reach rs sz xi)))) then ((f_t_weightWithin wt (f_g_reach rs sz xi)) - ((f_t_weightOfAll wt) - (f_t_weightWithin wt (f_g_reach rs sz xi)))) else -((f_t_weightWithin wt (f_g_reach rs sz xi)) - ((f_t_weightOfAll wt) - (f_t_weightWithin wt (f_g_reach rs sz xi)))))), (7, .long (f_t_weightWithin wt (f_g_reach rs sz xi))), (0, .ref t), (1, .long (f_t_weightOfAll wt)), (4, .long bg), (6, .int xi)]) hx hb d_t_mostEven_143 rfl hl (by decide) rfl (fun ls hl => ?_)
                      refine lv_lload hx hb d_t_mostEven_144 (lv_at hl 2 rfl) ?_
                      refine lv_lstore (lv' := [(4, .long (if 0 < ((f_t_weightWithin wt (f_g_reach rs sz xi)) - ((f_t_weightOfAll wt) - (f_t_weightWithin wt (f_g_reach rs sz xi)))) then ((f_t_weightWithin wt (f_g_reach rs sz xi)) - ((f_t_weightOfAll wt) - (f_t_weightWithin wt (f_g_reach rs sz xi)))) else -((f_t_weightWithin wt (f_g_reach rs sz xi)) - ((f_t_weightOfAll wt) - (f_t_weightWithin wt (f_g_reach rs sz xi)))))), (3, .int xi), (11, .int 1), (9, .long (if 0 < ((f_t_weightWithin wt (f_g_reach rs sz xi)) - ((f_t_weightOfAll wt) - (f_t_weightWithin wt (f_g_reach rs sz xi)))) then ((f_t_weightWithin wt (f_g_reach rs sz xi)) - ((f_t_weightOfAll wt) - (f_t_weightWithin wt (f_g_reach rs sz xi)))) else -((f_t_weightWithin wt (f_g_reach rs sz xi)) - ((f_t_weightOfAll wt) - (f_t_weightWithin wt (f_g_reach rs sz xi)))))), (7, .long (f_t_weightWithin wt (f_g_reach rs sz xi))), (0, .ref t), (1, .long (f_t_weightOfAll wt)), (6, .int xi)]) hx hb d_t_mostEven_146 hl (by decide) rfl (fun ls hl => ?_)
                      refine lv_iinc (v := xi + 1) (lv' := [(6, .int (xi + 1)), (4, .long (if 0 < ((f_t_weightWithin wt (f_g_reach rs sz xi)) - ((f_t_weightOfAll wt) - (f_t_weightWithin wt (f_g_reach rs sz xi)))) then ((f_t_weightWithin wt (f_g_reach rs sz xi)) - ((f_t_weightOfAll wt) - (f_t_weightWithin wt (f_g_reach rs sz xi)))) else -((f_t_weightWithin wt (f_g_reach rs sz xi)) - ((f_t_weightOfAll wt) - (f_t_weightWithin wt (f_g_reach rs sz xi)))))), (3, .int xi), (11, .int 1), (9, .long (if 0 < ((f_t_weightWithin wt (f_g_reach rs sz xi)) - ((f_t_weightOfAll wt) - (f_t_weightWithin wt (f_g_reach rs sz xi)))) then ((f_t_weightWithin wt (f_g_reach rs sz xi)) - ((f_t_weightOfAll wt) - (f_t_weightWithin wt (f_g_reach rs sz xi)))) else -((f_t_weightWithin wt (f_g_reach rs sz xi)) - ((f_t_weightOfAll wt) - (f_t_weightWithin wt (f_g_reach rs sz xi)))))), (7, .long (f_t_weightWithin wt (f_g_reach rs sz xi))), (0, .ref t), (1, .long (f_t_weightOfAll wt))]) hx hb d_t_mostEven_148 hl (k := 7) rfl rfl (by decide) rfl (fun ls hl => ?_)
                      refine lv_goto (tgt := 13) hx hb d_t_mostEven_151 (by decide) ?_
                      refine ro_to (by rw [L_t_mostEven_13_s, if_neg c1, if_neg c2, if_pos c3, if_pos c4, if_pos c5, if_pos c9, if_neg c13, if_pos c17]) ?_
                      exact ih (k + 1) xi (if 0 < ((f_t_weightWithin wt (f_g_reach rs sz xi)) - ((f_t_weightOfAll wt) - (f_t_weightWithin wt (f_g_reach rs sz xi)))) then ((f_t_weightWithin wt (f_g_reach rs sz xi)) - ((f_t_weightOfAll wt) - (f_t_weightWithin wt (f_g_reach rs sz xi)))) else -((f_t_weightWithin wt (f_g_reach rs sz xi)) - ((f_t_weightOfAll wt) - (f_t_weightWithin wt (f_g_reach rs sz xi))))) (xi + 1) ls (by omega) (by omega) (by rw [hxi]; exact nI_1 _)  (lv_sub hl [6, 7, 2, 1, 0] rfl)
                    · have c17 := c17
                      refine lv_lload hx hb d_t_mostEven_128 (lv_at hl 1 rfl) ?_
                      refine lv_lload hx hb d_t_mostEven_130 (lv_at hl 6 rfl) ?_
                      refine W.lcmp hx hb d_t_mostEven_132 ?_
                      refine lv_if_lt (tgt := 141) hx hb d_t_mostEven_133 (by decide) (fun c18 => ?_) (fun c18 => ?_)
                      · have c18 := cp_lt c18
                        refine lv_iload hx hb d_t_mostEven_141 (lv_at hl 7 rfl) ?_
                        refine lv_istore_n (lv' := [(3, .int xi), (11, .int 1), (9, .long (if 0 < ((f_t_weightWithin wt (f_g_reach rs sz xi)) - ((f_t_weightOfAll wt) - (f_t_weightWithin wt (f_g_reach rs sz xi)))) then ((f_t_weightWithin wt (f_g_reach rs sz xi)) - ((f_t_weightOfAll wt) - (f_t_weightWithin wt (f_g_reach rs sz xi)))) else -((f_t_weightWithin wt (f_g_reach rs sz xi)) - ((f_t_weightOfAll wt) - (f_t_weightWithin wt (f_g_reach rs sz xi)))))), (7, .long (f_t_weightWithin wt (f_g_reach rs sz xi))), (0, .ref t), (1, .long (f_t_weightOfAll wt)), (4, .long bg), (6, .int xi)]) hx hb d_t_mostEven_143 rfl hl (by decide) rfl (fun ls hl => ?_)
                        refine lv_lload hx hb d_t_mostEven_144 (lv_at hl 2 rfl) ?_
                        refine lv_lstore (lv' := [(4, .long (if 0 < ((f_t_weightWithin wt (f_g_reach rs sz xi)) - ((f_t_weightOfAll wt) - (f_t_weightWithin wt (f_g_reach rs sz xi)))) then ((f_t_weightWithin wt (f_g_reach rs sz xi)) - ((f_t_weightOfAll wt) - (f_t_weightWithin wt (f_g_reach rs sz xi)))) else -((f_t_weightWithin wt (f_g_reach rs sz xi)) - ((f_t_weightOfAll wt) - (f_t_weightWithin wt (f_g_reach rs sz xi)))))), (3, .int xi), (11, .int 1), (9, .long (if 0 < ((f_t_weightWithin wt (f_g_reach rs sz xi)) - ((f_t_weightOfAll wt) - (f_t_weightWithin wt (f_g_reach rs sz xi)))) then ((f_t_weightWithin wt (f_g_reach rs sz xi)) - ((f_t_weightOfAll wt) - (f_t_weightWithin wt (f_g_reach rs sz xi)))) else -((f_t_weightWithin wt (f_g_reach rs sz xi)) - ((f_t_weightOfAll wt) - (f_t_weightWithin wt (f_g_reach rs sz xi)))))), (7, .long (f_t_weightWithin wt (f_g_reach rs sz xi))), (0, .ref t), (1, .long (f_t_weightOfAll wt)), (6, .int xi)]) hx hb d_t_mostEven_146 hl (by decide) rfl (fun ls hl => ?_)
                        refine lv_iinc (v := xi + 1) (lv' := [(6, .int (xi + 1)), (4, .long (if 0 < ((f_t_weightWithin wt (f_g_reach rs sz xi)) - ((f_t_weightOfAll wt) - (f_t_weightWithin wt (f_g_reach rs sz xi)))) then ((f_t_weightWithin wt (f_g_reach rs sz xi)) - ((f_t_weightOfAll wt) - (f_t_weightWithin wt (f_g_reach rs sz xi)))) else -((f_t_weightWithin wt (f_g_reach rs sz xi)) - ((f_t_weightOfAll wt) - (f_t_weightWithin wt (f_g_reach rs sz xi)))))), (3, .int xi), (11, .int 1), (9, .long (if 0 < ((f_t_weightWithin wt (f_g_reach rs sz xi)) - ((f_t_weightOfAll wt) - (f_t_weightWithin wt (f_g_reach rs sz xi)))) then ((f_t_weightWithin wt (f_g_reach rs sz xi)) - ((f_t_weightOfAll wt) - (f_t_weightWithin wt (f_g_reach rs sz xi)))) else -((f_t_weightWithin wt (f_g_reach rs sz xi)) - ((f_t_weightOfAll wt) - (f_t_weightWithin wt (f_g_reach rs sz xi)))))), (7, .long (f_t_weightWithin wt (f_g_reach rs sz xi))), (0, .ref t), (1, .long (f_t_weightOfAll wt))]) hx hb d_t_mostEven_148 hl (k := 7) rfl rfl (by decide) rfl (fun ls hl => ?_)
                        refine lv_goto (tgt := 13) hx hb d_t_mostEven_151 (by decide) ?_
                        refine ro_to (by rw [L_t_mostEven_13_s, if_neg c1, if_neg c2, if_pos c3, if_pos c4, if_pos c5, if_pos c9, if_neg c13, if_neg c17, if_pos c18]) ?_
                        exact ih (k + 1) xi (if 0 < ((f_t_weightWithin wt (f_g_reach rs sz xi)) - ((f_t_weightOfAll wt) - (f_t_weightWithin wt (f_g_reach rs sz xi)))) then ((f_t_weightWithin wt (f_g_reach rs sz xi)) - ((f_t_weightOfAll wt) - (f_t_weightWithin wt (f_g_reach rs sz xi)))) else -((f_t_weightWithin wt (f_g_reach rs sz xi)) - ((f_t_weightOfAll wt) - (f_t_weightWithin wt (f_g_reach rs sz xi))))) (xi + 1) ls (by omega) (by omega) (by rw [hxi]; exact nI_1 _)  (lv_sub hl [6, 7, 2, 1, 0] rfl)
                      · have c18 := cp_nlt c18
                        refine lv_iload hx hb d_t_mostEven_136 (lv_at hl 0 rfl) ?_
                        refine lv_if_eq (tgt := 148) hx hb d_t_mostEven_138 (by decide) (fun c19 => absurd c19 (by decide)) (fun c19 => ?_)
                        refine lv_iload hx hb d_t_mostEven_141 (lv_at hl 7 rfl) ?_
                        refine lv_istore_n (lv' := [(3, .int xi), (11, .int 1), (9, .long (if 0 < ((f_t_weightWithin wt (f_g_reach rs sz xi)) - ((f_t_weightOfAll wt) - (f_t_weightWithin wt (f_g_reach rs sz xi)))) then ((f_t_weightWithin wt (f_g_reach rs sz xi)) - ((f_t_weightOfAll wt) - (f_t_weightWithin wt (f_g_reach rs sz xi)))) else -((f_t_weightWithin wt (f_g_reach rs sz xi)) - ((f_t_weightOfAll wt) - (f_t_weightWithin wt (f_g_reach rs sz xi)))))), (7, .long (f_t_weightWithin wt (f_g_reach rs sz xi))), (0, .ref t), (1, .long (f_t_weightOfAll wt)), (4, .long bg), (6, .int xi)]) hx hb d_t_mostEven_143 rfl hl (by decide) rfl (fun ls hl => ?_)
                        refine lv_lload hx hb d_t_mostEven_144 (lv_at hl 2 rfl) ?_
                        refine lv_lstore (lv' := [(4, .long (if 0 < ((f_t_weightWithin wt (f_g_reach rs sz xi)) - ((f_t_weightOfAll wt) - (f_t_weightWithin wt (f_g_reach rs sz xi)))) then ((f_t_weightWithin wt (f_g_reach rs sz xi)) - ((f_t_weightOfAll wt) - (f_t_weightWithin wt (f_g_reach rs sz xi)))) else -((f_t_weightWithin wt (f_g_reach rs sz xi)) - ((f_t_weightOfAll wt) - (f_t_weightWithin wt (f_g_reach rs sz xi)))))), (3, .int xi), (11, .int 1), (9, .long (if 0 < ((f_t_weightWithin wt (f_g_reach rs sz xi)) - ((f_t_weightOfAll wt) - (f_t_weightWithin wt (f_g_reach rs sz xi)))) then ((f_t_weightWithin wt (f_g_reach rs sz xi)) - ((f_t_weightOfAll wt) - (f_t_weightWithin wt (f_g_reach rs sz xi)))) else -((f_t_weightWithin wt (f_g_reach rs sz xi)) - ((f_t_weightOfAll wt) - (f_t_weightWithin wt (f_g_reach rs sz xi)))))), (7, .long (f_t_weightWithin wt (f_g_reach rs sz xi))), (0, .ref t), (1, .long (f_t_weightOfAll wt)), (6, .int xi)]) hx hb d_t_mostEven_146 hl (by decide) rfl (fun ls hl => ?_)
                        refine lv_iinc (v := xi + 1) (lv' := [(6, .int (xi + 1)), (4, .long (if 0 < ((f_t_weightWithin wt (f_g_reach rs sz xi)) - ((f_t_weightOfAll wt) - (f_t_weightWithin wt (f_g_reach rs sz xi)))) then ((f_t_weightWithin wt (f_g_reach rs sz xi)) - ((f_t_weightOfAll wt) - (f_t_weightWithin wt (f_g_reach rs sz xi)))) else -((f_t_weightWithin wt (f_g_reach rs sz xi)) - ((f_t_weightOfAll wt) - (f_t_weightWithin wt (f_g_reach rs sz xi)))))), (3, .int xi), (11, .int 1), (9, .long (if 0 < ((f_t_weightWithin wt (f_g_reach rs sz xi)) - ((f_t_weightOfAll wt) - (f_t_weightWithin wt (f_g_reach rs sz xi)))) then ((f_t_weightWithin wt (f_g_reach rs sz xi)) - ((f_t_weightOfAll wt) - (f_t_weightWithin wt (f_g_reach rs sz xi)))) else -((f_t_weightWithin wt (f_g_reach rs sz xi)) - ((f_t_weightOfAll wt) - (f_t_weightWithin wt (f_g_reach rs sz xi)))))), (7, .long (f_t_weightWithin wt (f_g_reach rs sz xi))), (0, .ref t), (1, .long (f_t_weightOfAll wt))]) hx hb d_t_mostEven_148 hl (k := 7) rfl rfl (by decide) rfl (fun ls hl => ?_)
                        refine lv_goto (tgt := 13) hx hb d_t_mostEven_151 (by decide) ?_
                        refine ro_to (by rw [L_t_mostEven_13_s, if_neg c1, if_neg c2, if_pos c3, if_pos c4, if_pos c5, if_pos c9, if_neg c13, if_neg c17, if_neg c18]) ?_
                        exact ih (k + 1) xi (if 0 < ((f_t_weightWithin wt (f_g_reach rs sz xi)) - ((f_t_weightOfAll wt) - (f_t_weightWithin wt (f_g_reach rs sz xi)))) then ((f_t_weightWithin wt (f_g_reach rs sz xi)) - ((f_t_weightOfAll wt) - (f_t_weightWithin wt (f_g_reach rs sz xi)))) else -((f_t_weightWithin wt (f_g_reach rs sz xi)) - ((f_t_weightOfAll wt) - (f_t_weightWithin wt (f_g_reach rs sz xi))))) (xi + 1) ls (by omega) (by omega) (by rw [hxi]; exact nI_1 _)  (lv_sub hl [6, 7, 2, 1, 0] rfl)
            · have c4 := cp_nlt c4
              refine lv_goto (tgt := 148) hx hb d_t_mostEven_70 (by decide) ?_
              refine lv_iinc (v := xi + 1) (lv' := [(6, .int (xi + 1)), (7, .long (f_t_weightWithin wt (f_g_reach rs sz xi))), (0, .ref t), (1, .long (f_t_weightOfAll wt)), (3, .int be), (4, .long bg)]) hx hb d_t_mostEven_148 hl (k := 5) rfl rfl (by decide) rfl (fun ls hl => ?_)
              refine lv_goto (tgt := 13) hx hb d_t_mostEven_151 (by decide) ?_
              refine ro_to (by rw [L_t_mostEven_13_s, if_neg c1, if_neg c2, if_pos c3, if_neg c4]) ?_
              exact ih (k + 1) be bg (xi + 1) ls (by omega) (by omega) (by rw [hxi]; exact nI_1 _)  (lv_sub hl [2, 3, 4, 5, 0] rfl)
        · have c2 := bz_t c2
          refine lv_lconst (v := 0) hx hb d_t_mostEven_37 (by decide) ?_
          refine lv_goto (tgt := 54) hx hb d_t_mostEven_38 (by decide) ?_
          refine lv_lstore (lv' := [(7, .long 0), (0, .ref t), (1, .long (f_t_weightOfAll wt)), (3, .int be), (4, .long bg), (6, .int xi)]) hx hb d_t_mostEven_54 hl (by decide) rfl (fun ls hl => ?_)
          refine lv_lload hx hb d_t_mostEven_56 (lv_at hl 0 rfl) ?_
          refine lv_lconst (v := 0) hx hb d_t_mostEven_58 (by decide) ?_
          refine W.lcmp hx hb d_t_mostEven_59 ?_
          refine lv_if_le (tgt := 148) hx hb d_t_mostEven_60 (by decide) (fun c20 => ?_) (fun c20 => absurd c20 (by decide))
          refine lv_iinc (v := xi + 1) (lv' := [(6, .int (xi + 1)), (7, .long 0), (0, .ref t), (1, .long (f_t_weightOfAll wt)), (3, .int be), (4, .long bg)]) hx hb d_t_mostEven_148 hl (k := 5) rfl rfl (by decide) rfl (fun ls hl => ?_)
          refine lv_goto (tgt := 13) hx hb d_t_mostEven_151 (by decide) ?_
          refine ro_to (by rw [L_t_mostEven_13_s, if_neg c1, if_pos c2]) ?_
          exact ih (k + 1) be bg (xi + 1) ls (by omega) (by omega) (by rw [hxi]; exact nI_1 _)  (lv_sub hl [2, 3, 4, 5, 0] rfl)
  refine ro_to (by rw [f_t_mostEven]) ?_
  exact loop 41 0 (-1) 0 0 ls rfl (Nat.zero_le _) rfl  (lv_sub hl [4, 3, 2, 1, 0] rfl)
theorem d_t_standing_0 : decode b_t_standing 0 = .ok (.aload_n 0, 1) := by decide +kernel
theorem d_t_standing_1 : decode b_t_standing 1 = .ok (.invokevirtual 76, 3) := by decide +kernel
theorem d_t_standing_4 : decode b_t_standing 4 = .ok (.iconst (-1), 1) := by decide +kernel
theorem d_t_standing_5 : decode b_t_standing 5 = .ok (.if_icmp .eq 5, 3) := by decide +kernel
theorem d_t_standing_8 : decode b_t_standing 8 = .ok (.iconst 1, 1) := by decide +kernel
theorem d_t_standing_9 : decode b_t_standing 9 = .ok (.ireturn, 1) := by decide +kernel
theorem d_t_standing_10 : decode b_t_standing 10 = .ok (.aload_n 0, 1) := by decide +kernel
theorem d_t_standing_11 : decode b_t_standing 11 = .ok (.getfield 43, 3) := by decide +kernel
theorem d_t_standing_14 : decode b_t_standing 14 = .ok (.bipush 15, 2) := by decide +kernel
theorem d_t_standing_16 : decode b_t_standing 16 = .ok (.if_icmp .lt 5, 3) := by decide +kernel
theorem d_t_standing_19 : decode b_t_standing 19 = .ok (.iconst 3, 1) := by decide +kernel
theorem d_t_standing_20 : decode b_t_standing 20 = .ok (.ireturn, 1) := by decide +kernel
theorem d_t_standing_21 : decode b_t_standing 21 = .ok (.aload_n 0, 1) := by decide +kernel
theorem d_t_standing_22 : decode b_t_standing 22 = .ok (.invokevirtual 80, 3) := by decide +kernel
theorem d_t_standing_25 : decode b_t_standing 25 = .ok (.iconst (-1), 1) := by decide +kernel
theorem d_t_standing_26 : decode b_t_standing 26 = .ok (.if_icmp .ne 7, 3) := by decide +kernel
theorem d_t_standing_29 : decode b_t_standing 29 = .ok (.iconst 2, 1) := by decide +kernel
theorem d_t_standing_30 : decode b_t_standing 30 = .ok (.goto 4, 3) := by decide +kernel
theorem d_t_standing_33 : decode b_t_standing 33 = .ok (.iconst 0, 1) := by decide +kernel
theorem d_t_standing_34 : decode b_t_standing 34 = .ok (.ireturn, 1) := by decide +kernel
def f_t_standing (su : Int32) (an : Int32) (wt : Nat → Int64) (rs : Nat → Int64) (sz : Int32) (bu : Int64) (sk : Int64) : Int32 := if (f_t_culprit su wt) = (-1) then
    (if an < 15 then
      (if (f_t_mostEven wt rs sz bu sk) = (-1) then
        (2)
      else
        (0))
    else
      (3))
  else
    (1)
set_option maxHeartbeats 4000000 in
set_option maxRecDepth 100000 in
theorem c_t_standing (l : Launch) (D : va_G) (cA : Nat → ClassId) (t wa : Nat) (go cl : Int64) (se : Bool) (bad fp fq su an sks : Int32) (wt : Nat → Int64) (g pa re : Nat) (ps rs : Nat → Int64) (sz : Int32) (bu sk : Int64) (S : Nat) (hS40 : S ≤ 40) (hsz : sz = nI S) : Met l y_t_standing (.code y_t_standing b_t_standing 1 (some .int) :: tb) (rmd 4) (Pro D cA [.ref t] (va_P D classes [(t, .inr (2, [.ref g, .ref wa, .long go, .long cl, .int (bz se), .int bad, .int fp, .int fq, .int su, .int an, .int sks])), (wa, .inl (cA 0, 40, .inr (.inl wt))), (g, .inr (1, [.ref pa, .ref re, .int sz, .long bu, .long sk])), (pa, .inl (cA 0, 40, .inr (.inl ps))), (re, .inl (cA 0, 40, .inr (.inl rs)))])) (Qro (.int (f_t_standing su an wt rs sz bu sk))) 0 0 nof := by
  refine ro_in (by decide) (Nat.le_of_ble_eq_true rfl) (fun p e s m below meth c ls FX hnm hK hP hl => ?_)
  have hl : lv_has ls 1 [(0, .ref t)] := hl
  have hP : va_P D classes [(t, .inr (2, [.ref g, .ref wa, .long go, .long cl, .int (bz se), .int bad, .int fp, .int fq, .int su, .int an, .int sks])), (wa, .inl (cA 0, 40, .inr (.inl wt))), (g, .inr (1, [.ref pa, .ref re, .int sz, .long bu, .long sk])), (pa, .inl (cA 0, 40, .inr (.inl ps))), (re, .inl (cA 0, 40, .inr (.inl rs)))] s.heap := hP
  generalize ([.ref t] : List Value).toArray = args at FX ⊢
  obtain ⟨hx, hb, hml, hown, hts, hr, hlk⟩ := id FX
  refine lv_aload_n hx hb d_t_standing_0 rfl (lv_at hl 0 rfl) ?_
  refine ro_V (v := .int (f_t_culprit su wt)) (As := []) (rest := []) (q0 := 0) FX hK (c_t_culprit l D cA t wa go cl se bad fp fq su an sks wt g pa re ps rs sz bu sk) hP hP rfl rfl rfl kc_t_culprit km_t_76 ki_t ks_t_culprit ke_t_culprit rfl ok_t_culprit ⟨Nat.le_of_ble_eq_true rfl, Nat.le_of_ble_eq_true rfl⟩ ⟨Nat.zero_le _, Nat.zero_le _⟩ hl.1 rfl (Nat.le_of_ble_eq_true rfl) d_t_standing_1 ?_
  refine lv_iconst (v := (-1)) hx hb d_t_standing_4 (by decide) ?_
  refine lv_icmp_eq (tgt := 10) hx hb d_t_standing_5 (by decide) (fun c1 => ?_) (fun c1 => ?_)
  · have c1 := c1
    refine lv_aload_n hx hb d_t_standing_10 rfl (lv_at hl 0 rfl) ?_
    refine ro_get (v := .int an) FX hK hP 0 9 rfl rfl rfl i_t (by decide) kf_t_43 d_t_standing_11 ?_
    refine lv_bipush (v := 15) hx hb d_t_standing_14 (by decide) ?_
    refine lv_icmp_lt (tgt := 21) hx hb d_t_standing_16 (by decide) (fun c2 => ?_) (fun c2 => ?_)
    · have c2 := c2
      refine lv_aload_n hx hb d_t_standing_21 rfl (lv_at hl 0 rfl) ?_
      refine ro_V (v := .int (f_t_mostEven wt rs sz bu sk)) (As := []) (rest := []) (q0 := 0) FX hK (c_t_mostEven l D cA t wa go cl se bad fp fq su an sks wt g pa re ps rs sz bu sk S hS40 hsz) hP hP rfl rfl rfl kc_t_mostEven km_t_80 ki_t ks_t_mostEven ke_t_mostEven rfl ok_t_mostEven ⟨Nat.le_of_ble_eq_true rfl, Nat.le_of_ble_eq_true rfl⟩ ⟨Nat.zero_le _, Nat.zero_le _⟩ hl.1 rfl (Nat.le_of_ble_eq_true rfl) d_t_standing_22 ?_
      refine lv_iconst (v := (-1)) hx hb d_t_standing_25 (by decide) ?_
      refine lv_icmp_ne (tgt := 33) hx hb d_t_standing_26 (by decide) (fun c3 => ?_) (fun c3 => ?_)
      · have c3 := c3
        refine lv_iconst (v := 0) hx hb d_t_standing_33 (by decide) ?_
        exact ro_iret FX (by rw [f_t_standing, if_pos c1, if_pos c2, if_neg c3]) d_t_standing_34
      · have c3 := c3
        refine lv_iconst (v := 2) hx hb d_t_standing_29 (by decide) ?_
        refine lv_goto (tgt := 34) hx hb d_t_standing_30 (by decide) ?_
        exact ro_iret FX (by rw [f_t_standing, if_pos c1, if_pos c2, if_pos c3]) d_t_standing_34
    · have c2 := c2
      refine lv_iconst (v := 3) hx hb d_t_standing_19 (by decide) ?_
      exact ro_iret FX (by rw [f_t_standing, if_pos c1, if_neg c2]) d_t_standing_20
  · have c1 := c1
    refine lv_iconst (v := 1) hx hb d_t_standing_8 (by decide) ?_
    exact ro_iret FX (by rw [f_t_standing, if_neg c1]) d_t_standing_9
theorem d_t_asked_0 : decode b_t_asked 0 = .ok (.aload_n 0, 1) := by decide +kernel
theorem d_t_asked_1 : decode b_t_asked 1 = .ok (.invokevirtual 83, 3) := by decide +kernel
theorem d_t_asked_4 : decode b_t_asked 4 = .ok (.ifCond .ne 10, 3) := by decide +kernel
theorem d_t_asked_7 : decode b_t_asked 7 = .ok (.aload_n 0, 1) := by decide +kernel
theorem d_t_asked_8 : decode b_t_asked 8 = .ok (.invokevirtual 80, 3) := by decide +kernel
theorem d_t_asked_11 : decode b_t_asked 11 = .ok (.goto 4, 3) := by decide +kernel
theorem d_t_asked_14 : decode b_t_asked 14 = .ok (.iconst (-1), 1) := by decide +kernel
theorem d_t_asked_15 : decode b_t_asked 15 = .ok (.ireturn, 1) := by decide +kernel
def f_t_asked (su : Int32) (an : Int32) (wt : Nat → Int64) (rs : Nat → Int64) (sz : Int32) (bu : Int64) (sk : Int64) : Int32 := if (f_t_standing su an wt rs sz bu sk) = 0 then
    (f_t_mostEven wt rs sz bu sk)
  else
    ((-1))
set_option maxHeartbeats 4000000 in
set_option maxRecDepth 100000 in
theorem c_t_asked (l : Launch) (D : va_G) (cA : Nat → ClassId) (t wa : Nat) (go cl : Int64) (se : Bool) (bad fp fq su an sks : Int32) (wt : Nat → Int64) (g pa re : Nat) (ps rs : Nat → Int64) (sz : Int32) (bu sk : Int64) (S : Nat) (hS40 : S ≤ 40) (hsz : sz = nI S) : Met l y_t_asked (.code y_t_asked b_t_asked 1 (some .int) :: tb) (rmd 5) (Pro D cA [.ref t] (va_P D classes [(t, .inr (2, [.ref g, .ref wa, .long go, .long cl, .int (bz se), .int bad, .int fp, .int fq, .int su, .int an, .int sks])), (wa, .inl (cA 0, 40, .inr (.inl wt))), (g, .inr (1, [.ref pa, .ref re, .int sz, .long bu, .long sk])), (pa, .inl (cA 0, 40, .inr (.inl ps))), (re, .inl (cA 0, 40, .inr (.inl rs)))])) (Qro (.int (f_t_asked su an wt rs sz bu sk))) 0 0 nof := by
  refine ro_in (by decide) (Nat.le_of_ble_eq_true rfl) (fun p e s m below meth c ls FX hnm hK hP hl => ?_)
  have hl : lv_has ls 1 [(0, .ref t)] := hl
  have hP : va_P D classes [(t, .inr (2, [.ref g, .ref wa, .long go, .long cl, .int (bz se), .int bad, .int fp, .int fq, .int su, .int an, .int sks])), (wa, .inl (cA 0, 40, .inr (.inl wt))), (g, .inr (1, [.ref pa, .ref re, .int sz, .long bu, .long sk])), (pa, .inl (cA 0, 40, .inr (.inl ps))), (re, .inl (cA 0, 40, .inr (.inl rs)))] s.heap := hP
  generalize ([.ref t] : List Value).toArray = args at FX ⊢
  obtain ⟨hx, hb, hml, hown, hts, hr, hlk⟩ := id FX
  refine lv_aload_n hx hb d_t_asked_0 rfl (lv_at hl 0 rfl) ?_
  refine ro_V (v := .int (f_t_standing su an wt rs sz bu sk)) (As := []) (rest := []) (q0 := 0) FX hK (c_t_standing l D cA t wa go cl se bad fp fq su an sks wt g pa re ps rs sz bu sk S hS40 hsz) hP hP rfl rfl rfl kc_t_standing km_t_83 ki_t ks_t_standing ke_t_standing rfl ok_t_standing ⟨Nat.le_of_ble_eq_true rfl, Nat.le_of_ble_eq_true rfl⟩ ⟨Nat.zero_le _, Nat.zero_le _⟩ hl.1 rfl (Nat.le_of_ble_eq_true rfl) d_t_asked_1 ?_
  refine lv_if_ne (tgt := 14) hx hb d_t_asked_4 (by decide) (fun c1 => ?_) (fun c1 => ?_)
  · have c1 := c1
    refine lv_iconst (v := (-1)) hx hb d_t_asked_14 (by decide) ?_
    exact ro_iret FX (by rw [f_t_asked, if_neg c1]) d_t_asked_15
  · have c1 := c1
    refine lv_aload_n hx hb d_t_asked_7 rfl (lv_at hl 0 rfl) ?_
    refine ro_V (v := .int (f_t_mostEven wt rs sz bu sk)) (As := []) (rest := []) (q0 := 0) FX hK (c_t_mostEven l D cA t wa go cl se bad fp fq su an sks wt g pa re ps rs sz bu sk S hS40 hsz) hP hP rfl rfl rfl kc_t_mostEven km_t_80 ki_t ks_t_mostEven ke_t_mostEven rfl ok_t_mostEven ⟨Nat.le_of_ble_eq_true rfl, Nat.le_of_ble_eq_true rfl⟩ ⟨Nat.zero_le _, Nat.zero_le _⟩ hl.1 rfl (Nat.le_of_ble_eq_true rfl) d_t_asked_8 ?_
    refine lv_goto (tgt := 15) hx hb d_t_asked_11 (by decide) ?_
    exact ro_iret FX (by rw [f_t_asked, if_pos c1]) d_t_asked_15
theorem d_t_likelihood_0 : decode b_t_likelihood 0 = .ok (.iload_n 1, 1) := by decide +kernel
theorem d_t_likelihood_1 : decode b_t_likelihood 1 = .ok (.iconst 1, 1) := by decide +kernel
theorem d_t_likelihood_2 : decode b_t_likelihood 2 = .ok (.if_icmp .ne 22, 3) := by decide +kernel
theorem d_t_likelihood_5 : decode b_t_likelihood 5 = .ok (.iload_n 2, 1) := by decide +kernel
theorem d_t_likelihood_6 : decode b_t_likelihood 6 = .ok (.ifCond .eq 16, 3) := by decide +kernel
theorem d_t_likelihood_9 : decode b_t_likelihood 9 = .ok (.aload_n 0, 1) := by decide +kernel
theorem d_t_likelihood_10 : decode b_t_likelihood 10 = .ok (.getfield 37, 3) := by decide +kernel
theorem d_t_likelihood_13 : decode b_t_likelihood 13 = .ok (.aload_n 0, 1) := by decide +kernel
theorem d_t_likelihood_14 : decode b_t_likelihood 14 = .ok (.getfield 34, 3) := by decide +kernel
theorem d_t_likelihood_17 : decode b_t_likelihood 17 = .ok (.isub, 1) := by decide +kernel
theorem d_t_likelihood_18 : decode b_t_likelihood 18 = .ok (.i2l, 1) := by decide +kernel
theorem d_t_likelihood_19 : decode b_t_likelihood 19 = .ok (.goto 4, 3) := by decide +kernel
theorem d_t_likelihood_22 : decode b_t_likelihood 22 = .ok (.lconst 0, 1) := by decide +kernel
theorem d_t_likelihood_23 : decode b_t_likelihood 23 = .ok (.lreturn, 1) := by decide +kernel
theorem d_t_likelihood_24 : decode b_t_likelihood 24 = .ok (.iload_n 2, 1) := by decide +kernel
theorem d_t_likelihood_25 : decode b_t_likelihood 25 = .ok (.ifCond .eq 11, 3) := by decide +kernel
theorem d_t_likelihood_28 : decode b_t_likelihood 28 = .ok (.aload_n 0, 1) := by decide +kernel
theorem d_t_likelihood_29 : decode b_t_likelihood 29 = .ok (.getfield 34, 3) := by decide +kernel
theorem d_t_likelihood_32 : decode b_t_likelihood 32 = .ok (.i2l, 1) := by decide +kernel
theorem d_t_likelihood_33 : decode b_t_likelihood 33 = .ok (.goto 8, 3) := by decide +kernel
theorem d_t_likelihood_36 : decode b_t_likelihood 36 = .ok (.aload_n 0, 1) := by decide +kernel
theorem d_t_likelihood_37 : decode b_t_likelihood 37 = .ok (.getfield 37, 3) := by decide +kernel
theorem d_t_likelihood_40 : decode b_t_likelihood 40 = .ok (.i2l, 1) := by decide +kernel
theorem d_t_likelihood_41 : decode b_t_likelihood 41 = .ok (.lreturn, 1) := by decide +kernel
def f_t_likelihood (fp : Int32) (fq : Int32) (ou : Int32) (br : Bool) : Int64 := if ou = 1 then
    (if br = true then
      ((fq - fp).toInt64)
    else
      (0))
  else
    (if br = true then
      (fp.toInt64)
    else
      (fq.toInt64))
set_option maxHeartbeats 4000000 in
set_option maxRecDepth 100000 in
theorem c_t_likelihood (l : Launch) (D : va_G) (cA : Nat → ClassId) (t wa : Nat) (go cl : Int64) (se : Bool) (bad fp fq su an sks : Int32) (wt : Nat → Int64) (g pa re : Nat) (ps rs : Nat → Int64) (sz : Int32) (bu sk : Int64) (ou : Int32) (br : Bool) : Met l y_t_likelihood (.code y_t_likelihood b_t_likelihood 3 (some .long) :: tb) (rmd 0) (Pro D cA [.ref t, .int ou, .int (bz br)] (va_P D classes [(t, .inr (2, [.ref g, .ref wa, .long go, .long cl, .int (bz se), .int bad, .int fp, .int fq, .int su, .int an, .int sks])), (wa, .inl (cA 0, 40, .inr (.inl wt))), (g, .inr (1, [.ref pa, .ref re, .int sz, .long bu, .long sk])), (pa, .inl (cA 0, 40, .inr (.inl ps))), (re, .inl (cA 0, 40, .inr (.inl rs)))])) (Qro (.long (f_t_likelihood fp fq ou br))) 0 0 nof := by
  refine ro_in (by decide) (Nat.le_of_ble_eq_true rfl) (fun p e s m below meth c ls FX hnm hK hP hl => ?_)
  have hl : lv_has ls 3 [(0, .ref t), (1, .int ou), (2, .int (bz br))] := hl
  have hP : va_P D classes [(t, .inr (2, [.ref g, .ref wa, .long go, .long cl, .int (bz se), .int bad, .int fp, .int fq, .int su, .int an, .int sks])), (wa, .inl (cA 0, 40, .inr (.inl wt))), (g, .inr (1, [.ref pa, .ref re, .int sz, .long bu, .long sk])), (pa, .inl (cA 0, 40, .inr (.inl ps))), (re, .inl (cA 0, 40, .inr (.inl rs)))] s.heap := hP
  generalize ([.ref t, .int ou, .int (bz br)] : List Value).toArray = args at FX ⊢
  obtain ⟨hx, hb, hml, hown, hts, hr, hlk⟩ := id FX
  refine lv_iload_n hx hb d_t_likelihood_0 rfl (lv_at hl 1 rfl) ?_
  refine lv_iconst (v := 1) hx hb d_t_likelihood_1 (by decide) ?_
  refine lv_icmp_ne (tgt := 24) hx hb d_t_likelihood_2 (by decide) (fun c1 => ?_) (fun c1 => ?_)
  · have c1 := c1
    refine lv_iload_n hx hb d_t_likelihood_24 rfl (lv_at hl 2 rfl) ?_
    refine lv_if_eq (tgt := 36) hx hb d_t_likelihood_25 (by decide) (fun c2 => ?_) (fun c2 => ?_)
    · have c2 := bz_f c2
      refine lv_aload_n hx hb d_t_likelihood_36 rfl (lv_at hl 0 rfl) ?_
      refine ro_get (v := .int fq) FX hK hP 0 7 rfl rfl rfl i_t (by decide) kf_t_37 d_t_likelihood_37 ?_
      refine lv_i2l (v := fq.toInt64) hx hb d_t_likelihood_40 rfl ?_
      exact ro_lret FX (by rw [f_t_likelihood, if_neg c1, if_neg c2]) d_t_likelihood_41
    · have c2 := bz_t c2
      refine lv_aload_n hx hb d_t_likelihood_28 rfl (lv_at hl 0 rfl) ?_
      refine ro_get (v := .int fp) FX hK hP 0 6 rfl rfl rfl i_t (by decide) kf_t_34 d_t_likelihood_29 ?_
      refine lv_i2l (v := fp.toInt64) hx hb d_t_likelihood_32 rfl ?_
      refine lv_goto (tgt := 41) hx hb d_t_likelihood_33 (by decide) ?_
      exact ro_lret FX (by rw [f_t_likelihood, if_neg c1, if_pos c2]) d_t_likelihood_41
  · have c1 := c1
    refine lv_iload_n hx hb d_t_likelihood_5 rfl (lv_at hl 2 rfl) ?_
    refine lv_if_eq (tgt := 22) hx hb d_t_likelihood_6 (by decide) (fun c3 => ?_) (fun c3 => ?_)
    · have c3 := bz_f c3
      refine lv_lconst (v := 0) hx hb d_t_likelihood_22 (by decide) ?_
      exact ro_lret FX (by rw [f_t_likelihood, if_pos c1, if_neg c3]) d_t_likelihood_23
    · have c3 := bz_t c3
      refine lv_aload_n hx hb d_t_likelihood_9 rfl (lv_at hl 0 rfl) ?_
      refine ro_get (v := .int fq) FX hK hP 0 7 rfl rfl rfl i_t (by decide) kf_t_37 d_t_likelihood_10 ?_
      refine lv_aload_n hx hb d_t_likelihood_13 rfl (lv_at hl 0 rfl) ?_
      refine ro_get (v := .int fp) FX hK hP 0 6 rfl rfl rfl i_t (by decide) kf_t_34 d_t_likelihood_14 ?_
      refine lv_isub hx hb d_t_likelihood_17 ?_
      refine lv_i2l (v := (fq - fp).toInt64) hx hb d_t_likelihood_18 rfl ?_
      refine lv_goto (tgt := 23) hx hb d_t_likelihood_19 (by decide) ?_
      exact ro_lret FX (by rw [f_t_likelihood, if_pos c1, if_pos c3]) d_t_likelihood_23
theorem d_t_rankOf_0 : decode b_t_rankOf 0 = .ok (.aload_n 0, 1) := by decide +kernel
theorem d_t_rankOf_1 : decode b_t_rankOf 1 = .ok (.iload_n 1, 1) := by decide +kernel
theorem d_t_rankOf_2 : decode b_t_rankOf 2 = .ok (.invokevirtual 120, 3) := by decide +kernel
theorem d_t_rankOf_5 : decode b_t_rankOf 5 = .ok (.lstore_n 2, 1) := by decide +kernel
theorem d_t_rankOf_6 : decode b_t_rankOf 6 = .ok (.iconst 0, 1) := by decide +kernel
theorem d_t_rankOf_7 : decode b_t_rankOf 7 = .ok (.istore 4, 2) := by decide +kernel
theorem d_t_rankOf_9 : decode b_t_rankOf 9 = .ok (.iconst 0, 1) := by decide +kernel
theorem d_t_rankOf_10 : decode b_t_rankOf 10 = .ok (.istore 5, 2) := by decide +kernel
theorem d_t_rankOf_12 : decode b_t_rankOf 12 = .ok (.iload 5, 2) := by decide +kernel
theorem d_t_rankOf_14 : decode b_t_rankOf 14 = .ok (.aload_n 0, 1) := by decide +kernel
theorem d_t_rankOf_15 : decode b_t_rankOf 15 = .ok (.getfield 15, 3) := by decide +kernel
theorem d_t_rankOf_18 : decode b_t_rankOf 18 = .ok (.arraylength, 1) := by decide +kernel
theorem d_t_rankOf_19 : decode b_t_rankOf 19 = .ok (.if_icmp .ge 42, 3) := by decide +kernel
theorem d_t_rankOf_22 : decode b_t_rankOf 22 = .ok (.aload_n 0, 1) := by decide +kernel
theorem d_t_rankOf_23 : decode b_t_rankOf 23 = .ok (.getfield 15, 3) := by decide +kernel
theorem d_t_rankOf_26 : decode b_t_rankOf 26 = .ok (.iload 5, 2) := by decide +kernel
theorem d_t_rankOf_28 : decode b_t_rankOf 28 = .ok (.laload, 1) := by decide +kernel
theorem d_t_rankOf_29 : decode b_t_rankOf 29 = .ok (.lload_n 2, 1) := by decide +kernel
theorem d_t_rankOf_30 : decode b_t_rankOf 30 = .ok (.lcmp, 1) := by decide +kernel
theorem d_t_rankOf_31 : decode b_t_rankOf 31 = .ok (.ifCond .gt 21, 3) := by decide +kernel
theorem d_t_rankOf_34 : decode b_t_rankOf 34 = .ok (.aload_n 0, 1) := by decide +kernel
theorem d_t_rankOf_35 : decode b_t_rankOf 35 = .ok (.getfield 15, 3) := by decide +kernel
theorem d_t_rankOf_38 : decode b_t_rankOf 38 = .ok (.iload 5, 2) := by decide +kernel
theorem d_t_rankOf_40 : decode b_t_rankOf 40 = .ok (.laload, 1) := by decide +kernel
theorem d_t_rankOf_41 : decode b_t_rankOf 41 = .ok (.lload_n 2, 1) := by decide +kernel
theorem d_t_rankOf_42 : decode b_t_rankOf 42 = .ok (.lcmp, 1) := by decide +kernel
theorem d_t_rankOf_43 : decode b_t_rankOf 43 = .ok (.ifCond .ne 12, 3) := by decide +kernel
theorem d_t_rankOf_46 : decode b_t_rankOf 46 = .ok (.iload 5, 2) := by decide +kernel
theorem d_t_rankOf_48 : decode b_t_rankOf 48 = .ok (.iload_n 1, 1) := by decide +kernel
theorem d_t_rankOf_49 : decode b_t_rankOf 49 = .ok (.if_icmp .ge 6, 3) := by decide +kernel
theorem d_t_rankOf_52 : decode b_t_rankOf 52 = .ok (.iinc 4 1, 3) := by decide +kernel
theorem d_t_rankOf_55 : decode b_t_rankOf 55 = .ok (.iinc 5 1, 3) := by decide +kernel
theorem d_t_rankOf_58 : decode b_t_rankOf 58 = .ok (.goto (-46), 3) := by decide +kernel
theorem d_t_rankOf_61 : decode b_t_rankOf 61 = .ok (.iload 4, 2) := by decide +kernel
theorem d_t_rankOf_63 : decode b_t_rankOf 63 = .ok (.ireturn, 1) := by decide +kernel
def L_t_rankOf_12 (wt : Nat → Int64) (nu : Int32) : Nat → Int32 → Int32 → Int32
  | 0, _, _ => 0
  | n + 1, bf, xi => if 40 ≤ xi then
    (bf)
  else
    (if (f_t_weightOf wt nu) < (wt xi.toNatClampNeg) then
      (L_t_rankOf_12 wt nu n (bf + 1) (xi + 1))
    else
      (if (wt xi.toNatClampNeg) = (f_t_weightOf wt nu) then
        (if nu ≤ xi then
          (L_t_rankOf_12 wt nu n bf (xi + 1))
        else
          (L_t_rankOf_12 wt nu n (bf + 1) (xi + 1)))
      else
        (L_t_rankOf_12 wt nu n bf (xi + 1))))
theorem L_t_rankOf_12_s (wt : Nat → Int64) (nu : Int32) (n : Nat) (bf : Int32) (xi : Int32) : L_t_rankOf_12 wt nu (n + 1) bf xi = if 40 ≤ xi then
    (bf)
  else
    (if (f_t_weightOf wt nu) < (wt xi.toNatClampNeg) then
      (L_t_rankOf_12 wt nu n (bf + 1) (xi + 1))
    else
      (if (wt xi.toNatClampNeg) = (f_t_weightOf wt nu) then
        (if nu ≤ xi then
          (L_t_rankOf_12 wt nu n bf (xi + 1))
        else
          (L_t_rankOf_12 wt nu n (bf + 1) (xi + 1)))
      else
        (L_t_rankOf_12 wt nu n bf (xi + 1)))) := rfl
def f_t_rankOf (wt : Nat → Int64) (nu : Int32) : Int32 := L_t_rankOf_12 wt nu 41 0 0
set_option maxHeartbeats 4000000 in
set_option maxRecDepth 100000 in
theorem c_t_rankOf (l : Launch) (D : va_G) (cA : Nat → ClassId) (t wa : Nat) (go cl : Int64) (se : Bool) (bad fp fq su an sks : Int32) (wt : Nat → Int64) (g pa re : Nat) (ps rs : Nat → Int64) (sz : Int32) (bu sk : Int64) (nu : Int32) : Met l y_t_rankOf (.code y_t_rankOf b_t_rankOf 6 (some .int) :: tb) (rmd 1) (Pro D cA [.ref t, .int nu] (va_P D classes [(t, .inr (2, [.ref g, .ref wa, .long go, .long cl, .int (bz se), .int bad, .int fp, .int fq, .int su, .int an, .int sks])), (wa, .inl (cA 0, 40, .inr (.inl wt))), (g, .inr (1, [.ref pa, .ref re, .int sz, .long bu, .long sk])), (pa, .inl (cA 0, 40, .inr (.inl ps))), (re, .inl (cA 0, 40, .inr (.inl rs)))])) (Qro (.int (f_t_rankOf wt nu))) 0 0 nof := by
  refine ro_in (by decide) (Nat.le_of_ble_eq_true rfl) (fun p e s m below meth c ls FX hnm hK hP hl => ?_)
  have hl : lv_has ls 6 [(0, .ref t), (1, .int nu)] := hl
  have hP : va_P D classes [(t, .inr (2, [.ref g, .ref wa, .long go, .long cl, .int (bz se), .int bad, .int fp, .int fq, .int su, .int an, .int sks])), (wa, .inl (cA 0, 40, .inr (.inl wt))), (g, .inr (1, [.ref pa, .ref re, .int sz, .long bu, .long sk])), (pa, .inl (cA 0, 40, .inr (.inl ps))), (re, .inl (cA 0, 40, .inr (.inl rs)))] s.heap := hP
  generalize ([.ref t, .int nu] : List Value).toArray = args at FX ⊢
  obtain ⟨hx, hb, hml, hown, hts, hr, hlk⟩ := id FX
  refine lv_aload_n hx hb d_t_rankOf_0 rfl (lv_at hl 0 rfl) ?_
  refine lv_iload_n hx hb d_t_rankOf_1 rfl (lv_at hl 1 rfl) ?_
  refine ro_V (v := .long (f_t_weightOf wt nu)) (As := [.int nu]) (rest := []) (q0 := 0) FX hK (c_t_weightOf l D cA t wa go cl se bad fp fq su an sks wt g pa re ps rs sz bu sk nu) hP hP rfl rfl rfl kc_t_weightOf km_t_120 ki_t ks_t_weightOf ke_t_weightOf rfl ok_t_weightOf ⟨Nat.le_of_ble_eq_true rfl, Nat.le_of_ble_eq_true rfl⟩ ⟨Nat.zero_le _, Nat.zero_le _⟩ hl.1 rfl (Nat.le_of_ble_eq_true rfl) d_t_rankOf_2 ?_
  refine lv_lstore_n (lv' := [(2, .long (f_t_weightOf wt nu)), (0, .ref t), (1, .int nu)]) hx hb d_t_rankOf_5 rfl hl (by decide) rfl (fun ls hl => ?_)
  refine lv_iconst (v := 0) hx hb d_t_rankOf_6 (by decide) ?_
  refine lv_istore (lv' := [(4, .int 0), (2, .long (f_t_weightOf wt nu)), (0, .ref t), (1, .int nu)]) hx hb d_t_rankOf_7 hl (by decide) rfl (fun ls hl => ?_)
  refine lv_iconst (v := 0) hx hb d_t_rankOf_9 (by decide) ?_
  refine lv_istore (lv' := [(5, .int 0), (4, .int 0), (2, .long (f_t_weightOf wt nu)), (0, .ref t), (1, .int nu)]) hx hb d_t_rankOf_10 hl (by decide) rfl (fun ls hl => ?_)
  have loop : ∀ (n k : Nat) (bf : Int32) (xi : Int32) (ls : Array Slot), k + n = 41 → k ≤ 40 → xi = nI k → lv_has ls 6 [(0, .ref t), (1, .int nu), (2, .long (f_t_weightOf wt nu)), (4, .int bf), (5, .int xi)] → W p l e (rmd 1) s m args below meth c s.heap [] 0 0 (MQ below (Qro (.int (L_t_rankOf_12 wt nu n bf xi))) args s 0 0 nof) (F0 m 12 ls []) := by
    intro n
    induction n with
    | zero =>
      intro k bf xi ls h1 h2
      exact absurd h1 (by omega)
    | succ n ih =>
      intro k bf xi ls hkn hk hxi hl
      refine lv_iload hx hb d_t_rankOf_12 (lv_at hl 4 rfl) ?_
      refine lv_aload_n hx hb d_t_rankOf_14 rfl (lv_at hl 0 rfl) ?_
      refine ro_get (v := .ref wa) FX hK hP 0 1 rfl rfl rfl i_t (by decide) kf_t_15 d_t_rankOf_15 ?_
      refine va_alen (v := 40) hx hb hK.1 hP 1 0 rfl rfl rfl d_t_rankOf_18 ?_
      refine lv_icmp_ge (tgt := 61) hx hb d_t_rankOf_19 (by decide) (fun c1 => ?_) (fun c1 => ?_)
      · have c1 := c1
        refine lv_iload hx hb d_t_rankOf_61 (lv_at hl 3 rfl) ?_
        exact ro_iret FX (by rw [L_t_rankOf_12_s, if_pos c1]) d_t_rankOf_63
      · have c1 := c1
        have hk1 : k < 40 := k_lt hxi rfl c1 (by omega)
        refine lv_aload_n hx hb d_t_rankOf_22 rfl (lv_at hl 0 rfl) ?_
        refine ro_get (v := .ref wa) FX hK hP 0 1 rfl rfl rfl i_t (by decide) kf_t_15 d_t_rankOf_23 ?_
        refine lv_iload hx hb d_t_rankOf_26 (lv_at hl 4 rfl) ?_
        refine va_lald hx hb hK.1 hP 1 0 rfl rfl (vin hxi hk1 (by decide)) d_t_rankOf_28 ?_
        refine lv_lload_n hx hb d_t_rankOf_29 rfl (lv_at hl 2 rfl) ?_
        refine W.lcmp hx hb d_t_rankOf_30 ?_
        refine lv_if_gt (tgt := 52) hx hb d_t_rankOf_31 (by decide) (fun c2 => ?_) (fun c2 => ?_)
        · have c2 := cp_gt c2
          refine lv_iinc (v := bf + 1) (lv' := [(4, .int (bf + 1)), (0, .ref t), (1, .int nu), (2, .long (f_t_weightOf wt nu)), (5, .int xi)]) hx hb d_t_rankOf_52 hl (k := 3) rfl rfl (by decide) rfl (fun ls hl => ?_)
          refine lv_iinc (v := xi + 1) (lv' := [(5, .int (xi + 1)), (4, .int (bf + 1)), (0, .ref t), (1, .int nu), (2, .long (f_t_weightOf wt nu))]) hx hb d_t_rankOf_55 hl (k := 4) rfl rfl (by decide) rfl (fun ls hl => ?_)
          refine lv_goto (tgt := 12) hx hb d_t_rankOf_58 (by decide) ?_
          refine ro_to (by rw [L_t_rankOf_12_s, if_neg c1, if_pos c2]) ?_
          exact ih (k + 1) (bf + 1) (xi + 1) ls (by omega) (by omega) (by rw [hxi]; exact nI_1 _)  (lv_sub hl [2, 3, 4, 1, 0] rfl)
        · have c2 := cp_ngt c2
          refine lv_aload_n hx hb d_t_rankOf_34 rfl (lv_at hl 0 rfl) ?_
          refine ro_get (v := .ref wa) FX hK hP 0 1 rfl rfl rfl i_t (by decide) kf_t_15 d_t_rankOf_35 ?_
          refine lv_iload hx hb d_t_rankOf_38 (lv_at hl 4 rfl) ?_
          refine va_lald hx hb hK.1 hP 1 0 rfl rfl (vin hxi hk1 (by decide)) d_t_rankOf_40 ?_
          refine lv_lload_n hx hb d_t_rankOf_41 rfl (lv_at hl 2 rfl) ?_
          refine W.lcmp hx hb d_t_rankOf_42 ?_
          refine lv_if_ne (tgt := 55) hx hb d_t_rankOf_43 (by decide) (fun c3 => ?_) (fun c3 => ?_)
          · have c3 := cp_ne c3
            refine lv_iinc (v := xi + 1) (lv' := [(5, .int (xi + 1)), (0, .ref t), (1, .int nu), (2, .long (f_t_weightOf wt nu)), (4, .int bf)]) hx hb d_t_rankOf_55 hl (k := 4) rfl rfl (by decide) rfl (fun ls hl => ?_)
            refine lv_goto (tgt := 12) hx hb d_t_rankOf_58 (by decide) ?_
            refine ro_to (by rw [L_t_rankOf_12_s, if_neg c1, if_neg c2, if_neg c3]) ?_
            exact ih (k + 1) bf (xi + 1) ls (by omega) (by omega) (by rw [hxi]; exact nI_1 _)  (lv_sub hl [1, 2, 3, 4, 0] rfl)
          · have c3 := cp_eq c3
            refine lv_iload hx hb d_t_rankOf_46 (lv_at hl 4 rfl) ?_
            refine lv_iload_n hx hb d_t_rankOf_48 rfl (lv_at hl 1 rfl) ?_
            refine lv_icmp_ge (tgt := 55) hx hb d_t_rankOf_49 (by decide) (fun c4 => ?_) (fun c4 => ?_)
            · have c4 := c4
              refine lv_iinc (v := xi + 1) (lv' := [(5, .int (xi + 1)), (0, .ref t), (1, .int nu), (2, .long (f_t_weightOf wt nu)), (4, .int bf)]) hx hb d_t_rankOf_55 hl (k := 4) rfl rfl (by decide) rfl (fun ls hl => ?_)
              refine lv_goto (tgt := 12) hx hb d_t_rankOf_58 (by decide) ?_
              refine ro_to (by rw [L_t_rankOf_12_s, if_neg c1, if_neg c2, if_pos c3, if_pos c4]) ?_
              exact ih (k + 1) bf (xi + 1) ls (by omega) (by omega) (by rw [hxi]; exact nI_1 _)  (lv_sub hl [1, 2, 3, 4, 0] rfl)
            · have c4 := c4
              refine lv_iinc (v := bf + 1) (lv' := [(4, .int (bf + 1)), (0, .ref t), (1, .int nu), (2, .long (f_t_weightOf wt nu)), (5, .int xi)]) hx hb d_t_rankOf_52 hl (k := 3) rfl rfl (by decide) rfl (fun ls hl => ?_)
              refine lv_iinc (v := xi + 1) (lv' := [(5, .int (xi + 1)), (4, .int (bf + 1)), (0, .ref t), (1, .int nu), (2, .long (f_t_weightOf wt nu))]) hx hb d_t_rankOf_55 hl (k := 4) rfl rfl (by decide) rfl (fun ls hl => ?_)
              refine lv_goto (tgt := 12) hx hb d_t_rankOf_58 (by decide) ?_
              refine ro_to (by rw [L_t_rankOf_12_s, if_neg c1, if_neg c2, if_pos c3, if_neg c4]) ?_
              exact ih (k + 1) (bf + 1) (xi + 1) ls (by omega) (by omega) (by rw [hxi]; exact nI_1 _)  (lv_sub hl [2, 3, 4, 1, 0] rfl)
  refine ro_to (by rw [f_t_rankOf]) ?_
  exact loop 41 0 0 0 ls rfl (Nat.zero_le _) rfl  (lv_sub hl [3, 4, 2, 1, 0] rfl)
theorem d_t_ranked_0 : decode b_t_ranked 0 = .ok (.iconst 0, 1) := by decide +kernel
theorem d_t_ranked_1 : decode b_t_ranked 1 = .ok (.istore_n 2, 1) := by decide +kernel
theorem d_t_ranked_2 : decode b_t_ranked 2 = .ok (.iload_n 2, 1) := by decide +kernel
theorem d_t_ranked_3 : decode b_t_ranked 3 = .ok (.aload_n 0, 1) := by decide +kernel
theorem d_t_ranked_4 : decode b_t_ranked 4 = .ok (.getfield 15, 3) := by decide +kernel
theorem d_t_ranked_7 : decode b_t_ranked 7 = .ok (.arraylength, 1) := by decide +kernel
theorem d_t_ranked_8 : decode b_t_ranked 8 = .ok (.if_icmp .ge 31, 3) := by decide +kernel
theorem d_t_ranked_11 : decode b_t_ranked 11 = .ok (.aload_n 0, 1) := by decide +kernel
theorem d_t_ranked_12 : decode b_t_ranked 12 = .ok (.getfield 15, 3) := by decide +kernel
theorem d_t_ranked_15 : decode b_t_ranked 15 = .ok (.iload_n 2, 1) := by decide +kernel
theorem d_t_ranked_16 : decode b_t_ranked 16 = .ok (.laload, 1) := by decide +kernel
theorem d_t_ranked_17 : decode b_t_ranked 17 = .ok (.lconst 0, 1) := by decide +kernel
theorem d_t_ranked_18 : decode b_t_ranked 18 = .ok (.lcmp, 1) := by decide +kernel
theorem d_t_ranked_19 : decode b_t_ranked 19 = .ok (.ifCond .le 14, 3) := by decide +kernel
theorem d_t_ranked_22 : decode b_t_ranked 22 = .ok (.aload_n 0, 1) := by decide +kernel
theorem d_t_ranked_23 : decode b_t_ranked 23 = .ok (.iload_n 2, 1) := by decide +kernel
theorem d_t_ranked_24 : decode b_t_ranked 24 = .ok (.invokevirtual 116, 3) := by decide +kernel
theorem d_t_ranked_27 : decode b_t_ranked 27 = .ok (.iload_n 1, 1) := by decide +kernel
theorem d_t_ranked_28 : decode b_t_ranked 28 = .ok (.if_icmp .ne 5, 3) := by decide +kernel
theorem d_t_ranked_31 : decode b_t_ranked 31 = .ok (.iload_n 2, 1) := by decide +kernel
theorem d_t_ranked_32 : decode b_t_ranked 32 = .ok (.ireturn, 1) := by decide +kernel
theorem d_t_ranked_33 : decode b_t_ranked 33 = .ok (.iinc 2 1, 3) := by decide +kernel
theorem d_t_ranked_36 : decode b_t_ranked 36 = .ok (.goto (-34), 3) := by decide +kernel
theorem d_t_ranked_39 : decode b_t_ranked 39 = .ok (.iconst (-1), 1) := by decide +kernel
theorem d_t_ranked_40 : decode b_t_ranked 40 = .ok (.ireturn, 1) := by decide +kernel
def L_t_ranked_2 (wt : Nat → Int64) (kk : Int32) : Nat → Int32 → Int32
  | 0, _ => 0
  | n + 1, xi => if 40 ≤ xi then
    ((-1))
  else
    (if 0 < (wt xi.toNatClampNeg) then
      (if (f_t_rankOf wt xi) = kk then
        (xi)
      else
        (L_t_ranked_2 wt kk n (xi + 1)))
    else
      (L_t_ranked_2 wt kk n (xi + 1)))
theorem L_t_ranked_2_s (wt : Nat → Int64) (kk : Int32) (n : Nat) (xi : Int32) : L_t_ranked_2 wt kk (n + 1) xi = if 40 ≤ xi then
    ((-1))
  else
    (if 0 < (wt xi.toNatClampNeg) then
      (if (f_t_rankOf wt xi) = kk then
        (xi)
      else
        (L_t_ranked_2 wt kk n (xi + 1)))
    else
      (L_t_ranked_2 wt kk n (xi + 1))) := rfl
def f_t_ranked (wt : Nat → Int64) (kk : Int32) : Int32 := L_t_ranked_2 wt kk 41 0
set_option maxHeartbeats 4000000 in
set_option maxRecDepth 100000 in
theorem c_t_ranked (l : Launch) (D : va_G) (cA : Nat → ClassId) (t wa : Nat) (go cl : Int64) (se : Bool) (bad fp fq su an sks : Int32) (wt : Nat → Int64) (g pa re : Nat) (ps rs : Nat → Int64) (sz : Int32) (bu sk : Int64) (kk : Int32) : Met l y_t_ranked (.code y_t_ranked b_t_ranked 3 (some .int) :: tb) (rmd 2) (Pro D cA [.ref t, .int kk] (va_P D classes [(t, .inr (2, [.ref g, .ref wa, .long go, .long cl, .int (bz se), .int bad, .int fp, .int fq, .int su, .int an, .int sks])), (wa, .inl (cA 0, 40, .inr (.inl wt))), (g, .inr (1, [.ref pa, .ref re, .int sz, .long bu, .long sk])), (pa, .inl (cA 0, 40, .inr (.inl ps))), (re, .inl (cA 0, 40, .inr (.inl rs)))])) (Qro (.int (f_t_ranked wt kk))) 0 0 nof := by
  refine ro_in (by decide) (Nat.le_of_ble_eq_true rfl) (fun p e s m below meth c ls FX hnm hK hP hl => ?_)
  have hl : lv_has ls 3 [(0, .ref t), (1, .int kk)] := hl
  have hP : va_P D classes [(t, .inr (2, [.ref g, .ref wa, .long go, .long cl, .int (bz se), .int bad, .int fp, .int fq, .int su, .int an, .int sks])), (wa, .inl (cA 0, 40, .inr (.inl wt))), (g, .inr (1, [.ref pa, .ref re, .int sz, .long bu, .long sk])), (pa, .inl (cA 0, 40, .inr (.inl ps))), (re, .inl (cA 0, 40, .inr (.inl rs)))] s.heap := hP
  generalize ([.ref t, .int kk] : List Value).toArray = args at FX ⊢
  obtain ⟨hx, hb, hml, hown, hts, hr, hlk⟩ := id FX
  refine lv_iconst (v := 0) hx hb d_t_ranked_0 (by decide) ?_
  refine lv_istore_n (lv' := [(2, .int 0), (0, .ref t), (1, .int kk)]) hx hb d_t_ranked_1 rfl hl (by decide) rfl (fun ls hl => ?_)
  have loop : ∀ (n k : Nat) (xi : Int32) (ls : Array Slot), k + n = 41 → k ≤ 40 → xi = nI k → lv_has ls 3 [(0, .ref t), (1, .int kk), (2, .int xi)] → W p l e (rmd 2) s m args below meth c s.heap [] 0 0 (MQ below (Qro (.int (L_t_ranked_2 wt kk n xi))) args s 0 0 nof) (F0 m 2 ls []) := by
    intro n
    induction n with
    | zero =>
      intro k xi ls h1 h2
      exact absurd h1 (by omega)
    | succ n ih =>
      intro k xi ls hkn hk hxi hl
      refine lv_iload_n hx hb d_t_ranked_2 rfl (lv_at hl 2 rfl) ?_
      refine lv_aload_n hx hb d_t_ranked_3 rfl (lv_at hl 0 rfl) ?_
      refine ro_get (v := .ref wa) FX hK hP 0 1 rfl rfl rfl i_t (by decide) kf_t_15 d_t_ranked_4 ?_
      refine va_alen (v := 40) hx hb hK.1 hP 1 0 rfl rfl rfl d_t_ranked_7 ?_
      refine lv_icmp_ge (tgt := 39) hx hb d_t_ranked_8 (by decide) (fun c1 => ?_) (fun c1 => ?_)
      · have c1 := c1
        refine lv_iconst (v := (-1)) hx hb d_t_ranked_39 (by decide) ?_
        exact ro_iret FX (by rw [L_t_ranked_2_s, if_pos c1]) d_t_ranked_40
      · have c1 := c1
        have hk1 : k < 40 := k_lt hxi rfl c1 (by omega)
        refine lv_aload_n hx hb d_t_ranked_11 rfl (lv_at hl 0 rfl) ?_
        refine ro_get (v := .ref wa) FX hK hP 0 1 rfl rfl rfl i_t (by decide) kf_t_15 d_t_ranked_12 ?_
        refine lv_iload_n hx hb d_t_ranked_15 rfl (lv_at hl 2 rfl) ?_
        refine va_lald hx hb hK.1 hP 1 0 rfl rfl (vin hxi hk1 (by decide)) d_t_ranked_16 ?_
        refine lv_lconst (v := 0) hx hb d_t_ranked_17 (by decide) ?_
        refine W.lcmp hx hb d_t_ranked_18 ?_
        refine lv_if_le (tgt := 33) hx hb d_t_ranked_19 (by decide) (fun c2 => ?_) (fun c2 => ?_)
        · have c2 := cp_le c2
          refine lv_iinc (v := xi + 1) (lv' := [(2, .int (xi + 1)), (0, .ref t), (1, .int kk)]) hx hb d_t_ranked_33 hl (k := 2) rfl rfl (by decide) rfl (fun ls hl => ?_)
          refine lv_goto (tgt := 2) hx hb d_t_ranked_36 (by decide) ?_
          refine ro_to (by rw [L_t_ranked_2_s, if_neg c1, if_neg c2]) ?_
          exact ih (k + 1) (xi + 1) ls (by omega) (by omega) (by rw [hxi]; exact nI_1 _)  (lv_sub hl [1, 2, 0] rfl)
        · have c2 := cp_nle c2
          refine lv_aload_n hx hb d_t_ranked_22 rfl (lv_at hl 0 rfl) ?_
          refine lv_iload_n hx hb d_t_ranked_23 rfl (lv_at hl 2 rfl) ?_
          refine ro_V (v := .int (f_t_rankOf wt xi)) (As := [.int xi]) (rest := []) (q0 := 0) FX hK (c_t_rankOf l D cA t wa go cl se bad fp fq su an sks wt g pa re ps rs sz bu sk xi) hP hP rfl rfl rfl kc_t_rankOf km_t_116 ki_t ks_t_rankOf ke_t_rankOf rfl ok_t_rankOf ⟨Nat.le_of_ble_eq_true rfl, Nat.le_of_ble_eq_true rfl⟩ ⟨Nat.zero_le _, Nat.zero_le _⟩ hl.1 rfl (Nat.le_of_ble_eq_true rfl) d_t_ranked_24 ?_
          refine lv_iload_n hx hb d_t_ranked_27 rfl (lv_at hl 1 rfl) ?_
          refine lv_icmp_ne (tgt := 33) hx hb d_t_ranked_28 (by decide) (fun c3 => ?_) (fun c3 => ?_)
          · have c3 := c3
            refine lv_iinc (v := xi + 1) (lv' := [(2, .int (xi + 1)), (0, .ref t), (1, .int kk)]) hx hb d_t_ranked_33 hl (k := 2) rfl rfl (by decide) rfl (fun ls hl => ?_)
            refine lv_goto (tgt := 2) hx hb d_t_ranked_36 (by decide) ?_
            refine ro_to (by rw [L_t_ranked_2_s, if_neg c1, if_pos c2, if_neg c3]) ?_
            exact ih (k + 1) (xi + 1) ls (by omega) (by omega) (by rw [hxi]; exact nI_1 _)  (lv_sub hl [1, 2, 0] rfl)
          · have c3 := c3
            refine lv_iload_n hx hb d_t_ranked_31 rfl (lv_at hl 2 rfl) ?_
            exact ro_iret FX (by rw [L_t_ranked_2_s, if_neg c1, if_pos c2, if_pos c3]) d_t_ranked_32
  refine ro_to (by rw [f_t_ranked]) ?_
  exact loop 41 0 0 ls rfl (Nat.zero_le _) rfl  (lv_sub hl [1, 2, 0] rfl)
theorem d_t_onWay_0 : decode b_t_onWay 0 = .ok (.aload_n 0, 1) := by decide +kernel
theorem d_t_onWay_1 : decode b_t_onWay 1 = .ok (.invokevirtual 76, 3) := by decide +kernel
theorem d_t_onWay_4 : decode b_t_onWay 4 = .ok (.istore_n 2, 1) := by decide +kernel
theorem d_t_onWay_5 : decode b_t_onWay 5 = .ok (.iload_n 2, 1) := by decide +kernel
theorem d_t_onWay_6 : decode b_t_onWay 6 = .ok (.iconst (-1), 1) := by decide +kernel
theorem d_t_onWay_7 : decode b_t_onWay 7 = .ok (.if_icmp .eq 13, 3) := by decide +kernel
theorem d_t_onWay_10 : decode b_t_onWay 10 = .ok (.iload_n 1, 1) := by decide +kernel
theorem d_t_onWay_11 : decode b_t_onWay 11 = .ok (.ifCond .lt 9, 3) := by decide +kernel
theorem d_t_onWay_14 : decode b_t_onWay 14 = .ok (.iload_n 1, 1) := by decide +kernel
theorem d_t_onWay_15 : decode b_t_onWay 15 = .ok (.bipush 40, 2) := by decide +kernel
theorem d_t_onWay_17 : decode b_t_onWay 17 = .ok (.if_icmp .lt 5, 3) := by decide +kernel
theorem d_t_onWay_20 : decode b_t_onWay 20 = .ok (.iconst (-1), 1) := by decide +kernel
theorem d_t_onWay_21 : decode b_t_onWay 21 = .ok (.ireturn, 1) := by decide +kernel
theorem d_t_onWay_22 : decode b_t_onWay 22 = .ok (.aload_n 0, 1) := by decide +kernel
theorem d_t_onWay_23 : decode b_t_onWay 23 = .ok (.getfield 30, 3) := by decide +kernel
theorem d_t_onWay_26 : decode b_t_onWay 26 = .ok (.istore_n 3, 1) := by decide +kernel
theorem d_t_onWay_27 : decode b_t_onWay 27 = .ok (.iconst 0, 1) := by decide +kernel
theorem d_t_onWay_28 : decode b_t_onWay 28 = .ok (.istore 4, 2) := by decide +kernel
theorem d_t_onWay_30 : decode b_t_onWay 30 = .ok (.iload 4, 2) := by decide +kernel
theorem d_t_onWay_32 : decode b_t_onWay 32 = .ok (.iload_n 1, 1) := by decide +kernel
theorem d_t_onWay_33 : decode b_t_onWay 33 = .ok (.if_icmp .ge 24, 3) := by decide +kernel
theorem d_t_onWay_36 : decode b_t_onWay 36 = .ok (.iload_n 3, 1) := by decide +kernel
theorem d_t_onWay_37 : decode b_t_onWay 37 = .ok (.iconst (-1), 1) := by decide +kernel
theorem d_t_onWay_38 : decode b_t_onWay 38 = .ok (.if_icmp .eq 19, 3) := by decide +kernel
theorem d_t_onWay_41 : decode b_t_onWay 41 = .ok (.aload_n 0, 1) := by decide +kernel
theorem d_t_onWay_42 : decode b_t_onWay 42 = .ok (.getfield 9, 3) := by decide +kernel
theorem d_t_onWay_45 : decode b_t_onWay 45 = .ok (.iload_n 3, 1) := by decide +kernel
theorem d_t_onWay_46 : decode b_t_onWay 46 = .ok (.iload_n 2, 1) := by decide +kernel
theorem d_t_onWay_47 : decode b_t_onWay 47 = .ok (.invokevirtual 123, 3) := by decide +kernel
theorem d_t_onWay_50 : decode b_t_onWay 50 = .ok (.istore_n 3, 1) := by decide +kernel
theorem d_t_onWay_51 : decode b_t_onWay 51 = .ok (.iinc 4 1, 3) := by decide +kernel
theorem d_t_onWay_54 : decode b_t_onWay 54 = .ok (.goto (-24), 3) := by decide +kernel
theorem d_t_onWay_57 : decode b_t_onWay 57 = .ok (.iload_n 3, 1) := by decide +kernel
theorem d_t_onWay_58 : decode b_t_onWay 58 = .ok (.ireturn, 1) := by decide +kernel
def L_t_onWay_30 (bad : Int32) (su : Int32) (wt : Nat → Int64) (ps : Nat → Int64) (rs : Nat → Int64) (sz : Int32) (kk : Int32) : Nat → Int32 → Int32 → Int32
  | 0, _, _ => 0
  | n + 1, wy, xi => if kk ≤ xi then
    (wy)
  else
    (if wy = (-1) then
      (wy)
    else
      (L_t_onWay_30 bad su wt ps rs sz kk n (f_g_stepToward ps rs sz wy (f_t_culprit su wt)) (xi + 1)))
theorem L_t_onWay_30_s (bad : Int32) (su : Int32) (wt : Nat → Int64) (ps : Nat → Int64) (rs : Nat → Int64) (sz : Int32) (kk : Int32) (n : Nat) (wy : Int32) (xi : Int32) : L_t_onWay_30 bad su wt ps rs sz kk (n + 1) wy xi = if kk ≤ xi then
    (wy)
  else
    (if wy = (-1) then
      (wy)
    else
      (L_t_onWay_30 bad su wt ps rs sz kk n (f_g_stepToward ps rs sz wy (f_t_culprit su wt)) (xi + 1))) := rfl
def f_t_onWay (bad : Int32) (su : Int32) (wt : Nat → Int64) (ps : Nat → Int64) (rs : Nat → Int64) (sz : Int32) (kk : Int32) : Int32 := if (f_t_culprit su wt) = (-1) then
    ((-1))
  else
    (if kk < 0 then
      ((-1))
    else
      (if kk < 40 then
        (L_t_onWay_30 bad su wt ps rs sz kk 41 bad 0)
      else
        ((-1))))
set_option maxHeartbeats 4000000 in
set_option maxRecDepth 100000 in
theorem c_t_onWay (l : Launch) (D : va_G) (cA : Nat → ClassId) (t wa : Nat) (go cl : Int64) (se : Bool) (bad fp fq su an sks : Int32) (wt : Nat → Int64) (g pa re : Nat) (ps rs : Nat → Int64) (sz : Int32) (bu sk : Int64) (kk : Int32) : Met l y_t_onWay (.code y_t_onWay b_t_onWay 5 (some .int) :: tb) (rmd 3) (Pro D cA [.ref t, .int kk] (va_P D classes [(t, .inr (2, [.ref g, .ref wa, .long go, .long cl, .int (bz se), .int bad, .int fp, .int fq, .int su, .int an, .int sks])), (wa, .inl (cA 0, 40, .inr (.inl wt))), (g, .inr (1, [.ref pa, .ref re, .int sz, .long bu, .long sk])), (pa, .inl (cA 0, 40, .inr (.inl ps))), (re, .inl (cA 0, 40, .inr (.inl rs)))])) (Qro (.int (f_t_onWay bad su wt ps rs sz kk))) 0 0 nof := by
  refine ro_in (by decide) (Nat.le_of_ble_eq_true rfl) (fun p e s m below meth c ls FX hnm hK hP hl => ?_)
  have hl : lv_has ls 5 [(0, .ref t), (1, .int kk)] := hl
  have hP : va_P D classes [(t, .inr (2, [.ref g, .ref wa, .long go, .long cl, .int (bz se), .int bad, .int fp, .int fq, .int su, .int an, .int sks])), (wa, .inl (cA 0, 40, .inr (.inl wt))), (g, .inr (1, [.ref pa, .ref re, .int sz, .long bu, .long sk])), (pa, .inl (cA 0, 40, .inr (.inl ps))), (re, .inl (cA 0, 40, .inr (.inl rs)))] s.heap := hP
  generalize ([.ref t, .int kk] : List Value).toArray = args at FX ⊢
  obtain ⟨hx, hb, hml, hown, hts, hr, hlk⟩ := id FX
  refine lv_aload_n hx hb d_t_onWay_0 rfl (lv_at hl 0 rfl) ?_
  refine ro_V (v := .int (f_t_culprit su wt)) (As := []) (rest := []) (q0 := 0) FX hK (c_t_culprit l D cA t wa go cl se bad fp fq su an sks wt g pa re ps rs sz bu sk) hP hP rfl rfl rfl kc_t_culprit km_t_76 ki_t ks_t_culprit ke_t_culprit rfl ok_t_culprit ⟨Nat.le_of_ble_eq_true rfl, Nat.le_of_ble_eq_true rfl⟩ ⟨Nat.zero_le _, Nat.zero_le _⟩ hl.1 rfl (Nat.le_of_ble_eq_true rfl) d_t_onWay_1 ?_
  refine lv_istore_n (lv' := [(2, .int (f_t_culprit su wt)), (0, .ref t), (1, .int kk)]) hx hb d_t_onWay_4 rfl hl (by decide) rfl (fun ls hl => ?_)
  refine lv_iload_n hx hb d_t_onWay_5 rfl (lv_at hl 0 rfl) ?_
  refine lv_iconst (v := (-1)) hx hb d_t_onWay_6 (by decide) ?_
  refine lv_icmp_eq (tgt := 20) hx hb d_t_onWay_7 (by decide) (fun c1 => ?_) (fun c1 => ?_)
  · have c1 := c1
    refine lv_iconst (v := (-1)) hx hb d_t_onWay_20 (by decide) ?_
    exact ro_iret FX (by rw [f_t_onWay, if_pos c1]) d_t_onWay_21
  · have c1 := c1
    refine lv_iload_n hx hb d_t_onWay_10 rfl (lv_at hl 2 rfl) ?_
    refine lv_if_lt (tgt := 20) hx hb d_t_onWay_11 (by decide) (fun c2 => ?_) (fun c2 => ?_)
    · have c2 := c2
      refine lv_iconst (v := (-1)) hx hb d_t_onWay_20 (by decide) ?_
      exact ro_iret FX (by rw [f_t_onWay, if_neg c1, if_pos c2]) d_t_onWay_21
    · have c2 := c2
      refine lv_iload_n hx hb d_t_onWay_14 rfl (lv_at hl 2 rfl) ?_
      refine lv_bipush (v := 40) hx hb d_t_onWay_15 (by decide) ?_
      refine lv_icmp_lt (tgt := 22) hx hb d_t_onWay_17 (by decide) (fun c3 => ?_) (fun c3 => ?_)
      · have c3 := c3
        obtain ⟨j, hj, hjs⟩ := in_nI2 c2 c3
        refine lv_aload_n hx hb d_t_onWay_22 rfl (lv_at hl 1 rfl) ?_
        refine ro_get (v := .int bad) FX hK hP 0 5 rfl rfl rfl i_t (by decide) kf_t_30 d_t_onWay_23 ?_
        refine lv_istore_n (lv' := [(3, .int bad), (2, .int (f_t_culprit su wt)), (0, .ref t), (1, .int kk)]) hx hb d_t_onWay_26 rfl hl (by decide) rfl (fun ls hl => ?_)
        refine lv_iconst (v := 0) hx hb d_t_onWay_27 (by decide) ?_
        refine lv_istore (lv' := [(4, .int 0), (3, .int bad), (2, .int (f_t_culprit su wt)), (0, .ref t), (1, .int kk)]) hx hb d_t_onWay_28 hl (by decide) rfl (fun ls hl => ?_)
        have loop : ∀ (n k : Nat) (wy : Int32) (xi : Int32) (ls : Array Slot), k + n = 41 → k ≤ 40 → xi = nI k → lv_has ls 5 [(0, .ref t), (1, .int kk), (2, .int (f_t_culprit su wt)), (3, .int wy), (4, .int xi)] → W p l e (rmd 3) s m args below meth c s.heap [] 0 0 (MQ below (Qro (.int (L_t_onWay_30 bad su wt ps rs sz kk n wy xi))) args s 0 0 nof) (F0 m 30 ls []) := by
          intro n
          induction n with
          | zero =>
            intro k wy xi ls h1 h2
            exact absurd h1 (by omega)
          | succ n ih =>
            intro k wy xi ls hkn hk hxi hl
            refine lv_iload hx hb d_t_onWay_30 (lv_at hl 4 rfl) ?_
            refine lv_iload_n hx hb d_t_onWay_32 rfl (lv_at hl 1 rfl) ?_
            refine lv_icmp_ge (tgt := 57) hx hb d_t_onWay_33 (by decide) (fun c4 => ?_) (fun c4 => ?_)
            · have c4 := c4
              refine lv_iload_n hx hb d_t_onWay_57 rfl (lv_at hl 3 rfl) ?_
              exact ro_iret FX (by rw [L_t_onWay_30_s, if_pos c4]) d_t_onWay_58
            · have c4 := c4
              have hk1 : k < j := k_lt hxi hjs c4 (by omega)
              refine lv_iload_n hx hb d_t_onWay_36 rfl (lv_at hl 3 rfl) ?_
              refine lv_iconst (v := (-1)) hx hb d_t_onWay_37 (by decide) ?_
              refine lv_icmp_eq (tgt := 57) hx hb d_t_onWay_38 (by decide) (fun c5 => ?_) (fun c5 => ?_)
              · have c5 := c5
                refine lv_iload_n hx hb d_t_onWay_57 rfl (lv_at hl 3 rfl) ?_
                exact ro_iret FX (by rw [L_t_onWay_30_s, if_neg c4, if_pos c5]) d_t_onWay_58
              · have c5 := c5
                refine lv_aload_n hx hb d_t_onWay_41 rfl (lv_at hl 0 rfl) ?_
                refine ro_get (v := .ref g) FX hK hP 0 0 rfl rfl rfl i_t (by decide) kf_t_9 d_t_onWay_42 ?_
                refine lv_iload_n hx hb d_t_onWay_45 rfl (lv_at hl 3 rfl) ?_
                refine lv_iload_n hx hb d_t_onWay_46 rfl (lv_at hl 2 rfl) ?_
                refine ro_V (v := .int (f_g_stepToward ps rs sz wy (f_t_culprit su wt))) (As := [.int wy, .int (f_t_culprit su wt)]) (rest := []) (q0 := 2) FX hK (c_g_stepToward l D cA g pa re ps rs sz bu sk wy (f_t_culprit su wt)) (hP.sub [2, 3, 4] rfl) hP rfl rfl rfl kc_g_stepToward km_t_123 ki_g ks_g_stepToward ke_g_stepToward rfl ok_g_stepToward ⟨Nat.le_of_ble_eq_true rfl, Nat.le_of_ble_eq_true rfl⟩ ⟨Nat.zero_le _, Nat.zero_le _⟩ hl.1 rfl (Nat.le_of_ble_eq_true rfl) d_t_onWay_47 ?_
                refine lv_istore_n (lv' := [(3, .int (f_g_stepToward ps rs sz wy (f_t_culprit su wt))), (0, .ref t), (1, .int kk), (2, .int (f_t_culprit su wt)), (4, .int xi)]) hx hb d_t_onWay_50 rfl hl (by decide) rfl (fun ls hl => ?_)
                refine lv_iinc (v := xi + 1) (lv' := [(4, .int (xi + 1)), (3, .int (f_g_stepToward ps rs sz wy (f_t_culprit su wt))), (0, .ref t), (1, .int kk), (2, .int (f_t_culprit su wt))]) hx hb d_t_onWay_51 hl (k := 4) rfl rfl (by decide) rfl (fun ls hl => ?_)
                refine lv_goto (tgt := 30) hx hb d_t_onWay_54 (by decide) ?_
                refine ro_to (by rw [L_t_onWay_30_s, if_neg c4, if_neg c5]) ?_
                exact ih (k + 1) (f_g_stepToward ps rs sz wy (f_t_culprit su wt)) (xi + 1) ls (by omega) (by omega) (by rw [hxi]; exact nI_1 _)  (lv_sub hl [2, 3, 4, 1, 0] rfl)
        refine ro_to (by rw [f_t_onWay, if_neg c1, if_neg c2, if_pos c3]) ?_
        exact loop 41 0 bad 0 ls rfl (Nat.zero_le _) rfl  (lv_sub hl [3, 4, 2, 1, 0] rfl)
      · have c3 := c3
        refine lv_iconst (v := (-1)) hx hb d_t_onWay_20 (by decide) ?_
        exact ro_iret FX (by rw [f_t_onWay, if_neg c1, if_neg c2, if_neg c3]) d_t_onWay_21
