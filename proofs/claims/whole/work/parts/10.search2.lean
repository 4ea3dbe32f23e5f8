theorem d_x_change_0 : decode b_x_change 0 = .ok (.aload_n 0, 1) := by decide +kernel
theorem d_x_change_1 : decode b_x_change 1 = .ok (.getfield 10, 3) := by decide +kernel
theorem d_x_change_4 : decode b_x_change 4 = .ok (.iload_n 1, 1) := by decide +kernel
theorem d_x_change_5 : decode b_x_change 5 = .ok (.invokevirtual 26, 3) := by decide +kernel
theorem d_x_change_8 : decode b_x_change 8 = .ok (.ifCond .eq 25, 3) := by decide +kernel
theorem d_x_change_11 : decode b_x_change 11 = .ok (.aload_n 0, 1) := by decide +kernel
theorem d_x_change_12 : decode b_x_change 12 = .ok (.getfield 10, 3) := by decide +kernel
theorem d_x_change_15 : decode b_x_change 15 = .ok (.iload_n 2, 1) := by decide +kernel
theorem d_x_change_16 : decode b_x_change 16 = .ok (.invokevirtual 26, 3) := by decide +kernel
theorem d_x_change_19 : decode b_x_change 19 = .ok (.ifCond .eq 14, 3) := by decide +kernel
theorem d_x_change_22 : decode b_x_change 22 = .ok (.aload_n 0, 1) := by decide +kernel
theorem d_x_change_23 : decode b_x_change 23 = .ok (.getfield 10, 3) := by decide +kernel
theorem d_x_change_26 : decode b_x_change 26 = .ok (.iload_n 3, 1) := by decide +kernel
theorem d_x_change_27 : decode b_x_change 27 = .ok (.invokevirtual 26, 3) := by decide +kernel
theorem d_x_change_30 : decode b_x_change 30 = .ok (.ifCond .ne 5, 3) := by decide +kernel
theorem d_x_change_33 : decode b_x_change 33 = .ok (.iconst (-1), 1) := by decide +kernel
theorem d_x_change_34 : decode b_x_change 34 = .ok (.ireturn, 1) := by decide +kernel
theorem d_x_change_35 : decode b_x_change 35 = .ok (.aload_n 0, 1) := by decide +kernel
theorem d_x_change_36 : decode b_x_change 36 = .ok (.getfield 10, 3) := by decide +kernel
theorem d_x_change_39 : decode b_x_change 39 = .ok (.iload_n 1, 1) := by decide +kernel
theorem d_x_change_40 : decode b_x_change 40 = .ok (.invokestatic 30, 3) := by decide +kernel
theorem d_x_change_43 : decode b_x_change 43 = .ok (.iload_n 2, 1) := by decide +kernel
theorem d_x_change_44 : decode b_x_change 44 = .ok (.invokestatic 30, 3) := by decide +kernel
theorem d_x_change_47 : decode b_x_change 47 = .ok (.lor, 1) := by decide +kernel
theorem d_x_change_48 : decode b_x_change 48 = .ok (.iload_n 3, 1) := by decide +kernel
theorem d_x_change_49 : decode b_x_change 49 = .ok (.invokestatic 30, 3) := by decide +kernel
theorem d_x_change_52 : decode b_x_change 52 = .ok (.lor, 1) := by decide +kernel
theorem d_x_change_53 : decode b_x_change 53 = .ok (.invokevirtual 34, 3) := by decide +kernel
theorem d_x_change_56 : decode b_x_change 56 = .ok (.ireturn, 1) := by decide +kernel
def f_x_change (G : GS) (TT : Nat → TS) (za : Int32) (zb : Int32) (zc : Int32) : Int32 × GS × (Nat → TS) := if (f_g_mayBeParent G.2.2.1 za) = true then
    (if (f_g_mayBeParent G.2.2.1 zb) = true then
      (if (f_g_mayBeParent G.2.2.1 zc) = true then
        (((f_g_add G.1 G.2.1 G.2.2.1 (((f_x_only za) ||| (f_x_only zb)) ||| (f_x_only zc))).1, ((f_g_add G.1 G.2.1 G.2.2.1 (((f_x_only za) ||| (f_x_only zb)) ||| (f_x_only zc))).2.1, (f_g_add G.1 G.2.1 G.2.2.1 (((f_x_only za) ||| (f_x_only zb)) ||| (f_x_only zc))).2.2.1, (f_g_add G.1 G.2.1 G.2.2.1 (((f_x_only za) ||| (f_x_only zb)) ||| (f_x_only zc))).2.2.2, G.2.2.2.1, G.2.2.2.2), TT))
      else
        (((-1), G, TT)))
    else
      (((-1), G, TT)))
  else
    (((-1), G, TT))
set_option maxHeartbeats 4000000 in
set_option maxRecDepth 100000 in
theorem c_x_change (l : Launch) (D : va_G) (cA : Nat → ClassId) (ad : Nat → Nat) (nt : Nat) (G : GS) (TT : Nat → TS) (za : Int32) (zb : Int32) (zc : Int32) (hnt : nt ≤ 4) (S : Nat) (hS40 : S ≤ 40) (hsz : G.2.2.1 = nI S) (hinj : adX ad nt) : Met l y_x_change (.code y_x_change b_x_change 4 (some .int) :: tb) (rmd 3) (Pro D cA [.ref (ad 0), .int za, .int zb, .int zc] (WX D cA ad nt G TT)) (Qmu (ox ad nt) (fun v0 H0 => v0 = some (.int (f_x_change G TT za zb zc).1) ∧ WX D cA ad nt (f_x_change G TT za zb zc).2.1 (f_x_change G TT za zb zc).2.2 H0)) 0 0 (ox ad nt) := by
  refine ro_in (by decide) (Nat.le_of_ble_eq_true rfl) (fun p e s m below meth c ls FX hnm hK hW hl => ?_)
  have hl : lv_has ls 4 [(0, .ref (ad 0)), (1, .int za), (2, .int zb), (3, .int zc)] := hl
  have hP : va_P D classes [(ad 0, .inr (0, [.ref (ad 2), .ref (ad 1), .int (nI nt)])), (ad 1, .inl (cA 1, 4, .inr (.inr (.inr (.inr (tvf ad nt)))))), (ad 2, .inr (1, [.ref (ad 3), .ref (ad 4), .int G.2.2.1, .long G.2.2.2.1, .long G.2.2.2.2])), (ad 3, .inl (cA 0, 40, .inr (.inl G.1))), (ad 4, .inl (cA 0, 40, .inr (.inl G.2.1)))] s.heap := hW.1
  have hD : va_D (aw [(ad 0, .inr (0, [.ref (ad 2), .ref (ad 1), .int (nI nt)])), (ad 1, .inl (cA 1, 4, .inr (.inr (.inr (.inr (tvf ad nt)))))), (ad 2, .inr (1, [.ref (ad 3), .ref (ad 4), .int G.2.2.1, .long G.2.2.2.1, .long G.2.2.2.2])), (ad 3, .inl (cA 0, 40, .inr (.inl G.1))), (ad 4, .inl (cA 0, 40, .inr (.inl G.2.1)))]) [(ad 0, .inr (0, [.ref (ad 2), .ref (ad 1), .int (nI nt)])), (ad 1, .inl (cA 1, 4, .inr (.inr (.inr (.inr (tvf ad nt)))))), (ad 2, .inr (1, [.ref (ad 3), .ref (ad 4), .int G.2.2.1, .long G.2.2.2.1, .long G.2.2.2.2])), (ad 3, .inl (cA 0, 40, .inr (.inl G.1))), (ad 4, .inl (cA 0, 40, .inr (.inl G.2.1)))] := aw_self (wx_d5 hinj (G := G))
  have hoA : ∀ q, aw [(ad 0, .inr (0, [.ref (ad 2), .ref (ad 1), .int (nI nt)])), (ad 1, .inl (cA 1, 4, .inr (.inr (.inr (.inr (tvf ad nt)))))), (ad 2, .inr (1, [.ref (ad 3), .ref (ad 4), .int G.2.2.1, .long G.2.2.2.1, .long G.2.2.2.2])), (ad 3, .inl (cA 0, 40, .inr (.inl G.1))), (ad 4, .inl (cA 0, 40, .inr (.inl G.2.1)))] q → ox ad nt q := ox_5 (G := G)
  obtain ⟨A, hA⟩ : ∃ A, A = aw [(ad 0, .inr (0, [.ref (ad 2), .ref (ad 1), .int (nI nt)])), (ad 1, .inl (cA 1, 4, .inr (.inr (.inr (.inr (tvf ad nt)))))), (ad 2, .inr (1, [.ref (ad 3), .ref (ad 4), .int G.2.2.1, .long G.2.2.2.1, .long G.2.2.2.2])), (ad 3, .inl (cA 0, 40, .inr (.inl G.1))), (ad 4, .inl (cA 0, 40, .inr (.inl G.2.1)))] := ⟨_, rfl⟩
  rw [← hA] at hD hoA
  have hS : va_S A s.heap s.heap [] := va_S.rf
  generalize ([.ref (ad 0), .int za, .int zb, .int zc] : List Value).toArray = args at FX ⊢
  obtain ⟨hx, hb, hml, hown, hts, hr, hlk⟩ := id FX
  refine lv_aload_n hx hb d_x_change_0 rfl (lv_at hl 0 rfl) ?_
  refine ro_get (v := .ref (ad 2)) FX hK hP 0 0 rfl rfl rfl i_x (by decide) kf_x_10 d_x_change_1 ?_
  refine lv_iload_n hx hb d_x_change_4 rfl (lv_at hl 1 rfl) ?_
  refine ro_V (v := .int (bz (f_g_mayBeParent G.2.2.1 za))) (As := [.int za]) (rest := []) (q0 := 2) FX hK (c_g_mayBeParent l D cA (ad 2) (ad 3) (ad 4) G.1 G.2.1 G.2.2.1 G.2.2.2.1 G.2.2.2.2 za) (hP.sub [2, 3, 4] rfl) hP rfl rfl rfl kc_g_mayBeParent km_x_26 ki_g ks_g_mayBeParent ke_g_mayBeParent rfl ok_g_mayBeParent ⟨Nat.le_of_ble_eq_true rfl, Nat.le_of_ble_eq_true rfl⟩ ⟨Nat.zero_le _, Nat.zero_le _⟩ hl.1 rfl (Nat.le_of_ble_eq_true rfl) d_x_change_5 ?_
  refine lv_if_eq (tgt := 33) hx hb d_x_change_8 (by decide) (fun c1 => ?_) (fun c1 => ?_)
  · have c1 := bz_f c1
    refine lv_iconst (v := (-1)) hx hb d_x_change_33 (by decide) ?_
    exact mu_iret FX va_S.rf (by rw [show (f_x_change G TT za zb zc) = ((-1), G, TT) from (by rw [f_x_change, if_neg c1])]; exact ⟨rfl, hW⟩) d_x_change_34
  · have c1 := bz_t c1
    refine lv_aload_n hx hb d_x_change_11 rfl (lv_at hl 0 rfl) ?_
    refine ro_get (v := .ref (ad 2)) FX hK hP 0 0 rfl rfl rfl i_x (by decide) kf_x_10 d_x_change_12 ?_
    refine lv_iload_n hx hb d_x_change_15 rfl (lv_at hl 2 rfl) ?_
    refine ro_V (v := .int (bz (f_g_mayBeParent G.2.2.1 zb))) (As := [.int zb]) (rest := []) (q0 := 2) FX hK (c_g_mayBeParent l D cA (ad 2) (ad 3) (ad 4) G.1 G.2.1 G.2.2.1 G.2.2.2.1 G.2.2.2.2 zb) (hP.sub [2, 3, 4] rfl) hP rfl rfl rfl kc_g_mayBeParent km_x_26 ki_g ks_g_mayBeParent ke_g_mayBeParent rfl ok_g_mayBeParent ⟨Nat.le_of_ble_eq_true rfl, Nat.le_of_ble_eq_true rfl⟩ ⟨Nat.zero_le _, Nat.zero_le _⟩ hl.1 rfl (Nat.le_of_ble_eq_true rfl) d_x_change_16 ?_
    refine lv_if_eq (tgt := 33) hx hb d_x_change_19 (by decide) (fun c2 => ?_) (fun c2 => ?_)
    · have c2 := bz_f c2
      refine lv_iconst (v := (-1)) hx hb d_x_change_33 (by decide) ?_
      exact mu_iret FX va_S.rf (by rw [show (f_x_change G TT za zb zc) = ((-1), G, TT) from (by rw [f_x_change, if_pos c1, if_neg c2])]; exact ⟨rfl, hW⟩) d_x_change_34
    · have c2 := bz_t c2
      refine lv_aload_n hx hb d_x_change_22 rfl (lv_at hl 0 rfl) ?_
      refine ro_get (v := .ref (ad 2)) FX hK hP 0 0 rfl rfl rfl i_x (by decide) kf_x_10 d_x_change_23 ?_
      refine lv_iload_n hx hb d_x_change_26 rfl (lv_at hl 3 rfl) ?_
      refine ro_V (v := .int (bz (f_g_mayBeParent G.2.2.1 zc))) (As := [.int zc]) (rest := []) (q0 := 2) FX hK (c_g_mayBeParent l D cA (ad 2) (ad 3) (ad 4) G.1 G.2.1 G.2.2.1 G.2.2.2.1 G.2.2.2.2 zc) (hP.sub [2, 3, 4] rfl) hP rfl rfl rfl kc_g_mayBeParent km_x_26 ki_g ks_g_mayBeParent ke_g_mayBeParent rfl ok_g_mayBeParent ⟨Nat.le_of_ble_eq_true rfl, Nat.le_of_ble_eq_true rfl⟩ ⟨Nat.zero_le _, Nat.zero_le _⟩ hl.1 rfl (Nat.le_of_ble_eq_true rfl) d_x_change_27 ?_
      refine lv_if_ne (tgt := 35) hx hb d_x_change_30 (by decide) (fun c3 => ?_) (fun c3 => ?_)
      · have c3 := bz_t c3
        refine lv_aload_n hx hb d_x_change_35 rfl (lv_at hl 0 rfl) ?_
        refine ro_get (v := .ref (ad 2)) FX hK hP 0 0 rfl rfl rfl i_x (by decide) kf_x_10 d_x_change_36 ?_
        refine lv_iload_n hx hb d_x_change_39 rfl (lv_at hl 1 rfl) ?_
        refine ro_S (v := .long (f_x_only za)) (As := [.int za]) (rest := [.ref (ad 2)]) FX hK (c_x_only l D cA za) trivial kc_x_only km_x_30 ki_x ks_x_only rfl ok_x_only ⟨Nat.le_of_ble_eq_true rfl, Nat.le_of_ble_eq_true rfl⟩ ⟨Nat.zero_le _, Nat.zero_le _⟩ hl.1 rfl (Nat.le_of_ble_eq_true rfl) d_x_change_40 ?_
        refine lv_iload_n hx hb d_x_change_43 rfl (lv_at hl 2 rfl) ?_
        refine ro_S (v := .long (f_x_only zb)) (As := [.int zb]) (rest := [.long (f_x_only za), .ref (ad 2)]) FX hK (c_x_only l D cA zb) trivial kc_x_only km_x_30 ki_x ks_x_only rfl ok_x_only ⟨Nat.le_of_ble_eq_true rfl, Nat.le_of_ble_eq_true rfl⟩ ⟨Nat.zero_le _, Nat.zero_le _⟩ hl.1 rfl (Nat.le_of_ble_eq_true rfl) d_x_change_44 ?_
        refine lv_lor hx hb d_x_change_47 ?_
        refine lv_iload_n hx hb d_x_change_48 rfl (lv_at hl 3 rfl) ?_
        refine ro_S (v := .long (f_x_only zc)) (As := [.int zc]) (rest := [.long ((f_x_only za) ||| (f_x_only zb)), .ref (ad 2)]) FX hK (c_x_only l D cA zc) trivial kc_x_only km_x_30 ki_x ks_x_only rfl ok_x_only ⟨Nat.le_of_ble_eq_true rfl, Nat.le_of_ble_eq_true rfl⟩ ⟨Nat.zero_le _, Nat.zero_le _⟩ hl.1 rfl (Nat.le_of_ble_eq_true rfl) d_x_change_49 ?_
        refine lv_lor hx hb d_x_change_52 ?_
        refine mu_V (As := [.long (((f_x_only za) ||| (f_x_only zb)) ||| (f_x_only zc))]) (rest := []) (q0 := 2) FX hK (c_g_add l D cA (ad 2) (ad 3) (ad 4) G.1 G.2.1 G.2.2.1 G.2.2.2.1 G.2.2.2.2 (((f_x_only za) ||| (f_x_only zb)) ||| (f_x_only zc))) (hP.sub [2, 3, 4] rfl) (hD.sub [2, 3, 4] (by decide) rfl) hP rfl rfl rfl kc_g_add km_x_34 ki_g ks_g_add ke_g_add rfl ok_g_add ⟨Nat.le_of_ble_eq_true rfl, Nat.le_of_ble_eq_true rfl⟩ ⟨Nat.zero_le _, Nat.zero_le _⟩ hl.1 rfl (Nat.le_of_ble_eq_true rfl) d_x_change_53 hS (fun q hq => aw_in hD [2, 3, 4] rfl q hq) (fun v0 H1 locs hv0 hz0 hk0 hS => ?_)
        obtain ⟨rfl, hP1, hD1⟩ := hv0
        obtain ⟨hP, hD⟩ := mu_join (wr := [(ad 0, .inr (0, [.ref (ad 2), .ref (ad 1), .int (nI nt)])), (ad 1, .inl (cA 1, 4, .inr (.inr (.inr (.inr (tvf ad nt))))))]) (w1 := [(ad 2, .inr (1, [.ref (ad 3), .ref (ad 4), .int ((f_g_add G.1 G.2.1 G.2.2.1 (((f_x_only za) ||| (f_x_only zb)) ||| (f_x_only zc))).2.2.2), .long G.2.2.2.1, .long G.2.2.2.2])), (ad 3, .inl (cA 0, 40, .inr (.inl ((f_g_add G.1 G.2.1 G.2.2.1 (((f_x_only za) ||| (f_x_only zb)) ||| (f_x_only zc))).2.1)))), (ad 4, .inl (cA 0, 40, .inr (.inl ((f_g_add G.1 G.2.1 G.2.2.1 (((f_x_only za) ||| (f_x_only zb)) ||| (f_x_only zc))).2.2.1))))]) hP hD [2, 3, 4] [0, 1] rfl rfl (by decide) (by decide) hk0 hP1 hD1
        have hP : va_P D classes [(ad 0, .inr (0, [.ref (ad 2), .ref (ad 1), .int (nI nt)])), (ad 1, .inl (cA 1, 4, .inr (.inr (.inr (.inr (tvf ad nt)))))), (ad 2, .inr (1, [.ref (ad 3), .ref (ad 4), .int ((f_g_add G.1 G.2.1 G.2.2.1 (((f_x_only za) ||| (f_x_only zb)) ||| (f_x_only zc))).2.2.2), .long G.2.2.2.1, .long G.2.2.2.2])), (ad 3, .inl (cA 0, 40, .inr (.inl ((f_g_add G.1 G.2.1 G.2.2.1 (((f_x_only za) ||| (f_x_only zb)) ||| (f_x_only zc))).2.1)))), (ad 4, .inl (cA 0, 40, .inr (.inl ((f_g_add G.1 G.2.1 G.2.2.1 (((f_x_only za) ||| (f_x_only zb)) ||| (f_x_only zc))).2.2.1))))] H1 := hP.sub [0, 1, 2, 3, 4] rfl
        have hD : va_D A [(ad 0, .inr (0, [.ref (ad 2), .ref (ad 1), .int (nI nt)])), (ad 1, .inl (cA 1, 4, .inr (.inr (.inr (.inr (tvf ad nt)))))), (ad 2, .inr (1, [.ref (ad 3), .ref (ad 4), .int ((f_g_add G.1 G.2.1 G.2.2.1 (((f_x_only za) ||| (f_x_only zb)) ||| (f_x_only zc))).2.2.2), .long G.2.2.2.1, .long G.2.2.2.2])), (ad 3, .inl (cA 0, 40, .inr (.inl ((f_g_add G.1 G.2.1 G.2.2.1 (((f_x_only za) ||| (f_x_only zb)) ||| (f_x_only zc))).2.1)))), (ad 4, .inl (cA 0, 40, .inr (.inl ((f_g_add G.1 G.2.1 G.2.2.1 (((f_x_only za) ||| (f_x_only zb)) ||| (f_x_only zc))).2.2.1))))] := hD.sub [0, 1, 2, 3, 4] (by decide) rfl
        generalize H1 = H at hP hS ⊢
        refine W.eq (g2 := F0 m 56 ls [.int ((f_g_add G.1 G.2.1 G.2.2.1 (((f_x_only za) ||| (f_x_only zb)) ||| (f_x_only zc))).1)]) rfl ?_
        exact mu_iret FX (S_mono hS hoA) (by rw [show (f_x_change G TT za zb zc) = ((f_g_add G.1 G.2.1 G.2.2.1 (((f_x_only za) ||| (f_x_only zb)) ||| (f_x_only zc))).1, ((f_g_add G.1 G.2.1 G.2.2.1 (((f_x_only za) ||| (f_x_only zb)) ||| (f_x_only zc))).2.1, (f_g_add G.1 G.2.1 G.2.2.1 (((f_x_only za) ||| (f_x_only zb)) ||| (f_x_only zc))).2.2.1, (f_g_add G.1 G.2.1 G.2.2.1 (((f_x_only za) ||| (f_x_only zb)) ||| (f_x_only zc))).2.2.2, G.2.2.2.1, G.2.2.2.2), TT) from (by rw [f_x_change, if_pos c1, if_pos c2, if_pos c3])]; exact ⟨rfl, wx_put5 (G' := ((f_g_add G.1 G.2.1 G.2.2.1 (((f_x_only za) ||| (f_x_only zb)) ||| (f_x_only zc))).2.1, (f_g_add G.1 G.2.1 G.2.2.1 (((f_x_only za) ||| (f_x_only zb)) ||| (f_x_only zc))).2.2.1, (f_g_add G.1 G.2.1 G.2.2.1 (((f_x_only za) ||| (f_x_only zb)) ||| (f_x_only zc))).2.2.2, G.2.2.2.1, G.2.2.2.2)) hW hinj hA hS hP⟩) d_x_change_56
      · have c3 := bz_f c3
        refine lv_iconst (v := (-1)) hx hb d_x_change_33 (by decide) ?_
        exact mu_iret FX va_S.rf (by rw [show (f_x_change G TT za zb zc) = ((-1), G, TT) from (by rw [f_x_change, if_pos c1, if_pos c2, if_neg c3])]; exact ⟨rfl, hW⟩) d_x_change_34
theorem d_x_good_0 : decode b_x_good 0 = .ok (.aload_n 0, 1) := by decide +kernel
theorem d_x_good_1 : decode b_x_good 1 = .ok (.iload_n 1, 1) := by decide +kernel
theorem d_x_good_2 : decode b_x_good 2 = .ok (.invokevirtual 51, 3) := by decide +kernel
theorem d_x_good_5 : decode b_x_good 5 = .ok (.astore_n 3, 1) := by decide +kernel
theorem d_x_good_6 : decode b_x_good 6 = .ok (.aload_n 3, 1) := by decide +kernel
theorem d_x_good_7 : decode b_x_good 7 = .ok (.ifnull 21, 3) := by decide +kernel
theorem d_x_good_10 : decode b_x_good 10 = .ok (.aload_n 0, 1) := by decide +kernel
theorem d_x_good_11 : decode b_x_good 11 = .ok (.getfield 10, 3) := by decide +kernel
theorem d_x_good_14 : decode b_x_good 14 = .ok (.iload_n 2, 1) := by decide +kernel
theorem d_x_good_15 : decode b_x_good 15 = .ok (.invokevirtual 38, 3) := by decide +kernel
theorem d_x_good_18 : decode b_x_good 18 = .ok (.ifCond .eq 10, 3) := by decide +kernel
theorem d_x_good_21 : decode b_x_good 21 = .ok (.aload_n 3, 1) := by decide +kernel
theorem d_x_good_22 : decode b_x_good 22 = .ok (.invokevirtual 55, 3) := by decide +kernel
theorem d_x_good_25 : decode b_x_good 25 = .ok (.ifCond .eq 5, 3) := by decide +kernel
theorem d_x_good_28 : decode b_x_good 28 = .ok (.iconst (-1), 1) := by decide +kernel
theorem d_x_good_29 : decode b_x_good 29 = .ok (.ireturn, 1) := by decide +kernel
theorem d_x_good_30 : decode b_x_good 30 = .ok (.aload_n 3, 1) := by decide +kernel
theorem d_x_good_31 : decode b_x_good 31 = .ok (.iload_n 2, 1) := by decide +kernel
theorem d_x_good_32 : decode b_x_good 32 = .ok (.invokevirtual 59, 3) := by decide +kernel
theorem d_x_good_35 : decode b_x_good 35 = .ok (.ifCond .eq 7, 3) := by decide +kernel
theorem d_x_good_38 : decode b_x_good 38 = .ok (.iconst 1, 1) := by decide +kernel
theorem d_x_good_39 : decode b_x_good 39 = .ok (.goto 4, 3) := by decide +kernel
theorem d_x_good_42 : decode b_x_good 42 = .ok (.iconst 0, 1) := by decide +kernel
theorem d_x_good_43 : decode b_x_good 43 = .ok (.ireturn, 1) := by decide +kernel
def f_x_good (nt : Nat) (G : GS) (TT : Nat → TS) (ta : Int32) (ch : Int32) : Int32 × GS × (Nat → TS) := om (f_x_targetAt nt ta)
    (((-1), G, TT))
    (fun j => if (f_g_holds G.2.2.1 ch) = true then
      (if (f_t_isSearched ((TT j).2.2.1)) = true then
        (((-1), G, TT))
      else
        (if ((f_t_markGood ((TT j).1) ((TT j).2.1) G.2.1 G.2.2.1 ch).1) = true then
          ((1, (G.1, G.2.1, G.2.2.1, G.2.2.2.1, G.2.2.2.2), va_up TT j ((f_t_markGood ((TT j).1) ((TT j).2.1) G.2.1 G.2.2.1 ch).2.1, (f_t_markGood ((TT j).1) ((TT j).2.1) G.2.1 G.2.2.1 ch).2.2, (TT j).2.2.1, (TT j).2.2.2.1, (TT j).2.2.2.2.1, (TT j).2.2.2.2.2.1, (TT j).2.2.2.2.2.2.1, (TT j).2.2.2.2.2.2.2.1, (TT j).2.2.2.2.2.2.2.2.1, (TT j).2.2.2.2.2.2.2.2.2)))
        else
          ((0, (G.1, G.2.1, G.2.2.1, G.2.2.2.1, G.2.2.2.2), va_up TT j ((f_t_markGood ((TT j).1) ((TT j).2.1) G.2.1 G.2.2.1 ch).2.1, (f_t_markGood ((TT j).1) ((TT j).2.1) G.2.1 G.2.2.1 ch).2.2, (TT j).2.2.1, (TT j).2.2.2.1, (TT j).2.2.2.2.1, (TT j).2.2.2.2.2.1, (TT j).2.2.2.2.2.2.1, (TT j).2.2.2.2.2.2.2.1, (TT j).2.2.2.2.2.2.2.2.1, (TT j).2.2.2.2.2.2.2.2.2)))))
    else
      (((-1), G, TT)))
set_option maxHeartbeats 4000000 in
set_option maxRecDepth 100000 in
theorem c_x_good (l : Launch) (D : va_G) (cA : Nat → ClassId) (ad : Nat → Nat) (nt : Nat) (G : GS) (TT : Nat → TS) (ta : Int32) (ch : Int32) (hnt : nt ≤ 4) (S : Nat) (hS40 : S ≤ 40) (hsz : G.2.2.1 = nI S) (hinj : adX ad nt) : Met l y_x_good (.code y_x_good b_x_good 4 (some .int) :: tb) (rmd 4) (Pro D cA [.ref (ad 0), .int ta, .int ch] (WX D cA ad nt G TT)) (Qmu (ox ad nt) (fun v0 H0 => v0 = some (.int (f_x_good nt G TT ta ch).1) ∧ WX D cA ad nt (f_x_good nt G TT ta ch).2.1 (f_x_good nt G TT ta ch).2.2 H0)) 0 0 (ox ad nt) := by
  refine ro_in (by decide) (Nat.le_of_ble_eq_true rfl) (fun p e s m below meth c ls FX hnm hK hW hl => ?_)
  have hl : lv_has ls 4 [(0, .ref (ad 0)), (1, .int ta), (2, .int ch)] := hl
  have hP : va_P D classes [(ad 0, .inr (0, [.ref (ad 2), .ref (ad 1), .int (nI nt)])), (ad 1, .inl (cA 1, 4, .inr (.inr (.inr (.inr (tvf ad nt)))))), (ad 2, .inr (1, [.ref (ad 3), .ref (ad 4), .int G.2.2.1, .long G.2.2.2.1, .long G.2.2.2.2])), (ad 3, .inl (cA 0, 40, .inr (.inl G.1))), (ad 4, .inl (cA 0, 40, .inr (.inl G.2.1)))] s.heap := hW.1
  generalize ([.ref (ad 0), .int ta, .int ch] : List Value).toArray = args at FX ⊢
  obtain ⟨hx, hb, hml, hown, hts, hr, hlk⟩ := id FX
  refine lv_aload_n hx hb d_x_good_0 rfl (lv_at hl 0 rfl) ?_
  refine lv_iload_n hx hb d_x_good_1 rfl (lv_at hl 1 rfl) ?_
  refine ro_V (v := va_rf ((f_x_targetAt nt ta).map (fun j => ad (5 + 2 * j)))) (As := [.int ta]) (rest := []) (q0 := 0) FX hK (c_x_targetAt l D cA ad nt G TT ta hnt S hS40 hsz) hW hP rfl rfl rfl kc_x_targetAt km_x_51 ki_x ks_x_targetAt ke_x_targetAt rfl ok_x_targetAt ⟨Nat.le_of_ble_eq_true rfl, Nat.le_of_ble_eq_true rfl⟩ ⟨Nat.zero_le _, Nat.zero_le _⟩ hl.1 rfl (Nat.le_of_ble_eq_true rfl) d_x_good_2 ?_
  cases hq1 : (f_x_targetAt nt ta) with
  | none =>
    refine W.eq (g2 := F0 m 5 ls [.null]) rfl ?_
    refine lv_astore_nN (lv' := [(3, .null), (0, .ref (ad 0)), (1, .int ta), (2, .int ch)]) hx hb d_x_good_5 rfl hl (by decide) rfl (fun ls hl => ?_)
    refine lv_aload_nN hx hb d_x_good_6 rfl (lv_at hl 0 rfl) ?_
    refine lv_ifnullN (tgt := 28) hx hb d_x_good_7 (by decide) ?_
    refine lv_iconst (v := (-1)) hx hb d_x_good_28 (by decide) ?_
    exact mu_iret FX va_S.rf (by rw [show (f_x_good nt G TT ta ch) = ((-1), G, TT) from (by rw [f_x_good, om_none hq1])]; exact ⟨rfl, hW⟩) d_x_good_29
  | some j =>
    have hj : j < nt := ta_lt hnt hq1
    have hP : va_P D classes [(ad (5 + 2 * j), .inr (2, [.ref (ad 2), .ref (ad (6 + 2 * j)), .long ((TT j).1), .long ((TT j).2.1), .int (bz (TT j).2.2.1), .int ((TT j).2.2.2.1), .int ((TT j).2.2.2.2.1), .int ((TT j).2.2.2.2.2.1), .int ((TT j).2.2.2.2.2.2.1), .int ((TT j).2.2.2.2.2.2.2.1), .int ((TT j).2.2.2.2.2.2.2.2.1)])), (ad (6 + 2 * j), .inl (cA 0, 40, .inr (.inl ((TT j).2.2.2.2.2.2.2.2.2)))), (ad 0, .inr (0, [.ref (ad 2), .ref (ad 1), .int (nI nt)])), (ad 1, .inl (cA 1, 4, .inr (.inr (.inr (.inr (tvf ad nt)))))), (ad 2, .inr (1, [.ref (ad 3), .ref (ad 4), .int G.2.2.1, .long G.2.2.2.1, .long G.2.2.2.2])), (ad 3, .inl (cA 0, 40, .inr (.inl G.1))), (ad 4, .inl (cA 0, 40, .inr (.inl G.2.1)))] s.heap := (hW.2 j hj).app hP
    have hD : va_D (aw [(ad (5 + 2 * j), .inr (2, [.ref (ad 2), .ref (ad (6 + 2 * j)), .long ((TT j).1), .long ((TT j).2.1), .int (bz (TT j).2.2.1), .int ((TT j).2.2.2.1), .int ((TT j).2.2.2.2.1), .int ((TT j).2.2.2.2.2.1), .int ((TT j).2.2.2.2.2.2.1), .int ((TT j).2.2.2.2.2.2.2.1), .int ((TT j).2.2.2.2.2.2.2.2.1)])), (ad (6 + 2 * j), .inl (cA 0, 40, .inr (.inl ((TT j).2.2.2.2.2.2.2.2.2)))), (ad 0, .inr (0, [.ref (ad 2), .ref (ad 1), .int (nI nt)])), (ad 1, .inl (cA 1, 4, .inr (.inr (.inr (.inr (tvf ad nt)))))), (ad 2, .inr (1, [.ref (ad 3), .ref (ad 4), .int G.2.2.1, .long G.2.2.2.1, .long G.2.2.2.2])), (ad 3, .inl (cA 0, 40, .inr (.inl G.1))), (ad 4, .inl (cA 0, 40, .inr (.inl G.2.1)))]) [(ad (5 + 2 * j), .inr (2, [.ref (ad 2), .ref (ad (6 + 2 * j)), .long ((TT j).1), .long ((TT j).2.1), .int (bz (TT j).2.2.1), .int ((TT j).2.2.2.1), .int ((TT j).2.2.2.2.1), .int ((TT j).2.2.2.2.2.1), .int ((TT j).2.2.2.2.2.2.1), .int ((TT j).2.2.2.2.2.2.2.1), .int ((TT j).2.2.2.2.2.2.2.2.1)])), (ad (6 + 2 * j), .inl (cA 0, 40, .inr (.inl ((TT j).2.2.2.2.2.2.2.2.2)))), (ad 0, .inr (0, [.ref (ad 2), .ref (ad 1), .int (nI nt)])), (ad 1, .inl (cA 1, 4, .inr (.inr (.inr (.inr (tvf ad nt)))))), (ad 2, .inr (1, [.ref (ad 3), .ref (ad 4), .int G.2.2.1, .long G.2.2.2.1, .long G.2.2.2.2])), (ad 3, .inl (cA 0, 40, .inr (.inl G.1))), (ad 4, .inl (cA 0, 40, .inr (.inl G.2.1)))] := aw_self (wx_d7 hinj hj (T := TT j) (G := G))
    have hoA : ∀ q, aw [(ad (5 + 2 * j), .inr (2, [.ref (ad 2), .ref (ad (6 + 2 * j)), .long ((TT j).1), .long ((TT j).2.1), .int (bz (TT j).2.2.1), .int ((TT j).2.2.2.1), .int ((TT j).2.2.2.2.1), .int ((TT j).2.2.2.2.2.1), .int ((TT j).2.2.2.2.2.2.1), .int ((TT j).2.2.2.2.2.2.2.1), .int ((TT j).2.2.2.2.2.2.2.2.1)])), (ad (6 + 2 * j), .inl (cA 0, 40, .inr (.inl ((TT j).2.2.2.2.2.2.2.2.2)))), (ad 0, .inr (0, [.ref (ad 2), .ref (ad 1), .int (nI nt)])), (ad 1, .inl (cA 1, 4, .inr (.inr (.inr (.inr (tvf ad nt)))))), (ad 2, .inr (1, [.ref (ad 3), .ref (ad 4), .int G.2.2.1, .long G.2.2.2.1, .long G.2.2.2.2])), (ad 3, .inl (cA 0, 40, .inr (.inl G.1))), (ad 4, .inl (cA 0, 40, .inr (.inl G.2.1)))] q → ox ad nt q := ox_7 hj (T := TT j) (G := G)
    obtain ⟨A, hA⟩ : ∃ A, A = aw [(ad (5 + 2 * j), .inr (2, [.ref (ad 2), .ref (ad (6 + 2 * j)), .long ((TT j).1), .long ((TT j).2.1), .int (bz (TT j).2.2.1), .int ((TT j).2.2.2.1), .int ((TT j).2.2.2.2.1), .int ((TT j).2.2.2.2.2.1), .int ((TT j).2.2.2.2.2.2.1), .int ((TT j).2.2.2.2.2.2.2.1), .int ((TT j).2.2.2.2.2.2.2.2.1)])), (ad (6 + 2 * j), .inl (cA 0, 40, .inr (.inl ((TT j).2.2.2.2.2.2.2.2.2)))), (ad 0, .inr (0, [.ref (ad 2), .ref (ad 1), .int (nI nt)])), (ad 1, .inl (cA 1, 4, .inr (.inr (.inr (.inr (tvf ad nt)))))), (ad 2, .inr (1, [.ref (ad 3), .ref (ad 4), .int G.2.2.1, .long G.2.2.2.1, .long G.2.2.2.2])), (ad 3, .inl (cA 0, 40, .inr (.inl G.1))), (ad 4, .inl (cA 0, 40, .inr (.inl G.2.1)))] := ⟨_, rfl⟩
    rw [← hA] at hD hoA
    have hS : va_S A s.heap s.heap [] := va_S.rf
    refine W.eq (g2 := F0 m 5 ls [.ref (ad (5 + 2 * j))]) rfl ?_
    refine lv_astore_n (lv' := [(3, .ref (ad (5 + 2 * j))), (0, .ref (ad 0)), (1, .int ta), (2, .int ch)]) hx hb d_x_good_5 rfl hl (by decide) rfl (fun ls hl => ?_)
    refine lv_aload_n hx hb d_x_good_6 rfl (lv_at hl 0 rfl) ?_
    refine lv_ifnull hx hb d_x_good_7 ?_
    refine lv_aload_n hx hb d_x_good_10 rfl (lv_at hl 1 rfl) ?_
    refine ro_get (v := .ref (ad 2)) FX hK hP 2 0 rfl rfl rfl i_x (by decide) kf_x_10 d_x_good_11 ?_
    refine lv_iload_n hx hb d_x_good_14 rfl (lv_at hl 3 rfl) ?_
    refine ro_V (v := .int (bz (f_g_holds G.2.2.1 ch))) (As := [.int ch]) (rest := []) (q0 := 4) FX hK (c_g_holds l D cA (ad 2) (ad 3) (ad 4) G.1 G.2.1 G.2.2.1 G.2.2.2.1 G.2.2.2.2 ch) (hP.sub [4, 5, 6] rfl) hP rfl rfl rfl kc_g_holds km_x_38 ki_g ks_g_holds ke_g_holds rfl ok_g_holds ⟨Nat.le_of_ble_eq_true rfl, Nat.le_of_ble_eq_true rfl⟩ ⟨Nat.zero_le _, Nat.zero_le _⟩ hl.1 rfl (Nat.le_of_ble_eq_true rfl) d_x_good_15 ?_
    refine lv_if_eq (tgt := 28) hx hb d_x_good_18 (by decide) (fun c2 => ?_) (fun c2 => ?_)
    · have c2 := bz_f c2
      refine lv_iconst (v := (-1)) hx hb d_x_good_28 (by decide) ?_
      exact mu_iret FX va_S.rf (by rw [show (f_x_good nt G TT ta ch) = ((-1), G, TT) from (by rw [f_x_good, om_some hq1, if_neg c2])]; exact ⟨rfl, hW⟩) d_x_good_29
    · have c2 := bz_t c2
      refine lv_aload_n hx hb d_x_good_21 rfl (lv_at hl 0 rfl) ?_
      refine ro_V (v := .int (bz (f_t_isSearched ((TT j).2.2.1)))) (As := []) (rest := []) (q0 := 0) FX hK (c_t_isSearched l D cA (ad (5 + 2 * j)) (ad (6 + 2 * j)) ((TT j).1) ((TT j).2.1) ((TT j).2.2.1) ((TT j).2.2.2.1) ((TT j).2.2.2.2.1) ((TT j).2.2.2.2.2.1) ((TT j).2.2.2.2.2.2.1) ((TT j).2.2.2.2.2.2.2.1) ((TT j).2.2.2.2.2.2.2.2.1) ((TT j).2.2.2.2.2.2.2.2.2) (ad 2) (ad 3) (ad 4) G.1 G.2.1 G.2.2.1 G.2.2.2.1 G.2.2.2.2) (hP.sub [0, 1, 4, 5, 6] rfl) hP rfl rfl rfl kc_t_isSearched km_x_55 ki_t ks_t_isSearched ke_t_isSearched rfl ok_t_isSearched ⟨Nat.le_of_ble_eq_true rfl, Nat.le_of_ble_eq_true rfl⟩ ⟨Nat.zero_le _, Nat.zero_le _⟩ hl.1 rfl (Nat.le_of_ble_eq_true rfl) d_x_good_22 ?_
      refine lv_if_eq (tgt := 30) hx hb d_x_good_25 (by decide) (fun c3 => ?_) (fun c3 => ?_)
      · have c3 := bz_f c3
        refine lv_aload_n hx hb d_x_good_30 rfl (lv_at hl 0 rfl) ?_
        refine lv_iload_n hx hb d_x_good_31 rfl (lv_at hl 3 rfl) ?_
        refine mu_V (As := [.int ch]) (rest := []) (q0 := 0) FX hK (c_t_markGood l D cA (ad (5 + 2 * j)) (ad (6 + 2 * j)) ((TT j).1) ((TT j).2.1) ((TT j).2.2.1) ((TT j).2.2.2.1) ((TT j).2.2.2.2.1) ((TT j).2.2.2.2.2.1) ((TT j).2.2.2.2.2.2.1) ((TT j).2.2.2.2.2.2.2.1) ((TT j).2.2.2.2.2.2.2.2.1) ((TT j).2.2.2.2.2.2.2.2.2) (ad 2) (ad 3) (ad 4) G.1 G.2.1 G.2.2.1 G.2.2.2.1 G.2.2.2.2 ch) (hP.sub [0, 1, 4, 5, 6] rfl) (hD.sub [0, 1, 4, 5, 6] (by decide) rfl) hP rfl rfl rfl kc_t_markGood km_x_59 ki_t ks_t_markGood ke_t_markGood rfl ok_t_markGood ⟨Nat.le_of_ble_eq_true rfl, Nat.le_of_ble_eq_true rfl⟩ ⟨Nat.zero_le _, Nat.zero_le _⟩ hl.1 rfl (Nat.le_of_ble_eq_true rfl) d_x_good_32 hS (fun q hq => aw_in hD [0, 1, 4, 5, 6] rfl q hq) (fun v0 H1 locs hv0 hz0 hk0 hS => ?_)
        obtain ⟨rfl, hP1, hD1⟩ := hv0
        obtain ⟨hP, hD⟩ := mu_join (wr := [(ad 0, .inr (0, [.ref (ad 2), .ref (ad 1), .int (nI nt)])), (ad 1, .inl (cA 1, 4, .inr (.inr (.inr (.inr (tvf ad nt))))))]) (w1 := [(ad (5 + 2 * j), .inr (2, [.ref (ad 2), .ref (ad (6 + 2 * j)), .long ((f_t_markGood ((TT j).1) ((TT j).2.1) G.2.1 G.2.2.1 ch).2.1), .long ((f_t_markGood ((TT j).1) ((TT j).2.1) G.2.1 G.2.2.1 ch).2.2), .int (bz (TT j).2.2.1), .int ((TT j).2.2.2.1), .int ((TT j).2.2.2.2.1), .int ((TT j).2.2.2.2.2.1), .int ((TT j).2.2.2.2.2.2.1), .int ((TT j).2.2.2.2.2.2.2.1), .int ((TT j).2.2.2.2.2.2.2.2.1)])), (ad (6 + 2 * j), .inl (cA 0, 40, .inr (.inl ((TT j).2.2.2.2.2.2.2.2.2)))), (ad 2, .inr (1, [.ref (ad 3), .ref (ad 4), .int G.2.2.1, .long G.2.2.2.1, .long G.2.2.2.2])), (ad 3, .inl (cA 0, 40, .inr (.inl G.1))), (ad 4, .inl (cA 0, 40, .inr (.inl G.2.1)))]) hP hD [0, 1, 4, 5, 6] [2, 3] rfl rfl (by decide) (by decide) hk0 hP1 hD1
        have hP : va_P D classes [(ad (5 + 2 * j), .inr (2, [.ref (ad 2), .ref (ad (6 + 2 * j)), .long ((f_t_markGood ((TT j).1) ((TT j).2.1) G.2.1 G.2.2.1 ch).2.1), .long ((f_t_markGood ((TT j).1) ((TT j).2.1) G.2.1 G.2.2.1 ch).2.2), .int (bz (TT j).2.2.1), .int ((TT j).2.2.2.1), .int ((TT j).2.2.2.2.1), .int ((TT j).2.2.2.2.2.1), .int ((TT j).2.2.2.2.2.2.1), .int ((TT j).2.2.2.2.2.2.2.1), .int ((TT j).2.2.2.2.2.2.2.2.1)])), (ad (6 + 2 * j), .inl (cA 0, 40, .inr (.inl ((TT j).2.2.2.2.2.2.2.2.2)))), (ad 0, .inr (0, [.ref (ad 2), .ref (ad 1), .int (nI nt)])), (ad 1, .inl (cA 1, 4, .inr (.inr (.inr (.inr (tvf ad nt)))))), (ad 2, .inr (1, [.ref (ad 3), .ref (ad 4), .int G.2.2.1, .long G.2.2.2.1, .long G.2.2.2.2])), (ad 3, .inl (cA 0, 40, .inr (.inl G.1))), (ad 4, .inl (cA 0, 40, .inr (.inl G.2.1)))] H1 := hP.sub [2, 3, 0, 1, 4, 5, 6] rfl
        have hD : va_D A [(ad (5 + 2 * j), .inr (2, [.ref (ad 2), .ref (ad (6 + 2 * j)), .long ((f_t_markGood ((TT j).1) ((TT j).2.1) G.2.1 G.2.2.1 ch).2.1), .long ((f_t_markGood ((TT j).1) ((TT j).2.1) G.2.1 G.2.2.1 ch).2.2), .int (bz (TT j).2.2.1), .int ((TT j).2.2.2.1), .int ((TT j).2.2.2.2.1), .int ((TT j).2.2.2.2.2.1), .int ((TT j).2.2.2.2.2.2.1), .int ((TT j).2.2.2.2.2.2.2.1), .int ((TT j).2.2.2.2.2.2.2.2.1)])), (ad (6 + 2 * j), .inl (cA 0, 40, .inr (.inl ((TT j).2.2.2.2.2.2.2.2.2)))), (ad 0, .inr (0, [.ref (ad 2), .ref (ad 1), .int (nI nt)])), (ad 1, .inl (cA 1, 4, .inr (.inr (.inr (.inr (tvf ad nt)))))), (ad 2, .inr (1, [.ref (ad 3), .ref (ad 4), .int G.2.2.1, .long G.2.2.2.1, .long G.2.2.2.2])), (ad 3, .inl (cA 0, 40, .inr (.inl G.1))), (ad 4, .inl (cA 0, 40, .inr (.inl G.2.1)))] := hD.sub [2, 3, 0, 1, 4, 5, 6] (by decide) rfl
        generalize H1 = H at hP hS ⊢
        refine W.eq (g2 := F0 m 35 ls [.int (bz ((f_t_markGood ((TT j).1) ((TT j).2.1) G.2.1 G.2.2.1 ch).1))]) rfl ?_
        refine lv_if_eq (tgt := 42) hx hb d_x_good_35 (by decide) (fun c4 => ?_) (fun c4 => ?_)
        · have c4 := bz_f c4
          refine lv_iconst (v := 0) hx hb d_x_good_42 (by decide) ?_
          exact mu_iret FX (S_mono hS hoA) (by rw [show (f_x_good nt G TT ta ch) = (0, (G.1, G.2.1, G.2.2.1, G.2.2.2.1, G.2.2.2.2), va_up TT j ((f_t_markGood ((TT j).1) ((TT j).2.1) G.2.1 G.2.2.1 ch).2.1, (f_t_markGood ((TT j).1) ((TT j).2.1) G.2.1 G.2.2.1 ch).2.2, (TT j).2.2.1, (TT j).2.2.2.1, (TT j).2.2.2.2.1, (TT j).2.2.2.2.2.1, (TT j).2.2.2.2.2.2.1, (TT j).2.2.2.2.2.2.2.1, (TT j).2.2.2.2.2.2.2.2.1, (TT j).2.2.2.2.2.2.2.2.2)) from (by rw [f_x_good, om_some hq1, if_pos c2, if_neg c3, if_neg c4])]; exact ⟨rfl, wx_put7 (G' := (G.1, G.2.1, G.2.2.1, G.2.2.2.1, G.2.2.2.2)) (T' := ((f_t_markGood ((TT j).1) ((TT j).2.1) G.2.1 G.2.2.1 ch).2.1, (f_t_markGood ((TT j).1) ((TT j).2.1) G.2.1 G.2.2.1 ch).2.2, (TT j).2.2.1, (TT j).2.2.2.1, (TT j).2.2.2.2.1, (TT j).2.2.2.2.2.1, (TT j).2.2.2.2.2.2.1, (TT j).2.2.2.2.2.2.2.1, (TT j).2.2.2.2.2.2.2.2.1, (TT j).2.2.2.2.2.2.2.2.2)) hW hinj hj hA hS hP⟩) d_x_good_43
        · have c4 := bz_t c4
          refine lv_iconst (v := 1) hx hb d_x_good_38 (by decide) ?_
          refine lv_goto (tgt := 43) hx hb d_x_good_39 (by decide) ?_
          exact mu_iret FX (S_mono hS hoA) (by rw [show (f_x_good nt G TT ta ch) = (1, (G.1, G.2.1, G.2.2.1, G.2.2.2.1, G.2.2.2.2), va_up TT j ((f_t_markGood ((TT j).1) ((TT j).2.1) G.2.1 G.2.2.1 ch).2.1, (f_t_markGood ((TT j).1) ((TT j).2.1) G.2.1 G.2.2.1 ch).2.2, (TT j).2.2.1, (TT j).2.2.2.1, (TT j).2.2.2.2.1, (TT j).2.2.2.2.2.1, (TT j).2.2.2.2.2.2.1, (TT j).2.2.2.2.2.2.2.1, (TT j).2.2.2.2.2.2.2.2.1, (TT j).2.2.2.2.2.2.2.2.2)) from (by rw [f_x_good, om_some hq1, if_pos c2, if_neg c3, if_pos c4])]; exact ⟨rfl, wx_put7 (G' := (G.1, G.2.1, G.2.2.1, G.2.2.2.1, G.2.2.2.2)) (T' := ((f_t_markGood ((TT j).1) ((TT j).2.1) G.2.1 G.2.2.1 ch).2.1, (f_t_markGood ((TT j).1) ((TT j).2.1) G.2.1 G.2.2.1 ch).2.2, (TT j).2.2.1, (TT j).2.2.2.1, (TT j).2.2.2.2.1, (TT j).2.2.2.2.2.1, (TT j).2.2.2.2.2.2.1, (TT j).2.2.2.2.2.2.2.1, (TT j).2.2.2.2.2.2.2.2.1, (TT j).2.2.2.2.2.2.2.2.2)) hW hinj hj hA hS hP⟩) d_x_good_43
      · have c3 := bz_t c3
        refine lv_iconst (v := (-1)) hx hb d_x_good_28 (by decide) ?_
        exact mu_iret FX va_S.rf (by rw [show (f_x_good nt G TT ta ch) = ((-1), G, TT) from (by rw [f_x_good, om_some hq1, if_pos c2, if_pos c3])]; exact ⟨rfl, hW⟩) d_x_good_29
theorem d_x_begin_0 : decode b_x_begin 0 = .ok (.aload_n 0, 1) := by decide +kernel
theorem d_x_begin_1 : decode b_x_begin 1 = .ok (.iload_n 1, 1) := by decide +kernel
theorem d_x_begin_2 : decode b_x_begin 2 = .ok (.invokevirtual 51, 3) := by decide +kernel
theorem d_x_begin_5 : decode b_x_begin 5 = .ok (.astore 6, 2) := by decide +kernel
theorem d_x_begin_7 : decode b_x_begin 7 = .ok (.aload 6, 2) := by decide +kernel
theorem d_x_begin_9 : decode b_x_begin 9 = .ok (.ifnull 31, 3) := by decide +kernel
theorem d_x_begin_12 : decode b_x_begin 12 = .ok (.aload_n 0, 1) := by decide +kernel
theorem d_x_begin_13 : decode b_x_begin 13 = .ok (.getfield 10, 3) := by decide +kernel
theorem d_x_begin_16 : decode b_x_begin 16 = .ok (.iload_n 2, 1) := by decide +kernel
theorem d_x_begin_17 : decode b_x_begin 17 = .ok (.invokevirtual 38, 3) := by decide +kernel
theorem d_x_begin_20 : decode b_x_begin 20 = .ok (.ifCond .eq 20, 3) := by decide +kernel
theorem d_x_begin_23 : decode b_x_begin 23 = .ok (.iload_n 3, 1) := by decide +kernel
theorem d_x_begin_24 : decode b_x_begin 24 = .ok (.iload 4, 2) := by decide +kernel
theorem d_x_begin_26 : decode b_x_begin 26 = .ok (.invokestatic 62, 3) := by decide +kernel
theorem d_x_begin_29 : decode b_x_begin 29 = .ok (.ifCond .eq 11, 3) := by decide +kernel
theorem d_x_begin_32 : decode b_x_begin 32 = .ok (.iload 5, 2) := by decide +kernel
theorem d_x_begin_34 : decode b_x_begin 34 = .ok (.invokestatic 66, 3) := by decide +kernel
theorem d_x_begin_37 : decode b_x_begin 37 = .ok (.ifCond .ne 5, 3) := by decide +kernel
theorem d_x_begin_40 : decode b_x_begin 40 = .ok (.iconst (-1), 1) := by decide +kernel
theorem d_x_begin_41 : decode b_x_begin 41 = .ok (.ireturn, 1) := by decide +kernel
theorem d_x_begin_42 : decode b_x_begin 42 = .ok (.aload 6, 2) := by decide +kernel
theorem d_x_begin_44 : decode b_x_begin 44 = .ok (.iload_n 2, 1) := by decide +kernel
theorem d_x_begin_45 : decode b_x_begin 45 = .ok (.invokevirtual 69, 3) := by decide +kernel
theorem d_x_begin_48 : decode b_x_begin 48 = .ok (.ifCond .eq 6, 3) := by decide +kernel
theorem d_x_begin_51 : decode b_x_begin 51 = .ok (.bipush (-2), 2) := by decide +kernel
theorem d_x_begin_53 : decode b_x_begin 53 = .ok (.ireturn, 1) := by decide +kernel
theorem d_x_begin_54 : decode b_x_begin 54 = .ok (.aload 6, 2) := by decide +kernel
theorem d_x_begin_56 : decode b_x_begin 56 = .ok (.iload_n 2, 1) := by decide +kernel
theorem d_x_begin_57 : decode b_x_begin 57 = .ok (.iload_n 3, 1) := by decide +kernel
theorem d_x_begin_58 : decode b_x_begin 58 = .ok (.iload 4, 2) := by decide +kernel
theorem d_x_begin_60 : decode b_x_begin 60 = .ok (.iload 5, 2) := by decide +kernel
theorem d_x_begin_62 : decode b_x_begin 62 = .ok (.invokevirtual 72, 3) := by decide +kernel
theorem d_x_begin_65 : decode b_x_begin 65 = .ok (.ireturn, 1) := by decide +kernel
def f_x_begin (nt : Nat) (G : GS) (TT : Nat → TS) (ta : Int32) (zb : Int32) (zp : Int32) (zq : Int32) (zu : Int32) : Int32 × GS × (Nat → TS) := om (f_x_targetAt nt ta)
    (((-1), G, TT))
    (fun j => if (f_g_holds G.2.2.1 zb) = true then
      (if (f_x_isFlake zp zq) = true then
        (if (f_x_isSure zu) = true then
          (if (f_t_isCleared ((TT j).2.1) zb) = true then
            (((-2), G, TT))
          else
            (((f_t_start ((TT j).2.1) ((TT j).2.2.2.2.2.2.2.2.2) G.2.1 G.2.2.1 zb zp zq zu).1, (G.1, G.2.1, G.2.2.1, G.2.2.2.1, G.2.2.2.2), va_up TT j ((TT j).1, (TT j).2.1, ((f_t_start ((TT j).2.1) ((TT j).2.2.2.2.2.2.2.2.2) G.2.1 G.2.2.1 zb zp zq zu).2.1), (f_t_start ((TT j).2.1) ((TT j).2.2.2.2.2.2.2.2.2) G.2.1 G.2.2.1 zb zp zq zu).2.2.1, (f_t_start ((TT j).2.1) ((TT j).2.2.2.2.2.2.2.2.2) G.2.1 G.2.2.1 zb zp zq zu).2.2.2.1, (f_t_start ((TT j).2.1) ((TT j).2.2.2.2.2.2.2.2.2) G.2.1 G.2.2.1 zb zp zq zu).2.2.2.2.1, (f_t_start ((TT j).2.1) ((TT j).2.2.2.2.2.2.2.2.2) G.2.1 G.2.2.1 zb zp zq zu).2.2.2.2.2.1, (f_t_start ((TT j).2.1) ((TT j).2.2.2.2.2.2.2.2.2) G.2.1 G.2.2.1 zb zp zq zu).2.2.2.2.2.2.1, (TT j).2.2.2.2.2.2.2.2.1, (f_t_start ((TT j).2.1) ((TT j).2.2.2.2.2.2.2.2.2) G.2.1 G.2.2.1 zb zp zq zu).2.2.2.2.2.2.2))))
        else
          (((-1), G, TT)))
      else
        (((-1), G, TT)))
    else
      (((-1), G, TT)))
set_option maxHeartbeats 4000000 in
set_option maxRecDepth 100000 in
theorem c_x_begin (l : Launch) (D : va_G) (cA : Nat → ClassId) (ad : Nat → Nat) (nt : Nat) (G : GS) (TT : Nat → TS) (ta : Int32) (zb : Int32) (zp : Int32) (zq : Int32) (zu : Int32) (hnt : nt ≤ 4) (S : Nat) (hS40 : S ≤ 40) (hsz : G.2.2.1 = nI S) (hinj : adX ad nt) : Met l y_x_begin (.code y_x_begin b_x_begin 7 (some .int) :: tb) (rmd 4) (Pro D cA [.ref (ad 0), .int ta, .int zb, .int zp, .int zq, .int zu] (WX D cA ad nt G TT)) (Qmu (ox ad nt) (fun v0 H0 => v0 = some (.int (f_x_begin nt G TT ta zb zp zq zu).1) ∧ WX D cA ad nt (f_x_begin nt G TT ta zb zp zq zu).2.1 (f_x_begin nt G TT ta zb zp zq zu).2.2 H0)) 0 0 (ox ad nt) := by
  refine ro_in (by decide) (Nat.le_of_ble_eq_true rfl) (fun p e s m below meth c ls FX hnm hK hW hl => ?_)
  have hl : lv_has ls 7 [(0, .ref (ad 0)), (1, .int ta), (2, .int zb), (3, .int zp), (4, .int zq), (5, .int zu)] := hl
  have hP : va_P D classes [(ad 0, .inr (0, [.ref (ad 2), .ref (ad 1), .int (nI nt)])), (ad 1, .inl (cA 1, 4, .inr (.inr (.inr (.inr (tvf ad nt)))))), (ad 2, .inr (1, [.ref (ad 3), .ref (ad 4), .int G.2.2.1, .long G.2.2.2.1, .long G.2.2.2.2])), (ad 3, .inl (cA 0, 40, .inr (.inl G.1))), (ad 4, .inl (cA 0, 40, .inr (.inl G.2.1)))] s.heap := hW.1
  generalize ([.ref (ad 0), .int ta, .int zb, .int zp, .int zq, .int zu] : List Value).toArray = args at FX ⊢
  obtain ⟨hx, hb, hml, hown, hts, hr, hlk⟩ := id FX
  refine lv_aload_n hx hb d_x_begin_0 rfl (lv_at hl 0 rfl) ?_
  refine lv_iload_n hx hb d_x_begin_1 rfl (lv_at hl 1 rfl) ?_
  refine ro_V (v := va_rf ((f_x_targetAt nt ta).map (fun j => ad (5 + 2 * j)))) (As := [.int ta]) (rest := []) (q0 := 0) FX hK (c_x_targetAt l D cA ad nt G TT ta hnt S hS40 hsz) hW hP rfl rfl rfl kc_x_targetAt km_x_51 ki_x ks_x_targetAt ke_x_targetAt rfl ok_x_targetAt ⟨Nat.le_of_ble_eq_true rfl, Nat.le_of_ble_eq_true rfl⟩ ⟨Nat.zero_le _, Nat.zero_le _⟩ hl.1 rfl (Nat.le_of_ble_eq_true rfl) d_x_begin_2 ?_
  cases hq1 : (f_x_targetAt nt ta) with
  | none =>
    refine W.eq (g2 := F0 m 5 ls [.null]) rfl ?_
    refine lv_astoreN (lv' := [(6, .null), (0, .ref (ad 0)), (1, .int ta), (2, .int zb), (3, .int zp), (4, .int zq), (5, .int zu)]) hx hb d_x_begin_5 hl (by decide) rfl (fun ls hl => ?_)
    refine lv_aloadN hx hb d_x_begin_7 (lv_at hl 0 rfl) ?_
    refine lv_ifnullN (tgt := 40) hx hb d_x_begin_9 (by decide) ?_
    refine lv_iconst (v := (-1)) hx hb d_x_begin_40 (by decide) ?_
    exact mu_iret FX va_S.rf (by rw [show (f_x_begin nt G TT ta zb zp zq zu) = ((-1), G, TT) from (by rw [f_x_begin, om_none hq1])]; exact ⟨rfl, hW⟩) d_x_begin_41
  | some j =>
    have hj : j < nt := ta_lt hnt hq1
    have hP : va_P D classes [(ad (5 + 2 * j), .inr (2, [.ref (ad 2), .ref (ad (6 + 2 * j)), .long ((TT j).1), .long ((TT j).2.1), .int (bz (TT j).2.2.1), .int ((TT j).2.2.2.1), .int ((TT j).2.2.2.2.1), .int ((TT j).2.2.2.2.2.1), .int ((TT j).2.2.2.2.2.2.1), .int ((TT j).2.2.2.2.2.2.2.1), .int ((TT j).2.2.2.2.2.2.2.2.1)])), (ad (6 + 2 * j), .inl (cA 0, 40, .inr (.inl ((TT j).2.2.2.2.2.2.2.2.2)))), (ad 0, .inr (0, [.ref (ad 2), .ref (ad 1), .int (nI nt)])), (ad 1, .inl (cA 1, 4, .inr (.inr (.inr (.inr (tvf ad nt)))))), (ad 2, .inr (1, [.ref (ad 3), .ref (ad 4), .int G.2.2.1, .long G.2.2.2.1, .long G.2.2.2.2])), (ad 3, .inl (cA 0, 40, .inr (.inl G.1))), (ad 4, .inl (cA 0, 40, .inr (.inl G.2.1)))] s.heap := (hW.2 j hj).app hP
    have hD : va_D (aw [(ad (5 + 2 * j), .inr (2, [.ref (ad 2), .ref (ad (6 + 2 * j)), .long ((TT j).1), .long ((TT j).2.1), .int (bz (TT j).2.2.1), .int ((TT j).2.2.2.1), .int ((TT j).2.2.2.2.1), .int ((TT j).2.2.2.2.2.1), .int ((TT j).2.2.2.2.2.2.1), .int ((TT j).2.2.2.2.2.2.2.1), .int ((TT j).2.2.2.2.2.2.2.2.1)])), (ad (6 + 2 * j), .inl (cA 0, 40, .inr (.inl ((TT j).2.2.2.2.2.2.2.2.2)))), (ad 0, .inr (0, [.ref (ad 2), .ref (ad 1), .int (nI nt)])), (ad 1, .inl (cA 1, 4, .inr (.inr (.inr (.inr (tvf ad nt)))))), (ad 2, .inr (1, [.ref (ad 3), .ref (ad 4), .int G.2.2.1, .long G.2.2.2.1, .long G.2.2.2.2])), (ad 3, .inl (cA 0, 40, .inr (.inl G.1))), (ad 4, .inl (cA 0, 40, .inr (.inl G.2.1)))]) [(ad (5 + 2 * j), .inr (2, [.ref (ad 2), .ref (ad (6 + 2 * j)), .long ((TT j).1), .long ((TT j).2.1), .int (bz (TT j).2.2.1), .int ((TT j).2.2.2.1), .int ((TT j).2.2.2.2.1), .int ((TT j).2.2.2.2.2.1), .int ((TT j).2.2.2.2.2.2.1), .int ((TT j).2.2.2.2.2.2.2.1), .int ((TT j).2.2.2.2.2.2.2.2.1)])), (ad (6 + 2 * j), .inl (cA 0, 40, .inr (.inl ((TT j).2.2.2.2.2.2.2.2.2)))), (ad 0, .inr (0, [.ref (ad 2), .ref (ad 1), .int (nI nt)])), (ad 1, .inl (cA 1, 4, .inr (.inr (.inr (.inr (tvf ad nt)))))), (ad 2, .inr (1, [.ref (ad 3), .ref (ad 4), .int G.2.2.1, .long G.2.2.2.1, .long G.2.2.2.2])), (ad 3, .inl (cA 0, 40, .inr (.inl G.1))), (ad 4, .inl (cA 0, 40, .inr (.inl G.2.1)))] := aw_self (wx_d7 hinj hj (T := TT j) (G := G))
    have hoA : ∀ q, aw [(ad (5 + 2 * j), .inr (2, [.ref (ad 2), .ref (ad (6 + 2 * j)), .long ((TT j).1), .long ((TT j).2.1), .int (bz (TT j).2.2.1), .int ((TT j).2.2.2.1), .int ((TT j).2.2.2.2.1), .int ((TT j).2.2.2.2.2.1), .int ((TT j).2.2.2.2.2.2.1), .int ((TT j).2.2.2.2.2.2.2.1), .int ((TT j).2.2.2.2.2.2.2.2.1)])), (ad (6 + 2 * j), .inl (cA 0, 40, .inr (.inl ((TT j).2.2.2.2.2.2.2.2.2)))), (ad 0, .inr (0, [.ref (ad 2), .ref (ad 1), .int (nI nt)])), (ad 1, .inl (cA 1, 4, .inr (.inr (.inr (.inr (tvf ad nt)))))), (ad 2, .inr (1, [.ref (ad 3), .ref (ad 4), .int G.2.2.1, .long G.2.2.2.1, .long G.2.2.2.2])), (ad 3, .inl (cA 0, 40, .inr (.inl G.1))), (ad 4, .inl (cA 0, 40, .inr (.inl G.2.1)))] q → ox ad nt q := ox_7 hj (T := TT j) (G := G)
    obtain ⟨A, hA⟩ : ∃ A, A = aw [(ad (5 + 2 * j), .inr (2, [.ref (ad 2), .ref (ad (6 + 2 * j)), .long ((TT j).1), .long ((TT j).2.1), .int (bz (TT j).2.2.1), .int ((TT j).2.2.2.1), .int ((TT j).2.2.2.2.1), .int ((TT j).2.2.2.2.2.1), .int ((TT j).2.2.2.2.2.2.1), .int ((TT j).2.2.2.2.2.2.2.1), .int ((TT j).2.2.2.2.2.2.2.2.1)])), (ad (6 + 2 * j), .inl (cA 0, 40, .inr (.inl ((TT j).2.2.2.2.2.2.2.2.2)))), (ad 0, .inr (0, [.ref (ad 2), .ref (ad 1), .int (nI nt)])), (ad 1, .inl (cA 1, 4, .inr (.inr (.inr (.inr (tvf ad nt)))))), (ad 2, .inr (1, [.ref (ad 3), .ref (ad 4), .int G.2.2.1, .long G.2.2.2.1, .long G.2.2.2.2])), (ad 3, .inl (cA 0, 40, .inr (.inl G.1))), (ad 4, .inl (cA 0, 40, .inr (.inl G.2.1)))] := ⟨_, rfl⟩
    rw [← hA] at hD hoA
    have hS : va_S A s.heap s.heap [] := va_S.rf
    refine W.eq (g2 := F0 m 5 ls [.ref (ad (5 + 2 * j))]) rfl ?_
    refine lv_astore (lv' := [(6, .ref (ad (5 + 2 * j))), (0, .ref (ad 0)), (1, .int ta), (2, .int zb), (3, .int zp), (4, .int zq), (5, .int zu)]) hx hb d_x_begin_5 hl (by decide) rfl (fun ls hl => ?_)
    refine lv_aload hx hb d_x_begin_7 (lv_at hl 0 rfl) ?_
    refine lv_ifnull hx hb d_x_begin_9 ?_
    refine lv_aload_n hx hb d_x_begin_12 rfl (lv_at hl 1 rfl) ?_
    refine ro_get (v := .ref (ad 2)) FX hK hP 2 0 rfl rfl rfl i_x (by decide) kf_x_10 d_x_begin_13 ?_
    refine lv_iload_n hx hb d_x_begin_16 rfl (lv_at hl 3 rfl) ?_
    refine ro_V (v := .int (bz (f_g_holds G.2.2.1 zb))) (As := [.int zb]) (rest := []) (q0 := 4) FX hK (c_g_holds l D cA (ad 2) (ad 3) (ad 4) G.1 G.2.1 G.2.2.1 G.2.2.2.1 G.2.2.2.2 zb) (hP.sub [4, 5, 6] rfl) hP rfl rfl rfl kc_g_holds km_x_38 ki_g ks_g_holds ke_g_holds rfl ok_g_holds ⟨Nat.le_of_ble_eq_true rfl, Nat.le_of_ble_eq_true rfl⟩ ⟨Nat.zero_le _, Nat.zero_le _⟩ hl.1 rfl (Nat.le_of_ble_eq_true rfl) d_x_begin_17 ?_
    refine lv_if_eq (tgt := 40) hx hb d_x_begin_20 (by decide) (fun c2 => ?_) (fun c2 => ?_)
    · have c2 := bz_f c2
      refine lv_iconst (v := (-1)) hx hb d_x_begin_40 (by decide) ?_
      exact mu_iret FX va_S.rf (by rw [show (f_x_begin nt G TT ta zb zp zq zu) = ((-1), G, TT) from (by rw [f_x_begin, om_some hq1, if_neg c2])]; exact ⟨rfl, hW⟩) d_x_begin_41
    · have c2 := bz_t c2
      refine lv_iload_n hx hb d_x_begin_23 rfl (lv_at hl 4 rfl) ?_
      refine lv_iload hx hb d_x_begin_24 (lv_at hl 5 rfl) ?_
      refine ro_S (v := .int (bz (f_x_isFlake zp zq))) (As := [.int zp, .int zq]) (rest := []) FX hK (c_x_isFlake l D cA zp zq) trivial kc_x_isFlake km_x_62 ki_x ks_x_isFlake rfl ok_x_isFlake ⟨Nat.le_of_ble_eq_true rfl, Nat.le_of_ble_eq_true rfl⟩ ⟨Nat.zero_le _, Nat.zero_le _⟩ hl.1 rfl (Nat.le_of_ble_eq_true rfl) d_x_begin_26 ?_
      refine lv_if_eq (tgt := 40) hx hb d_x_begin_29 (by decide) (fun c3 => ?_) (fun c3 => ?_)
      · have c3 := bz_f c3
        refine lv_iconst (v := (-1)) hx hb d_x_begin_40 (by decide) ?_
        exact mu_iret FX va_S.rf (by rw [show (f_x_begin nt G TT ta zb zp zq zu) = ((-1), G, TT) from (by rw [f_x_begin, om_some hq1, if_pos c2, if_neg c3])]; exact ⟨rfl, hW⟩) d_x_begin_41
      · have c3 := bz_t c3
        refine lv_iload hx hb d_x_begin_32 (lv_at hl 6 rfl) ?_
        refine ro_S (v := .int (bz (f_x_isSure zu))) (As := [.int zu]) (rest := []) FX hK (c_x_isSure l D cA zu) trivial kc_x_isSure km_x_66 ki_x ks_x_isSure rfl ok_x_isSure ⟨Nat.le_of_ble_eq_true rfl, Nat.le_of_ble_eq_true rfl⟩ ⟨Nat.zero_le _, Nat.zero_le _⟩ hl.1 rfl (Nat.le_of_ble_eq_true rfl) d_x_begin_34 ?_
        refine lv_if_ne (tgt := 42) hx hb d_x_begin_37 (by decide) (fun c4 => ?_) (fun c4 => ?_)
        · have c4 := bz_t c4
          refine lv_aload hx hb d_x_begin_42 (lv_at hl 0 rfl) ?_
          refine lv_iload_n hx hb d_x_begin_44 rfl (lv_at hl 3 rfl) ?_
          refine ro_V (v := .int (bz (f_t_isCleared ((TT j).2.1) zb))) (As := [.int zb]) (rest := []) (q0 := 0) FX hK (c_t_isCleared l D cA (ad (5 + 2 * j)) (ad (6 + 2 * j)) ((TT j).1) ((TT j).2.1) ((TT j).2.2.1) ((TT j).2.2.2.1) ((TT j).2.2.2.2.1) ((TT j).2.2.2.2.2.1) ((TT j).2.2.2.2.2.2.1) ((TT j).2.2.2.2.2.2.2.1) ((TT j).2.2.2.2.2.2.2.2.1) ((TT j).2.2.2.2.2.2.2.2.2) (ad 2) (ad 3) (ad 4) G.1 G.2.1 G.2.2.1 G.2.2.2.1 G.2.2.2.2 zb) (hP.sub [0, 1, 4, 5, 6] rfl) hP rfl rfl rfl kc_t_isCleared km_x_69 ki_t ks_t_isCleared ke_t_isCleared rfl ok_t_isCleared ⟨Nat.le_of_ble_eq_true rfl, Nat.le_of_ble_eq_true rfl⟩ ⟨Nat.zero_le _, Nat.zero_le _⟩ hl.1 rfl (Nat.le_of_ble_eq_true rfl) d_x_begin_45 ?_
          refine lv_if_eq (tgt := 54) hx hb d_x_begin_48 (by decide) (fun c5 => ?_) (fun c5 => ?_)
          · have c5 := bz_f c5
            refine lv_aload hx hb d_x_begin_54 (lv_at hl 0 rfl) ?_
            refine lv_iload_n hx hb d_x_begin_56 rfl (lv_at hl 3 rfl) ?_
            refine lv_iload_n hx hb d_x_begin_57 rfl (lv_at hl 4 rfl) ?_
            refine lv_iload hx hb d_x_begin_58 (lv_at hl 5 rfl) ?_
            refine lv_iload hx hb d_x_begin_60 (lv_at hl 6 rfl) ?_
            refine mu_V (As := [.int zb, .int zp, .int zq, .int zu]) (rest := []) (q0 := 0) FX hK (c_t_start l D cA (ad (5 + 2 * j)) (ad (6 + 2 * j)) ((TT j).1) ((TT j).2.1) ((TT j).2.2.1) ((TT j).2.2.2.1) ((TT j).2.2.2.2.1) ((TT j).2.2.2.2.2.1) ((TT j).2.2.2.2.2.2.1) ((TT j).2.2.2.2.2.2.2.1) ((TT j).2.2.2.2.2.2.2.2.1) ((TT j).2.2.2.2.2.2.2.2.2) (ad 2) (ad 3) (ad 4) G.1 G.2.1 G.2.2.1 G.2.2.2.1 G.2.2.2.2 zb zp zq zu) (hP.sub [0, 1, 4, 5, 6] rfl) (hD.sub [0, 1, 4, 5, 6] (by decide) rfl) hP rfl rfl rfl kc_t_start km_x_72 ki_t ks_t_start ke_t_start rfl ok_t_start ⟨Nat.le_of_ble_eq_true rfl, Nat.le_of_ble_eq_true rfl⟩ ⟨Nat.zero_le _, Nat.zero_le _⟩ hl.1 rfl (Nat.le_of_ble_eq_true rfl) d_x_begin_62 hS (fun q hq => aw_in hD [0, 1, 4, 5, 6] rfl q hq) (fun v0 H1 locs hv0 hz0 hk0 hS => ?_)
            obtain ⟨rfl, hP1, hD1⟩ := hv0
            obtain ⟨hP, hD⟩ := mu_join (wr := [(ad 0, .inr (0, [.ref (ad 2), .ref (ad 1), .int (nI nt)])), (ad 1, .inl (cA 1, 4, .inr (.inr (.inr (.inr (tvf ad nt))))))]) (w1 := [(ad (5 + 2 * j), .inr (2, [.ref (ad 2), .ref (ad (6 + 2 * j)), .long ((TT j).1), .long ((TT j).2.1), .int (bz ((f_t_start ((TT j).2.1) ((TT j).2.2.2.2.2.2.2.2.2) G.2.1 G.2.2.1 zb zp zq zu).2.1)), .int ((f_t_start ((TT j).2.1) ((TT j).2.2.2.2.2.2.2.2.2) G.2.1 G.2.2.1 zb zp zq zu).2.2.1), .int ((f_t_start ((TT j).2.1) ((TT j).2.2.2.2.2.2.2.2.2) G.2.1 G.2.2.1 zb zp zq zu).2.2.2.1), .int ((f_t_start ((TT j).2.1) ((TT j).2.2.2.2.2.2.2.2.2) G.2.1 G.2.2.1 zb zp zq zu).2.2.2.2.1), .int ((f_t_start ((TT j).2.1) ((TT j).2.2.2.2.2.2.2.2.2) G.2.1 G.2.2.1 zb zp zq zu).2.2.2.2.2.1), .int ((f_t_start ((TT j).2.1) ((TT j).2.2.2.2.2.2.2.2.2) G.2.1 G.2.2.1 zb zp zq zu).2.2.2.2.2.2.1), .int ((TT j).2.2.2.2.2.2.2.2.1)])), (ad (6 + 2 * j), .inl (cA 0, 40, .inr (.inl ((f_t_start ((TT j).2.1) ((TT j).2.2.2.2.2.2.2.2.2) G.2.1 G.2.2.1 zb zp zq zu).2.2.2.2.2.2.2)))), (ad 2, .inr (1, [.ref (ad 3), .ref (ad 4), .int G.2.2.1, .long G.2.2.2.1, .long G.2.2.2.2])), (ad 3, .inl (cA 0, 40, .inr (.inl G.1))), (ad 4, .inl (cA 0, 40, .inr (.inl G.2.1)))]) hP hD [0, 1, 4, 5, 6] [2, 3] rfl rfl (by decide) (by decide) hk0 hP1 hD1
            have hP : va_P D classes [(ad (5 + 2 * j), .inr (2, [.ref (ad 2), .ref (ad (6 + 2 * j)), .long ((TT j).1), .long ((TT j).2.1), .int (bz ((f_t_start ((TT j).2.1) ((TT j).2.2.2.2.2.2.2.2.2) G.2.1 G.2.2.1 zb zp zq zu).2.1)), .int ((f_t_start ((TT j).2.1) ((TT j).2.2.2.2.2.2.2.2.2) G.2.1 G.2.2.1 zb zp zq zu).2.2.1), .int ((f_t_start ((TT j).2.1) ((TT j).2.2.2.2.2.2.2.2.2) G.2.1 G.2.2.1 zb zp zq zu).2.2.2.1), .int ((f_t_start ((TT j).2.1) ((TT j).2.2.2.2.2.2.2.2.2) G.2.1 G.2.2.1 zb zp zq zu).2.2.2.2.1), .int ((f_t_start ((TT j).2.1) ((TT j).2.2.2.2.2.2.2.2.2) G.2.1 G.2.2.1 zb zp zq zu).2.2.2.2.2.1), .int ((f_t_start ((TT j).2.1) ((TT j).2.2.2.2.2.2.2.2.2) G.2.1 G.2.2.1 zb zp zq zu).2.2.2.2.2.2.1), .int ((TT j).2.2.2.2.2.2.2.2.1)])), (ad (6 + 2 * j), .inl (cA 0, 40, .inr (.inl ((f_t_start ((TT j).2.1) ((TT j).2.2.2.2.2.2.2.2.2) G.2.1 G.2.2.1 zb zp zq zu).2.2.2.2.2.2.2)))), (ad 0, .inr (0, [.ref (ad 2), .ref (ad 1), .int (nI nt)])), (ad 1, .inl (cA 1, 4, .inr (.inr (.inr (.inr (tvf ad nt)))))), (ad 2, .inr (1, [.ref (ad 3), .ref (ad 4), .int G.2.2.1, .long G.2.2.2.1, .long G.2.2.2.2])), (ad 3, .inl (cA 0, 40, .inr (.inl G.1))), (ad 4, .inl (cA 0, 40, .inr (.inl G.2.1)))] H1 := hP.sub [2, 3, 0, 1, 4, 5, 6] rfl
            have hD : va_D A [(ad (5 + 2 * j), .inr (2, [.ref (ad 2), .ref (ad (6 + 2 * j)), .long ((TT j).1), .long ((TT j).2.1), .int (bz ((f_t_start ((TT j).2.1) ((TT j).2.2.2.2.2.2.2.2.2) G.2.1 G.2.2.1 zb zp zq zu).2.1)), .int ((f_t_start ((TT j).2.1) ((TT j).2.2.2.2.2.2.2.2.2) G.2.1 G.2.2.1 zb zp zq zu).2.2.1), .int ((f_t_start ((TT j).2.1) ((TT j).2.2.2.2.2.2.2.2.2) G.2.1 G.2.2.1 zb zp zq zu).2.2.2.1), .int ((f_t_start ((TT j).2.1) ((TT j).2.2.2.2.2.2.2.2.2) G.2.1 G.2.2.1 zb zp zq zu).2.2.2.2.1), .int ((f_t_start ((TT j).2.1) ((TT j).2.2.2.2.2.2.2.2.2) G.2.1 G.2.2.1 zb zp zq zu).2.2.2.2.2.1), .int ((f_t_start ((TT j).2.1) ((TT j).2.2.2.2.2.2.2.2.2) G.2.1 G.2.2.1 zb zp zq zu).2.2.2.2.2.2.1), .int ((TT j).2.2.2.2.2.2.2.2.1)])), (ad (6 + 2 * j), .inl (cA 0, 40, .inr (.inl ((f_t_start ((TT j).2.1) ((TT j).2.2.2.2.2.2.2.2.2) G.2.1 G.2.2.1 zb zp zq zu).2.2.2.2.2.2.2)))), (ad 0, .inr (0, [.ref (ad 2), .ref (ad 1), .int (nI nt)])), (ad 1, .inl (cA 1, 4, .inr (.inr (.inr (.inr (tvf ad nt)))))), (ad 2, .inr (1, [.ref (ad 3), .ref (ad 4), .int G.2.2.1, .long G.2.2.2.1, .long G.2.2.2.2])), (ad 3, .inl (cA 0, 40, .inr (.inl G.1))), (ad 4, .inl (cA 0, 40, .inr (.inl G.2.1)))] := hD.sub [2, 3, 0, 1, 4, 5, 6] (by decide) rfl
            generalize H1 = H at hP hS ⊢
            refine W.eq (g2 := F0 m 65 ls [.int ((f_t_start ((TT j).2.1) ((TT j).2.2.2.2.2.2.2.2.2) G.2.1 G.2.2.1 zb zp zq zu).1)]) rfl ?_
            exact mu_iret FX (S_mono hS hoA) (by rw [show (f_x_begin nt G TT ta zb zp zq zu) = ((f_t_start ((TT j).2.1) ((TT j).2.2.2.2.2.2.2.2.2) G.2.1 G.2.2.1 zb zp zq zu).1, (G.1, G.2.1, G.2.2.1, G.2.2.2.1, G.2.2.2.2), va_up TT j ((TT j).1, (TT j).2.1, ((f_t_start ((TT j).2.1) ((TT j).2.2.2.2.2.2.2.2.2) G.2.1 G.2.2.1 zb zp zq zu).2.1), (f_t_start ((TT j).2.1) ((TT j).2.2.2.2.2.2.2.2.2) G.2.1 G.2.2.1 zb zp zq zu).2.2.1, (f_t_start ((TT j).2.1) ((TT j).2.2.2.2.2.2.2.2.2) G.2.1 G.2.2.1 zb zp zq zu).2.2.2.1, (f_t_start ((TT j).2.1) ((TT j).2.2.2.2.2.2.2.2.2) G.2.1 G.2.2.1 zb zp zq zu).2.2.2.2.1, (f_t_start ((TT j).2.1) ((TT j).2.2.2.2.2.2.2.2.2) G.2.1 G.2.2.1 zb zp zq zu).2.2.2.2.2.1, (f_t_start ((TT j).2.1) ((TT j).2.2.2.2.2.2.2.2.2) G.2.1 G.2.2.1 zb zp zq zu).2.2.2.2.2.2.1, (TT j).2.2.2.2.2.2.2.2.1, (f_t_start ((TT j).2.1) ((TT j).2.2.2.2.2.2.2.2.2) G.2.1 G.2.2.1 zb zp zq zu).2.2.2.2.2.2.2)) from (by rw [f_x_begin, om_some hq1, if_pos c2, if_pos c3, if_pos c4, if_neg c5])]; exact ⟨rfl, wx_put7 (G' := (G.1, G.2.1, G.2.2.1, G.2.2.2.1, G.2.2.2.2)) (T' := ((TT j).1, (TT j).2.1, ((f_t_start ((TT j).2.1) ((TT j).2.2.2.2.2.2.2.2.2) G.2.1 G.2.2.1 zb zp zq zu).2.1), (f_t_start ((TT j).2.1) ((TT j).2.2.2.2.2.2.2.2.2) G.2.1 G.2.2.1 zb zp zq zu).2.2.1, (f_t_start ((TT j).2.1) ((TT j).2.2.2.2.2.2.2.2.2) G.2.1 G.2.2.1 zb zp zq zu).2.2.2.1, (f_t_start ((TT j).2.1) ((TT j).2.2.2.2.2.2.2.2.2) G.2.1 G.2.2.1 zb zp zq zu).2.2.2.2.1, (f_t_start ((TT j).2.1) ((TT j).2.2.2.2.2.2.2.2.2) G.2.1 G.2.2.1 zb zp zq zu).2.2.2.2.2.1, (f_t_start ((TT j).2.1) ((TT j).2.2.2.2.2.2.2.2.2) G.2.1 G.2.2.1 zb zp zq zu).2.2.2.2.2.2.1, (TT j).2.2.2.2.2.2.2.2.1, (f_t_start ((TT j).2.1) ((TT j).2.2.2.2.2.2.2.2.2) G.2.1 G.2.2.1 zb zp zq zu).2.2.2.2.2.2.2)) hW hinj hj hA hS hP⟩) d_x_begin_65
          · have c5 := bz_t c5
            refine lv_bipush (v := (-2)) hx hb d_x_begin_51 (by decide) ?_
            exact mu_iret FX va_S.rf (by rw [show (f_x_begin nt G TT ta zb zp zq zu) = ((-2), G, TT) from (by rw [f_x_begin, om_some hq1, if_pos c2, if_pos c3, if_pos c4, if_pos c5])]; exact ⟨rfl, hW⟩) d_x_begin_53
        · have c4 := bz_f c4
          refine lv_iconst (v := (-1)) hx hb d_x_begin_40 (by decide) ?_
          exact mu_iret FX va_S.rf (by rw [show (f_x_begin nt G TT ta zb zp zq zu) = ((-1), G, TT) from (by rw [f_x_begin, om_some hq1, if_pos c2, if_pos c3, if_neg c4])]; exact ⟨rfl, hW⟩) d_x_begin_41
theorem d_x_stop_0 : decode b_x_stop 0 = .ok (.aload_n 0, 1) := by decide +kernel
theorem d_x_stop_1 : decode b_x_stop 1 = .ok (.iload_n 1, 1) := by decide +kernel
theorem d_x_stop_2 : decode b_x_stop 2 = .ok (.invokevirtual 76, 3) := by decide +kernel
theorem d_x_stop_5 : decode b_x_stop 5 = .ok (.astore_n 2, 1) := by decide +kernel
theorem d_x_stop_6 : decode b_x_stop 6 = .ok (.aload_n 2, 1) := by decide +kernel
theorem d_x_stop_7 : decode b_x_stop 7 = .ok (.ifnonnull 5, 3) := by decide +kernel
theorem d_x_stop_10 : decode b_x_stop 10 = .ok (.iconst 0, 1) := by decide +kernel
theorem d_x_stop_11 : decode b_x_stop 11 = .ok (.ireturn, 1) := by decide +kernel
theorem d_x_stop_12 : decode b_x_stop 12 = .ok (.aload_n 2, 1) := by decide +kernel
theorem d_x_stop_13 : decode b_x_stop 13 = .ok (.invokevirtual 79, 3) := by decide +kernel
theorem d_x_stop_16 : decode b_x_stop 16 = .ok (.iconst 1, 1) := by decide +kernel
theorem d_x_stop_17 : decode b_x_stop 17 = .ok (.ireturn, 1) := by decide +kernel
def f_x_stop (nt : Nat) (G : GS) (TT : Nat → TS) (ta : Int32) : Bool × GS × (Nat → TS) := om (f_x_searchAt nt TT ta)
    ((false, G, TT))
    (fun j => (true, (G.1, G.2.1, G.2.2.1, G.2.2.2.1, G.2.2.2.2), va_up TT j ((TT j).1, (TT j).2.1, f_t_giveUp, (TT j).2.2.2.1, (TT j).2.2.2.2.1, (TT j).2.2.2.2.2.1, (TT j).2.2.2.2.2.2.1, (TT j).2.2.2.2.2.2.2.1, (TT j).2.2.2.2.2.2.2.2.1, (TT j).2.2.2.2.2.2.2.2.2)))
set_option maxHeartbeats 4000000 in
set_option maxRecDepth 100000 in
theorem c_x_stop (l : Launch) (D : va_G) (cA : Nat → ClassId) (ad : Nat → Nat) (nt : Nat) (G : GS) (TT : Nat → TS) (ta : Int32) (hnt : nt ≤ 4) (S : Nat) (hS40 : S ≤ 40) (hsz : G.2.2.1 = nI S) (hinj : adX ad nt) : Met l y_x_stop (.code y_x_stop b_x_stop 3 (some .boolean) :: tb) (rmd 2) (Pro D cA [.ref (ad 0), .int ta] (WX D cA ad nt G TT)) (Qmu (ox ad nt) (fun v0 H0 => v0 = some (.int (bz (f_x_stop nt G TT ta).1)) ∧ WX D cA ad nt (f_x_stop nt G TT ta).2.1 (f_x_stop nt G TT ta).2.2 H0)) 0 0 (ox ad nt) := by
  refine ro_in (by decide) (Nat.le_of_ble_eq_true rfl) (fun p e s m below meth c ls FX hnm hK hW hl => ?_)
  have hl : lv_has ls 3 [(0, .ref (ad 0)), (1, .int ta)] := hl
  have hP : va_P D classes [(ad 0, .inr (0, [.ref (ad 2), .ref (ad 1), .int (nI nt)])), (ad 1, .inl (cA 1, 4, .inr (.inr (.inr (.inr (tvf ad nt)))))), (ad 2, .inr (1, [.ref (ad 3), .ref (ad 4), .int G.2.2.1, .long G.2.2.2.1, .long G.2.2.2.2])), (ad 3, .inl (cA 0, 40, .inr (.inl G.1))), (ad 4, .inl (cA 0, 40, .inr (.inl G.2.1)))] s.heap := hW.1
  generalize ([.ref (ad 0), .int ta] : List Value).toArray = args at FX ⊢
  obtain ⟨hx, hb, hml, hown, hts, hr, hlk⟩ := id FX
  refine lv_aload_n hx hb d_x_stop_0 rfl (lv_at hl 0 rfl) ?_
  refine lv_iload_n hx hb d_x_stop_1 rfl (lv_at hl 1 rfl) ?_
  refine ro_V (v := va_rf ((f_x_searchAt nt TT ta).map (fun j => ad (5 + 2 * j)))) (As := [.int ta]) (rest := []) (q0 := 0) FX hK (c_x_searchAt l D cA ad nt G TT ta hnt S hS40 hsz) hW hP rfl rfl rfl kc_x_searchAt km_x_76 ki_x ks_x_searchAt ke_x_searchAt rfl ok_x_searchAt ⟨Nat.le_of_ble_eq_true rfl, Nat.le_of_ble_eq_true rfl⟩ ⟨Nat.zero_le _, Nat.zero_le _⟩ hl.1 rfl (Nat.le_of_ble_eq_true rfl) d_x_stop_2 ?_
  cases hq1 : (f_x_searchAt nt TT ta) with
  | none =>
    refine W.eq (g2 := F0 m 5 ls [.null]) rfl ?_
    refine lv_astore_nN (lv' := [(2, .null), (0, .ref (ad 0)), (1, .int ta)]) hx hb d_x_stop_5 rfl hl (by decide) rfl (fun ls hl => ?_)
    refine lv_aload_nN hx hb d_x_stop_6 rfl (lv_at hl 0 rfl) ?_
    refine lv_ifnonnullN hx hb d_x_stop_7 ?_
    refine lv_iconst (v := 0) hx hb d_x_stop_10 (by decide) ?_
    exact mu_zret false rfl FX va_S.rf (by rw [show (f_x_stop nt G TT ta) = (false, G, TT) from (by rw [f_x_stop, om_none hq1])]; exact ⟨rfl, hW⟩) d_x_stop_11
  | some j =>
    have hj : j < nt := sa_lt hnt hq1
    have hP : va_P D classes [(ad (5 + 2 * j), .inr (2, [.ref (ad 2), .ref (ad (6 + 2 * j)), .long ((TT j).1), .long ((TT j).2.1), .int (bz (TT j).2.2.1), .int ((TT j).2.2.2.1), .int ((TT j).2.2.2.2.1), .int ((TT j).2.2.2.2.2.1), .int ((TT j).2.2.2.2.2.2.1), .int ((TT j).2.2.2.2.2.2.2.1), .int ((TT j).2.2.2.2.2.2.2.2.1)])), (ad (6 + 2 * j), .inl (cA 0, 40, .inr (.inl ((TT j).2.2.2.2.2.2.2.2.2)))), (ad 0, .inr (0, [.ref (ad 2), .ref (ad 1), .int (nI nt)])), (ad 1, .inl (cA 1, 4, .inr (.inr (.inr (.inr (tvf ad nt)))))), (ad 2, .inr (1, [.ref (ad 3), .ref (ad 4), .int G.2.2.1, .long G.2.2.2.1, .long G.2.2.2.2])), (ad 3, .inl (cA 0, 40, .inr (.inl G.1))), (ad 4, .inl (cA 0, 40, .inr (.inl G.2.1)))] s.heap := (hW.2 j hj).app hP
    have hD : va_D (aw [(ad (5 + 2 * j), .inr (2, [.ref (ad 2), .ref (ad (6 + 2 * j)), .long ((TT j).1), .long ((TT j).2.1), .int (bz (TT j).2.2.1), .int ((TT j).2.2.2.1), .int ((TT j).2.2.2.2.1), .int ((TT j).2.2.2.2.2.1), .int ((TT j).2.2.2.2.2.2.1), .int ((TT j).2.2.2.2.2.2.2.1), .int ((TT j).2.2.2.2.2.2.2.2.1)])), (ad (6 + 2 * j), .inl (cA 0, 40, .inr (.inl ((TT j).2.2.2.2.2.2.2.2.2)))), (ad 0, .inr (0, [.ref (ad 2), .ref (ad 1), .int (nI nt)])), (ad 1, .inl (cA 1, 4, .inr (.inr (.inr (.inr (tvf ad nt)))))), (ad 2, .inr (1, [.ref (ad 3), .ref (ad 4), .int G.2.2.1, .long G.2.2.2.1, .long G.2.2.2.2])), (ad 3, .inl (cA 0, 40, .inr (.inl G.1))), (ad 4, .inl (cA 0, 40, .inr (.inl G.2.1)))]) [(ad (5 + 2 * j), .inr (2, [.ref (ad 2), .ref (ad (6 + 2 * j)), .long ((TT j).1), .long ((TT j).2.1), .int (bz (TT j).2.2.1), .int ((TT j).2.2.2.1), .int ((TT j).2.2.2.2.1), .int ((TT j).2.2.2.2.2.1), .int ((TT j).2.2.2.2.2.2.1), .int ((TT j).2.2.2.2.2.2.2.1), .int ((TT j).2.2.2.2.2.2.2.2.1)])), (ad (6 + 2 * j), .inl (cA 0, 40, .inr (.inl ((TT j).2.2.2.2.2.2.2.2.2)))), (ad 0, .inr (0, [.ref (ad 2), .ref (ad 1), .int (nI nt)])), (ad 1, .inl (cA 1, 4, .inr (.inr (.inr (.inr (tvf ad nt)))))), (ad 2, .inr (1, [.ref (ad 3), .ref (ad 4), .int G.2.2.1, .long G.2.2.2.1, .long G.2.2.2.2])), (ad 3, .inl (cA 0, 40, .inr (.inl G.1))), (ad 4, .inl (cA 0, 40, .inr (.inl G.2.1)))] := aw_self (wx_d7 hinj hj (T := TT j) (G := G))
    have hoA : ∀ q, aw [(ad (5 + 2 * j), .inr (2, [.ref (ad 2), .ref (ad (6 + 2 * j)), .long ((TT j).1), .long ((TT j).2.1), .int (bz (TT j).2.2.1), .int ((TT j).2.2.2.1), .int ((TT j).2.2.2.2.1), .int ((TT j).2.2.2.2.2.1), .int ((TT j).2.2.2.2.2.2.1), .int ((TT j).2.2.2.2.2.2.2.1), .int ((TT j).2.2.2.2.2.2.2.2.1)])), (ad (6 + 2 * j), .inl (cA 0, 40, .inr (.inl ((TT j).2.2.2.2.2.2.2.2.2)))), (ad 0, .inr (0, [.ref (ad 2), .ref (ad 1), .int (nI nt)])), (ad 1, .inl (cA 1, 4, .inr (.inr (.inr (.inr (tvf ad nt)))))), (ad 2, .inr (1, [.ref (ad 3), .ref (ad 4), .int G.2.2.1, .long G.2.2.2.1, .long G.2.2.2.2])), (ad 3, .inl (cA 0, 40, .inr (.inl G.1))), (ad 4, .inl (cA 0, 40, .inr (.inl G.2.1)))] q → ox ad nt q := ox_7 hj (T := TT j) (G := G)
    obtain ⟨A, hA⟩ : ∃ A, A = aw [(ad (5 + 2 * j), .inr (2, [.ref (ad 2), .ref (ad (6 + 2 * j)), .long ((TT j).1), .long ((TT j).2.1), .int (bz (TT j).2.2.1), .int ((TT j).2.2.2.1), .int ((TT j).2.2.2.2.1), .int ((TT j).2.2.2.2.2.1), .int ((TT j).2.2.2.2.2.2.1), .int ((TT j).2.2.2.2.2.2.2.1), .int ((TT j).2.2.2.2.2.2.2.2.1)])), (ad (6 + 2 * j), .inl (cA 0, 40, .inr (.inl ((TT j).2.2.2.2.2.2.2.2.2)))), (ad 0, .inr (0, [.ref (ad 2), .ref (ad 1), .int (nI nt)])), (ad 1, .inl (cA 1, 4, .inr (.inr (.inr (.inr (tvf ad nt)))))), (ad 2, .inr (1, [.ref (ad 3), .ref (ad 4), .int G.2.2.1, .long G.2.2.2.1, .long G.2.2.2.2])), (ad 3, .inl (cA 0, 40, .inr (.inl G.1))), (ad 4, .inl (cA 0, 40, .inr (.inl G.2.1)))] := ⟨_, rfl⟩
    rw [← hA] at hD hoA
    have hS : va_S A s.heap s.heap [] := va_S.rf
    refine W.eq (g2 := F0 m 5 ls [.ref (ad (5 + 2 * j))]) rfl ?_
    refine lv_astore_n (lv' := [(2, .ref (ad (5 + 2 * j))), (0, .ref (ad 0)), (1, .int ta)]) hx hb d_x_stop_5 rfl hl (by decide) rfl (fun ls hl => ?_)
    refine lv_aload_n hx hb d_x_stop_6 rfl (lv_at hl 0 rfl) ?_
    refine lv_ifnonnull (tgt := 12) hx hb d_x_stop_7 (by decide) ?_
    refine lv_aload_n hx hb d_x_stop_12 rfl (lv_at hl 0 rfl) ?_
    refine mu_V (As := []) (rest := []) (q0 := 0) FX hK (c_t_giveUp l D cA (ad (5 + 2 * j)) (ad (6 + 2 * j)) ((TT j).1) ((TT j).2.1) ((TT j).2.2.1) ((TT j).2.2.2.1) ((TT j).2.2.2.2.1) ((TT j).2.2.2.2.2.1) ((TT j).2.2.2.2.2.2.1) ((TT j).2.2.2.2.2.2.2.1) ((TT j).2.2.2.2.2.2.2.2.1) ((TT j).2.2.2.2.2.2.2.2.2) (ad 2) (ad 3) (ad 4) G.1 G.2.1 G.2.2.1 G.2.2.2.1 G.2.2.2.2) (hP.sub [0, 1, 4, 5, 6] rfl) (hD.sub [0, 1, 4, 5, 6] (by decide) rfl) hP rfl rfl rfl kc_t_giveUp km_x_79 ki_t ks_t_giveUp ke_t_giveUp rfl ok_t_giveUp ⟨Nat.le_of_ble_eq_true rfl, Nat.le_of_ble_eq_true rfl⟩ ⟨Nat.zero_le _, Nat.zero_le _⟩ hl.1 rfl (Nat.le_of_ble_eq_true rfl) d_x_stop_13 hS (fun q hq => aw_in hD [0, 1, 4, 5, 6] rfl q hq) (fun v0 H1 locs hv0 hz0 hk0 hS => ?_)
    obtain ⟨rfl, hP1, hD1⟩ := hv0
    obtain ⟨hP, hD⟩ := mu_join (wr := [(ad 0, .inr (0, [.ref (ad 2), .ref (ad 1), .int (nI nt)])), (ad 1, .inl (cA 1, 4, .inr (.inr (.inr (.inr (tvf ad nt))))))]) (w1 := [(ad (5 + 2 * j), .inr (2, [.ref (ad 2), .ref (ad (6 + 2 * j)), .long ((TT j).1), .long ((TT j).2.1), .int (bz f_t_giveUp), .int ((TT j).2.2.2.1), .int ((TT j).2.2.2.2.1), .int ((TT j).2.2.2.2.2.1), .int ((TT j).2.2.2.2.2.2.1), .int ((TT j).2.2.2.2.2.2.2.1), .int ((TT j).2.2.2.2.2.2.2.2.1)])), (ad (6 + 2 * j), .inl (cA 0, 40, .inr (.inl ((TT j).2.2.2.2.2.2.2.2.2)))), (ad 2, .inr (1, [.ref (ad 3), .ref (ad 4), .int G.2.2.1, .long G.2.2.2.1, .long G.2.2.2.2])), (ad 3, .inl (cA 0, 40, .inr (.inl G.1))), (ad 4, .inl (cA 0, 40, .inr (.inl G.2.1)))]) hP hD [0, 1, 4, 5, 6] [2, 3] rfl rfl (by decide) (by decide) hk0 hP1 hD1
    have hP : va_P D classes [(ad (5 + 2 * j), .inr (2, [.ref (ad 2), .ref (ad (6 + 2 * j)), .long ((TT j).1), .long ((TT j).2.1), .int (bz f_t_giveUp), .int ((TT j).2.2.2.1), .int ((TT j).2.2.2.2.1), .int ((TT j).2.2.2.2.2.1), .int ((TT j).2.2.2.2.2.2.1), .int ((TT j).2.2.2.2.2.2.2.1), .int ((TT j).2.2.2.2.2.2.2.2.1)])), (ad (6 + 2 * j), .inl (cA 0, 40, .inr (.inl ((TT j).2.2.2.2.2.2.2.2.2)))), (ad 0, .inr (0, [.ref (ad 2), .ref (ad 1), .int (nI nt)])), (ad 1, .inl (cA 1, 4, .inr (.inr (.inr (.inr (tvf ad nt)))))), (ad 2, .inr (1, [.ref (ad 3), .ref (ad 4), .int G.2.2.1, .long G.2.2.2.1, .long G.2.2.2.2])), (ad 3, .inl (cA 0, 40, .inr (.inl G.1))), (ad 4, .inl (cA 0, 40, .inr (.inl G.2.1)))] H1 := hP.sub [2, 3, 0, 1, 4, 5, 6] rfl
    have hD : va_D A [(ad (5 + 2 * j), .inr (2, [.ref (ad 2), .ref (ad (6 + 2 * j)), .long ((TT j).1), .long ((TT j).2.1), .int (bz f_t_giveUp), .int ((TT j).2.2.2.1), .int ((TT j).2.2.2.2.1), .int ((TT j).2.2.2.2.2.1), .int ((TT j).2.2.2.2.2.2.1), .int ((TT j).2.2.2.2.2.2.2.1), .int ((TT j).2.2.2.2.2.2.2.2.1)])), (ad (6 + 2 * j), .inl (cA 0, 40, .inr (.inl ((TT j).2.2.2.2.2.2.2.2.2)))), (ad 0, .inr (0, [.ref (ad 2), .ref (ad 1), .int (nI nt)])), (ad 1, .inl (cA 1, 4, .inr (.inr (.inr (.inr (tvf ad nt)))))), (ad 2, .inr (1, [.ref (ad 3), .ref (ad 4), .int G.2.2.1, .long G.2.2.2.1, .long G.2.2.2.2])), (ad 3, .inl (cA 0, 40, .inr (.inl G.1))), (ad 4, .inl (cA 0, 40, .inr (.inl G.2.1)))] := hD.sub [2, 3, 0, 1, 4, 5, 6] (by decide) rfl
    generalize H1 = H at hP hS ⊢
    refine W.eq (g2 := F0 m 16 ls []) rfl ?_
    refine lv_iconst (v := 1) hx hb d_x_stop_16 (by decide) ?_
    exact mu_zret true rfl FX (S_mono hS hoA) (by rw [show (f_x_stop nt G TT ta) = (true, (G.1, G.2.1, G.2.2.1, G.2.2.2.1, G.2.2.2.2), va_up TT j ((TT j).1, (TT j).2.1, f_t_giveUp, (TT j).2.2.2.1, (TT j).2.2.2.2.1, (TT j).2.2.2.2.2.1, (TT j).2.2.2.2.2.2.1, (TT j).2.2.2.2.2.2.2.1, (TT j).2.2.2.2.2.2.2.2.1, (TT j).2.2.2.2.2.2.2.2.2)) from (by rw [f_x_stop, om_some hq1])]; exact ⟨rfl, wx_put7 (G' := (G.1, G.2.1, G.2.2.1, G.2.2.2.1, G.2.2.2.2)) (T' := ((TT j).1, (TT j).2.1, f_t_giveUp, (TT j).2.2.2.1, (TT j).2.2.2.2.1, (TT j).2.2.2.2.2.1, (TT j).2.2.2.2.2.2.1, (TT j).2.2.2.2.2.2.2.1, (TT j).2.2.2.2.2.2.2.2.1, (TT j).2.2.2.2.2.2.2.2.2)) hW hinj hj hA hS hP⟩) d_x_stop_17
theorem d_x_answer_0 : decode b_x_answer 0 = .ok (.aload_n 0, 1) := by decide +kernel
theorem d_x_answer_1 : decode b_x_answer 1 = .ok (.iload_n 1, 1) := by decide +kernel
theorem d_x_answer_2 : decode b_x_answer 2 = .ok (.invokevirtual 76, 3) := by decide +kernel
theorem d_x_answer_5 : decode b_x_answer 5 = .ok (.astore_n 3, 1) := by decide +kernel
theorem d_x_answer_6 : decode b_x_answer 6 = .ok (.aload_n 3, 1) := by decide +kernel
theorem d_x_answer_7 : decode b_x_answer 7 = .ok (.ifnull 12, 3) := by decide +kernel
theorem d_x_answer_10 : decode b_x_answer 10 = .ok (.iload_n 2, 1) := by decide +kernel
theorem d_x_answer_11 : decode b_x_answer 11 = .ok (.ifCond .lt 8, 3) := by decide +kernel
theorem d_x_answer_14 : decode b_x_answer 14 = .ok (.iload_n 2, 1) := by decide +kernel
theorem d_x_answer_15 : decode b_x_answer 15 = .ok (.iconst 2, 1) := by decide +kernel
theorem d_x_answer_16 : decode b_x_answer 16 = .ok (.if_icmp .le 5, 3) := by decide +kernel
theorem d_x_answer_19 : decode b_x_answer 19 = .ok (.iconst (-1), 1) := by decide +kernel
theorem d_x_answer_20 : decode b_x_answer 20 = .ok (.ireturn, 1) := by decide +kernel
theorem d_x_answer_21 : decode b_x_answer 21 = .ok (.aload_n 3, 1) := by decide +kernel
theorem d_x_answer_22 : decode b_x_answer 22 = .ok (.invokevirtual 86, 3) := by decide +kernel
theorem d_x_answer_25 : decode b_x_answer 25 = .ok (.istore 4, 2) := by decide +kernel
theorem d_x_answer_27 : decode b_x_answer 27 = .ok (.iload 4, 2) := by decide +kernel
theorem d_x_answer_29 : decode b_x_answer 29 = .ok (.iconst (-1), 1) := by decide +kernel
theorem d_x_answer_30 : decode b_x_answer 30 = .ok (.if_icmp .ne 5, 3) := by decide +kernel
theorem d_x_answer_33 : decode b_x_answer 33 = .ok (.iconst (-1), 1) := by decide +kernel
theorem d_x_answer_34 : decode b_x_answer 34 = .ok (.ireturn, 1) := by decide +kernel
theorem d_x_answer_35 : decode b_x_answer 35 = .ok (.iload_n 2, 1) := by decide +kernel
theorem d_x_answer_36 : decode b_x_answer 36 = .ok (.iconst 2, 1) := by decide +kernel
theorem d_x_answer_37 : decode b_x_answer 37 = .ok (.if_icmp .ne 12, 3) := by decide +kernel
theorem d_x_answer_40 : decode b_x_answer 40 = .ok (.aload_n 3, 1) := by decide +kernel
theorem d_x_answer_41 : decode b_x_answer 41 = .ok (.iload 4, 2) := by decide +kernel
theorem d_x_answer_43 : decode b_x_answer 43 = .ok (.invokevirtual 89, 3) := by decide +kernel
theorem d_x_answer_46 : decode b_x_answer 46 = .ok (.goto 10, 3) := by decide +kernel
theorem d_x_answer_49 : decode b_x_answer 49 = .ok (.aload_n 3, 1) := by decide +kernel
theorem d_x_answer_50 : decode b_x_answer 50 = .ok (.iload 4, 2) := by decide +kernel
theorem d_x_answer_52 : decode b_x_answer 52 = .ok (.iload_n 2, 1) := by decide +kernel
theorem d_x_answer_53 : decode b_x_answer 53 = .ok (.invokevirtual 93, 3) := by decide +kernel
theorem d_x_answer_56 : decode b_x_answer 56 = .ok (.aload_n 3, 1) := by decide +kernel
theorem d_x_answer_57 : decode b_x_answer 57 = .ok (.invokevirtual 82, 3) := by decide +kernel
theorem d_x_answer_60 : decode b_x_answer 60 = .ok (.ireturn, 1) := by decide +kernel
def f_x_answer (nt : Nat) (G : GS) (TT : Nat → TS) (ta : Int32) (ou : Int32) : Int32 × GS × (Nat → TS) := om (f_x_searchAt nt TT ta)
    (((-1), G, TT))
    (fun j => if ou < 0 then
      (((-1), G, TT))
    else
      (if ou ≤ 2 then
        (if (f_t_asked ((TT j).2.2.2.2.2.2.1) ((TT j).2.2.2.2.2.2.2.1) ((TT j).2.2.2.2.2.2.2.2.2) G.2.1 G.2.2.1 G.2.2.2.1 G.2.2.2.2) = (-1) then
          (((-1), G, TT))
        else
          (if ou = 2 then
            ((f_t_standing ((TT j).2.2.2.2.2.2.1) ((TT j).2.2.2.2.2.2.2.1) ((TT j).2.2.2.2.2.2.2.2.2) G.2.1 G.2.2.1 G.2.2.2.1 ((f_t_skip ((TT j).2.2.2.2.2.2.2.2.1) G.2.2.2.2 (f_t_asked ((TT j).2.2.2.2.2.2.1) ((TT j).2.2.2.2.2.2.2.1) ((TT j).2.2.2.2.2.2.2.2.2) G.2.1 G.2.2.1 G.2.2.2.1 G.2.2.2.2)).1), (G.1, G.2.1, G.2.2.1, G.2.2.2.1, (f_t_skip ((TT j).2.2.2.2.2.2.2.2.1) G.2.2.2.2 (f_t_asked ((TT j).2.2.2.2.2.2.1) ((TT j).2.2.2.2.2.2.2.1) ((TT j).2.2.2.2.2.2.2.2.2) G.2.1 G.2.2.1 G.2.2.2.1 G.2.2.2.2)).1), va_up TT j ((TT j).1, (TT j).2.1, (TT j).2.2.1, (TT j).2.2.2.1, (TT j).2.2.2.2.1, (TT j).2.2.2.2.2.1, (TT j).2.2.2.2.2.2.1, (TT j).2.2.2.2.2.2.2.1, (f_t_skip ((TT j).2.2.2.2.2.2.2.2.1) G.2.2.2.2 (f_t_asked ((TT j).2.2.2.2.2.2.1) ((TT j).2.2.2.2.2.2.2.1) ((TT j).2.2.2.2.2.2.2.2.2) G.2.1 G.2.2.1 G.2.2.2.1 G.2.2.2.2)).2, (TT j).2.2.2.2.2.2.2.2.2)))
          else
            ((f_t_standing ((TT j).2.2.2.2.2.2.1) ((f_t_learn ((TT j).2.2.2.2.1) ((TT j).2.2.2.2.2.1) ((TT j).2.2.2.2.2.2.2.1) ((TT j).2.2.2.2.2.2.2.2.2) G.2.1 G.2.2.1 G.2.2.2.1 (f_t_asked ((TT j).2.2.2.2.2.2.1) ((TT j).2.2.2.2.2.2.2.1) ((TT j).2.2.2.2.2.2.2.2.2) G.2.1 G.2.2.1 G.2.2.2.1 G.2.2.2.2) ou).2.1) ((f_t_learn ((TT j).2.2.2.2.1) ((TT j).2.2.2.2.2.1) ((TT j).2.2.2.2.2.2.2.1) ((TT j).2.2.2.2.2.2.2.2.2) G.2.1 G.2.2.1 G.2.2.2.1 (f_t_asked ((TT j).2.2.2.2.2.2.1) ((TT j).2.2.2.2.2.2.2.1) ((TT j).2.2.2.2.2.2.2.2.2) G.2.1 G.2.2.1 G.2.2.2.1 G.2.2.2.2) ou).2.2) G.2.1 G.2.2.1 ((f_t_learn ((TT j).2.2.2.2.1) ((TT j).2.2.2.2.2.1) ((TT j).2.2.2.2.2.2.2.1) ((TT j).2.2.2.2.2.2.2.2.2) G.2.1 G.2.2.1 G.2.2.2.1 (f_t_asked ((TT j).2.2.2.2.2.2.1) ((TT j).2.2.2.2.2.2.2.1) ((TT j).2.2.2.2.2.2.2.2.2) G.2.1 G.2.2.1 G.2.2.2.1 G.2.2.2.2) ou).1) G.2.2.2.2, (G.1, G.2.1, G.2.2.1, (f_t_learn ((TT j).2.2.2.2.1) ((TT j).2.2.2.2.2.1) ((TT j).2.2.2.2.2.2.2.1) ((TT j).2.2.2.2.2.2.2.2.2) G.2.1 G.2.2.1 G.2.2.2.1 (f_t_asked ((TT j).2.2.2.2.2.2.1) ((TT j).2.2.2.2.2.2.2.1) ((TT j).2.2.2.2.2.2.2.2.2) G.2.1 G.2.2.1 G.2.2.2.1 G.2.2.2.2) ou).1, G.2.2.2.2), va_up TT j ((TT j).1, (TT j).2.1, (TT j).2.2.1, (TT j).2.2.2.1, (TT j).2.2.2.2.1, (TT j).2.2.2.2.2.1, (TT j).2.2.2.2.2.2.1, (f_t_learn ((TT j).2.2.2.2.1) ((TT j).2.2.2.2.2.1) ((TT j).2.2.2.2.2.2.2.1) ((TT j).2.2.2.2.2.2.2.2.2) G.2.1 G.2.2.1 G.2.2.2.1 (f_t_asked ((TT j).2.2.2.2.2.2.1) ((TT j).2.2.2.2.2.2.2.1) ((TT j).2.2.2.2.2.2.2.2.2) G.2.1 G.2.2.1 G.2.2.2.1 G.2.2.2.2) ou).2.1, (TT j).2.2.2.2.2.2.2.2.1, (f_t_learn ((TT j).2.2.2.2.1) ((TT j).2.2.2.2.2.1) ((TT j).2.2.2.2.2.2.2.1) ((TT j).2.2.2.2.2.2.2.2.2) G.2.1 G.2.2.1 G.2.2.2.1 (f_t_asked ((TT j).2.2.2.2.2.2.1) ((TT j).2.2.2.2.2.2.2.1) ((TT j).2.2.2.2.2.2.2.2.2) G.2.1 G.2.2.1 G.2.2.2.1 G.2.2.2.2) ou).2.2)))))
      else
        (((-1), G, TT))))
set_option maxHeartbeats 4000000 in
set_option maxRecDepth 100000 in
theorem c_x_answer (l : Launch) (D : va_G) (cA : Nat → ClassId) (ad : Nat → Nat) (nt : Nat) (G : GS) (TT : Nat → TS) (ta : Int32) (ou : Int32) (hnt : nt ≤ 4) (S : Nat) (hS40 : S ≤ 40) (hsz : G.2.2.1 = nI S) (hinj : adX ad nt) : Met l y_x_answer (.code y_x_answer b_x_answer 5 (some .int) :: tb) (rmd 6) (Pro D cA [.ref (ad 0), .int ta, .int ou] (WX D cA ad nt G TT)) (Qmu (ox ad nt) (fun v0 H0 => v0 = some (.int (f_x_answer nt G TT ta ou).1) ∧ WX D cA ad nt (f_x_answer nt G TT ta ou).2.1 (f_x_answer nt G TT ta ou).2.2 H0)) 0 0 (ox ad nt) := by
  refine ro_in (by decide) (Nat.le_of_ble_eq_true rfl) (fun p e s m below meth c ls FX hnm hK hW hl => ?_)
  have hl : lv_has ls 5 [(0, .ref (ad 0)), (1, .int ta), (2, .int ou)] := hl
  have hP : va_P D classes [(ad 0, .inr (0, [.ref (ad 2), .ref (ad 1), .int (nI nt)])), (ad 1, .inl (cA 1, 4, .inr (.inr (.inr (.inr (tvf ad nt)))))), (ad 2, .inr (1, [.ref (ad 3), .ref (ad 4), .int G.2.2.1, .long G.2.2.2.1, .long G.2.2.2.2])), (ad 3, .inl (cA 0, 40, .inr (.inl G.1))), (ad 4, .inl (cA 0, 40, .inr (.inl G.2.1)))] s.heap := hW.1
  generalize ([.ref (ad 0), .int ta, .int ou] : List Value).toArray = args at FX ⊢
  obtain ⟨hx, hb, hml, hown, hts, hr, hlk⟩ := id FX
  refine lv_aload_n hx hb d_x_answer_0 rfl (lv_at hl 0 rfl) ?_
  refine lv_iload_n hx hb d_x_answer_1 rfl (lv_at hl 1 rfl) ?_
  refine ro_V (v := va_rf ((f_x_searchAt nt TT ta).map (fun j => ad (5 + 2 * j)))) (As := [.int ta]) (rest := []) (q0 := 0) FX hK (c_x_searchAt l D cA ad nt G TT ta hnt S hS40 hsz) hW hP rfl rfl rfl kc_x_searchAt km_x_76 ki_x ks_x_searchAt ke_x_searchAt rfl ok_x_searchAt ⟨Nat.le_of_ble_eq_true rfl, Nat.le_of_ble_eq_true rfl⟩ ⟨Nat.zero_le _, Nat.zero_le _⟩ hl.1 rfl (Nat.le_of_ble_eq_true rfl) d_x_answer_2 ?_
  cases hq1 : (f_x_searchAt nt TT ta) with
  | none =>
    refine W.eq (g2 := F0 m 5 ls [.null]) rfl ?_
    refine lv_astore_nN (lv' := [(3, .null), (0, .ref (ad 0)), (1, .int ta), (2, .int ou)]) hx hb d_x_answer_5 rfl hl (by decide) rfl (fun ls hl => ?_)
    refine lv_aload_nN hx hb d_x_answer_6 rfl (lv_at hl 0 rfl) ?_
    refine lv_ifnullN (tgt := 19) hx hb d_x_answer_7 (by decide) ?_
    refine lv_iconst (v := (-1)) hx hb d_x_answer_19 (by decide) ?_
    exact mu_iret FX va_S.rf (by rw [show (f_x_answer nt G TT ta ou) = ((-1), G, TT) from (by rw [f_x_answer, om_none hq1])]; exact ⟨rfl, hW⟩) d_x_answer_20
  | some j =>
    have hj : j < nt := sa_lt hnt hq1
    have hP : va_P D classes [(ad (5 + 2 * j), .inr (2, [.ref (ad 2), .ref (ad (6 + 2 * j)), .long ((TT j).1), .long ((TT j).2.1), .int (bz (TT j).2.2.1), .int ((TT j).2.2.2.1), .int ((TT j).2.2.2.2.1), .int ((TT j).2.2.2.2.2.1), .int ((TT j).2.2.2.2.2.2.1), .int ((TT j).2.2.2.2.2.2.2.1), .int ((TT j).2.2.2.2.2.2.2.2.1)])), (ad (6 + 2 * j), .inl (cA 0, 40, .inr (.inl ((TT j).2.2.2.2.2.2.2.2.2)))), (ad 0, .inr (0, [.ref (ad 2), .ref (ad 1), .int (nI nt)])), (ad 1, .inl (cA 1, 4, .inr (.inr (.inr (.inr (tvf ad nt)))))), (ad 2, .inr (1, [.ref (ad 3), .ref (ad 4), .int G.2.2.1, .long G.2.2.2.1, .long G.2.2.2.2])), (ad 3, .inl (cA 0, 40, .inr (.inl G.1))), (ad 4, .inl (cA 0, 40, .inr (.inl G.2.1)))] s.heap := (hW.2 j hj).app hP
    have hD : va_D (aw [(ad (5 + 2 * j), .inr (2, [.ref (ad 2), .ref (ad (6 + 2 * j)), .long ((TT j).1), .long ((TT j).2.1), .int (bz (TT j).2.2.1), .int ((TT j).2.2.2.1), .int ((TT j).2.2.2.2.1), .int ((TT j).2.2.2.2.2.1), .int ((TT j).2.2.2.2.2.2.1), .int ((TT j).2.2.2.2.2.2.2.1), .int ((TT j).2.2.2.2.2.2.2.2.1)])), (ad (6 + 2 * j), .inl (cA 0, 40, .inr (.inl ((TT j).2.2.2.2.2.2.2.2.2)))), (ad 0, .inr (0, [.ref (ad 2), .ref (ad 1), .int (nI nt)])), (ad 1, .inl (cA 1, 4, .inr (.inr (.inr (.inr (tvf ad nt)))))), (ad 2, .inr (1, [.ref (ad 3), .ref (ad 4), .int G.2.2.1, .long G.2.2.2.1, .long G.2.2.2.2])), (ad 3, .inl (cA 0, 40, .inr (.inl G.1))), (ad 4, .inl (cA 0, 40, .inr (.inl G.2.1)))]) [(ad (5 + 2 * j), .inr (2, [.ref (ad 2), .ref (ad (6 + 2 * j)), .long ((TT j).1), .long ((TT j).2.1), .int (bz (TT j).2.2.1), .int ((TT j).2.2.2.1), .int ((TT j).2.2.2.2.1), .int ((TT j).2.2.2.2.2.1), .int ((TT j).2.2.2.2.2.2.1), .int ((TT j).2.2.2.2.2.2.2.1), .int ((TT j).2.2.2.2.2.2.2.2.1)])), (ad (6 + 2 * j), .inl (cA 0, 40, .inr (.inl ((TT j).2.2.2.2.2.2.2.2.2)))), (ad 0, .inr (0, [.ref (ad 2), .ref (ad 1), .int (nI nt)])), (ad 1, .inl (cA 1, 4, .inr (.inr (.inr (.inr (tvf ad nt)))))), (ad 2, .inr (1, [.ref (ad 3), .ref (ad 4), .int G.2.2.1, .long G.2.2.2.1, .long G.2.2.2.2])), (ad 3, .inl (cA 0, 40, .inr (.inl G.1))), (ad 4, .inl (cA 0, 40, .inr (.inl G.2.1)))] := aw_self (wx_d7 hinj hj (T := TT j) (G := G))
    have hoA : ∀ q, aw [(ad (5 + 2 * j), .inr (2, [.ref (ad 2), .ref (ad (6 + 2 * j)), .long ((TT j).1), .long ((TT j).2.1), .int (bz (TT j).2.2.1), .int ((TT j).2.2.2.1), .int ((TT j).2.2.2.2.1), .int ((TT j).2.2.2.2.2.1), .int ((TT j).2.2.2.2.2.2.1), .int ((TT j).2.2.2.2.2.2.2.1), .int ((TT j).2.2.2.2.2.2.2.2.1)])), (ad (6 + 2 * j), .inl (cA 0, 40, .inr (.inl ((TT j).2.2.2.2.2.2.2.2.2)))), (ad 0, .inr (0, [.ref (ad 2), .ref (ad 1), .int (nI nt)])), (ad 1, .inl (cA 1, 4, .inr (.inr (.inr (.inr (tvf ad nt)))))), (ad 2, .inr (1, [.ref (ad 3), .ref (ad 4), .int G.2.2.1, .long G.2.2.2.1, .long G.2.2.2.2])), (ad 3, .inl (cA 0, 40, .inr (.inl G.1))), (ad 4, .inl (cA 0, 40, .inr (.inl G.2.1)))] q → ox ad nt q := ox_7 hj (T := TT j) (G := G)
    obtain ⟨A, hA⟩ : ∃ A, A = aw [(ad (5 + 2 * j), .inr (2, [.ref (ad 2), .ref (ad (6 + 2 * j)), .long ((TT j).1), .long ((TT j).2.1), .int (bz (TT j).2.2.1), .int ((TT j).2.2.2.1), .int ((TT j).2.2.2.2.1), .int ((TT j).2.2.2.2.2.1), .int ((TT j).2.2.2.2.2.2.1), .int ((TT j).2.2.2.2.2.2.2.1), .int ((TT j).2.2.2.2.2.2.2.2.1)])), (ad (6 + 2 * j), .inl (cA 0, 40, .inr (.inl ((TT j).2.2.2.2.2.2.2.2.2)))), (ad 0, .inr (0, [.ref (ad 2), .ref (ad 1), .int (nI nt)])), (ad 1, .inl (cA 1, 4, .inr (.inr (.inr (.inr (tvf ad nt)))))), (ad 2, .inr (1, [.ref (ad 3), .ref (ad 4), .int G.2.2.1, .long G.2.2.2.1, .long G.2.2.2.2])), (ad 3, .inl (cA 0, 40, .inr (.inl G.1))), (ad 4, .inl (cA 0, 40, .inr (.inl G.2.1)))] := ⟨_, rfl⟩
    rw [← hA] at hD hoA
    have hS : va_S A s.heap s.heap [] := va_S.rf
    refine W.eq (g2 := F0 m 5 ls [.ref (ad (5 + 2 * j))]) rfl ?_
    refine lv_astore_n (lv' := [(3, .ref (ad (5 + 2 * j))), (0, .ref (ad 0)), (1, .int ta), (2, .int ou)]) hx hb d_x_answer_5 rfl hl (by decide) rfl (fun ls hl => ?_)
    refine lv_aload_n hx hb d_x_answer_6 rfl (lv_at hl 0 rfl) ?_
    refine lv_ifnull hx hb d_x_answer_7 ?_
    refine lv_iload_n hx hb d_x_answer_10 rfl (lv_at hl 3 rfl) ?_
    refine lv_if_lt (tgt := 19) hx hb d_x_answer_11 (by decide) (fun c2 => ?_) (fun c2 => ?_)
    · have c2 := c2
      refine lv_iconst (v := (-1)) hx hb d_x_answer_19 (by decide) ?_
      exact mu_iret FX va_S.rf (by rw [show (f_x_answer nt G TT ta ou) = ((-1), G, TT) from (by rw [f_x_answer, om_some hq1, if_pos c2])]; exact ⟨rfl, hW⟩) d_x_answer_20
    · have c2 := c2
      refine lv_iload_n hx hb d_x_answer_14 rfl (lv_at hl 3 rfl) ?_
      refine lv_iconst (v := 2) hx hb d_x_answer_15 (by decide) ?_
      refine lv_icmp_le (tgt := 21) hx hb d_x_answer_16 (by decide) (fun c3 => ?_) (fun c3 => ?_)
      · have c3 := c3
        refine lv_aload_n hx hb d_x_answer_21 rfl (lv_at hl 0 rfl) ?_
        refine ro_V (v := .int (f_t_asked ((TT j).2.2.2.2.2.2.1) ((TT j).2.2.2.2.2.2.2.1) ((TT j).2.2.2.2.2.2.2.2.2) G.2.1 G.2.2.1 G.2.2.2.1 G.2.2.2.2)) (As := []) (rest := []) (q0 := 0) FX hK (c_t_asked l D cA (ad (5 + 2 * j)) (ad (6 + 2 * j)) ((TT j).1) ((TT j).2.1) ((TT j).2.2.1) ((TT j).2.2.2.1) ((TT j).2.2.2.2.1) ((TT j).2.2.2.2.2.1) ((TT j).2.2.2.2.2.2.1) ((TT j).2.2.2.2.2.2.2.1) ((TT j).2.2.2.2.2.2.2.2.1) ((TT j).2.2.2.2.2.2.2.2.2) (ad 2) (ad 3) (ad 4) G.1 G.2.1 G.2.2.1 G.2.2.2.1 G.2.2.2.2 S hS40 hsz) (hP.sub [0, 1, 4, 5, 6] rfl) hP rfl rfl rfl kc_t_asked km_x_86 ki_t ks_t_asked ke_t_asked rfl ok_t_asked ⟨Nat.le_of_ble_eq_true rfl, Nat.le_of_ble_eq_true rfl⟩ ⟨Nat.zero_le _, Nat.zero_le _⟩ hl.1 rfl (Nat.le_of_ble_eq_true rfl) d_x_answer_22 ?_
        refine lv_istore (lv' := [(4, .int (f_t_asked ((TT j).2.2.2.2.2.2.1) ((TT j).2.2.2.2.2.2.2.1) ((TT j).2.2.2.2.2.2.2.2.2) G.2.1 G.2.2.1 G.2.2.2.1 G.2.2.2.2)), (3, .ref (ad (5 + 2 * j))), (0, .ref (ad 0)), (1, .int ta), (2, .int ou)]) hx hb d_x_answer_25 hl (by decide) rfl (fun ls hl => ?_)
        refine lv_iload hx hb d_x_answer_27 (lv_at hl 0 rfl) ?_
        refine lv_iconst (v := (-1)) hx hb d_x_answer_29 (by decide) ?_
        refine lv_icmp_ne (tgt := 35) hx hb d_x_answer_30 (by decide) (fun c4 => ?_) (fun c4 => ?_)
        · have c4 := c4
          refine lv_iload_n hx hb d_x_answer_35 rfl (lv_at hl 4 rfl) ?_
          refine lv_iconst (v := 2) hx hb d_x_answer_36 (by decide) ?_
          refine lv_icmp_ne (tgt := 49) hx hb d_x_answer_37 (by decide) (fun c5 => ?_) (fun c5 => ?_)
          · have c5 := c5
            refine lv_aload_n hx hb d_x_answer_49 rfl (lv_at hl 1 rfl) ?_
            refine lv_iload hx hb d_x_answer_50 (lv_at hl 0 rfl) ?_
            refine lv_iload_n hx hb d_x_answer_52 rfl (lv_at hl 4 rfl) ?_
            refine mu_V (As := [.int (f_t_asked ((TT j).2.2.2.2.2.2.1) ((TT j).2.2.2.2.2.2.2.1) ((TT j).2.2.2.2.2.2.2.2.2) G.2.1 G.2.2.1 G.2.2.2.1 G.2.2.2.2), .int ou]) (rest := []) (q0 := 0) FX hK (c_t_learn l D cA (ad (5 + 2 * j)) (ad (6 + 2 * j)) ((TT j).1) ((TT j).2.1) ((TT j).2.2.1) ((TT j).2.2.2.1) ((TT j).2.2.2.2.1) ((TT j).2.2.2.2.2.1) ((TT j).2.2.2.2.2.2.1) ((TT j).2.2.2.2.2.2.2.1) ((TT j).2.2.2.2.2.2.2.2.1) ((TT j).2.2.2.2.2.2.2.2.2) (ad 2) (ad 3) (ad 4) G.1 G.2.1 G.2.2.1 G.2.2.2.1 G.2.2.2.2 (f_t_asked ((TT j).2.2.2.2.2.2.1) ((TT j).2.2.2.2.2.2.2.1) ((TT j).2.2.2.2.2.2.2.2.2) G.2.1 G.2.2.1 G.2.2.2.1 G.2.2.2.2) ou) (hP.sub [0, 1, 4, 5, 6] rfl) (hD.sub [0, 1, 4, 5, 6] (by decide) rfl) hP rfl rfl rfl kc_t_learn km_x_93 ki_t ks_t_learn ke_t_learn rfl ok_t_learn ⟨Nat.le_of_ble_eq_true rfl, Nat.le_of_ble_eq_true rfl⟩ ⟨Nat.zero_le _, Nat.zero_le _⟩ hl.1 rfl (Nat.le_of_ble_eq_true rfl) d_x_answer_53 hS (fun q hq => aw_in hD [0, 1, 4, 5, 6] rfl q hq) (fun v0 H1 locs hv0 hz0 hk0 hS => ?_)
            obtain ⟨rfl, hP1, hD1⟩ := hv0
            obtain ⟨hP, hD⟩ := mu_join (wr := [(ad 0, .inr (0, [.ref (ad 2), .ref (ad 1), .int (nI nt)])), (ad 1, .inl (cA 1, 4, .inr (.inr (.inr (.inr (tvf ad nt))))))]) (w1 := [(ad (5 + 2 * j), .inr (2, [.ref (ad 2), .ref (ad (6 + 2 * j)), .long ((TT j).1), .long ((TT j).2.1), .int (bz (TT j).2.2.1), .int ((TT j).2.2.2.1), .int ((TT j).2.2.2.2.1), .int ((TT j).2.2.2.2.2.1), .int ((TT j).2.2.2.2.2.2.1), .int ((f_t_learn ((TT j).2.2.2.2.1) ((TT j).2.2.2.2.2.1) ((TT j).2.2.2.2.2.2.2.1) ((TT j).2.2.2.2.2.2.2.2.2) G.2.1 G.2.2.1 G.2.2.2.1 (f_t_asked ((TT j).2.2.2.2.2.2.1) ((TT j).2.2.2.2.2.2.2.1) ((TT j).2.2.2.2.2.2.2.2.2) G.2.1 G.2.2.1 G.2.2.2.1 G.2.2.2.2) ou).2.1), .int ((TT j).2.2.2.2.2.2.2.2.1)])), (ad (6 + 2 * j), .inl (cA 0, 40, .inr (.inl ((f_t_learn ((TT j).2.2.2.2.1) ((TT j).2.2.2.2.2.1) ((TT j).2.2.2.2.2.2.2.1) ((TT j).2.2.2.2.2.2.2.2.2) G.2.1 G.2.2.1 G.2.2.2.1 (f_t_asked ((TT j).2.2.2.2.2.2.1) ((TT j).2.2.2.2.2.2.2.1) ((TT j).2.2.2.2.2.2.2.2.2) G.2.1 G.2.2.1 G.2.2.2.1 G.2.2.2.2) ou).2.2)))), (ad 2, .inr (1, [.ref (ad 3), .ref (ad 4), .int G.2.2.1, .long ((f_t_learn ((TT j).2.2.2.2.1) ((TT j).2.2.2.2.2.1) ((TT j).2.2.2.2.2.2.2.1) ((TT j).2.2.2.2.2.2.2.2.2) G.2.1 G.2.2.1 G.2.2.2.1 (f_t_asked ((TT j).2.2.2.2.2.2.1) ((TT j).2.2.2.2.2.2.2.1) ((TT j).2.2.2.2.2.2.2.2.2) G.2.1 G.2.2.1 G.2.2.2.1 G.2.2.2.2) ou).1), .long G.2.2.2.2])), (ad 3, .inl (cA 0, 40, .inr (.inl G.1))), (ad 4, .inl (cA 0, 40, .inr (.inl G.2.1)))]) hP hD [0, 1, 4, 5, 6] [2, 3] rfl rfl (by decide) (by decide) hk0 hP1 hD1
            have hP : va_P D classes [(ad (5 + 2 * j), .inr (2, [.ref (ad 2), .ref (ad (6 + 2 * j)), .long ((TT j).1), .long ((TT j).2.1), .int (bz (TT j).2.2.1), .int ((TT j).2.2.2.1), .int ((TT j).2.2.2.2.1), .int ((TT j).2.2.2.2.2.1), .int ((TT j).2.2.2.2.2.2.1), .int ((f_t_learn ((TT j).2.2.2.2.1) ((TT j).2.2.2.2.2.1) ((TT j).2.2.2.2.2.2.2.1) ((TT j).2.2.2.2.2.2.2.2.2) G.2.1 G.2.2.1 G.2.2.2.1 (f_t_asked ((TT j).2.2.2.2.2.2.1) ((TT j).2.2.2.2.2.2.2.1) ((TT j).2.2.2.2.2.2.2.2.2) G.2.1 G.2.2.1 G.2.2.2.1 G.2.2.2.2) ou).2.1), .int ((TT j).2.2.2.2.2.2.2.2.1)])), (ad (6 + 2 * j), .inl (cA 0, 40, .inr (.inl ((f_t_learn ((TT j).2.2.2.2.1) ((TT j).2.2.2.2.2.1) ((TT j).2.2.2.2.2.2.2.1) ((TT j).2.2.2.2.2.2.2.2.2) G.2.1 G.2.2.1 G.2.2.2.1 (f_t_asked ((TT j).2.2.2.2.2.2.1) ((TT j).2.2.2.2.2.2.2.1) ((TT j).2.2.2.2.2.2.2.2.2) G.2.1 G.2.2.1 G.2.2.2.1 G.2.2.2.2) ou).2.2)))), (ad 0, .inr (0, [.ref (ad 2), .ref (ad 1), .int (nI nt)])), (ad 1, .inl (cA 1, 4, .inr (.inr (.inr (.inr (tvf ad nt)))))), (ad 2, .inr (1, [.ref (ad 3), .ref (ad 4), .int G.2.2.1, .long ((f_t_learn ((TT j).2.2.2.2.1) ((TT j).2.2.2.2.2.1) ((TT j).2.2.2.2.2.2.2.1) ((TT j).2.2.2.2.2.2.2.2.2) G.2.1 G.2.2.1 G.2.2.2.1 (f_t_asked ((TT j).2.2.2.2.2.2.1) ((TT j).2.2.2.2.2.2.2.1) ((TT j).2.2.2.2.2.2.2.2.2) G.2.1 G.2.2.1 G.2.2.2.1 G.2.2.2.2) ou).1), .long G.2.2.2.2])), (ad 3, .inl (cA 0, 40, .inr (.inl G.1))), (ad 4, .inl (cA 0, 40, .inr (.inl G.2.1)))] H1 := hP.sub [2, 3, 0, 1, 4, 5, 6] rfl
            have hD : va_D A [(ad (5 + 2 * j), .inr (2, [.ref (ad 2), .ref (ad (6 + 2 * j)), .long ((TT j).1), .long ((TT j).2.1), .int (bz (TT j).2.2.1), .int ((TT j).2.2.2.1), .int ((TT j).2.2.2.2.1), .int ((TT j).2.2.2.2.2.1), .int ((TT j).2.2.2.2.2.2.1), .int ((f_t_learn ((TT j).2.2.2.2.1) ((TT j).2.2.2.2.2.1) ((TT j).2.2.2.2.2.2.2.1) ((TT j).2.2.2.2.2.2.2.2.2) G.2.1 G.2.2.1 G.2.2.2.1 (f_t_asked ((TT j).2.2.2.2.2.2.1) ((TT j).2.2.2.2.2.2.2.1) ((TT j).2.2.2.2.2.2.2.2.2) G.2.1 G.2.2.1 G.2.2.2.1 G.2.2.2.2) ou).2.1), .int ((TT j).2.2.2.2.2.2.2.2.1)])), (ad (6 + 2 * j), .inl (cA 0, 40, .inr (.inl ((f_t_learn ((TT j).2.2.2.2.1) ((TT j).2.2.2.2.2.1) ((TT j).2.2.2.2.2.2.2.1) ((TT j).2.2.2.2.2.2.2.2.2) G.2.1 G.2.2.1 G.2.2.2.1 (f_t_asked ((TT j).2.2.2.2.2.2.1) ((TT j).2.2.2.2.2.2.2.1) ((TT j).2.2.2.2.2.2.2.2.2) G.2.1 G.2.2.1 G.2.2.2.1 G.2.2.2.2) ou).2.2)))), (ad 0, .inr (0, [.ref (ad 2), .ref (ad 1), .int (nI nt)])), (ad 1, .inl (cA 1, 4, .inr (.inr (.inr (.inr (tvf ad nt)))))), (ad 2, .inr (1, [.ref (ad 3), .ref (ad 4), .int G.2.2.1, .long ((f_t_learn ((TT j).2.2.2.2.1) ((TT j).2.2.2.2.2.1) ((TT j).2.2.2.2.2.2.2.1) ((TT j).2.2.2.2.2.2.2.2.2) G.2.1 G.2.2.1 G.2.2.2.1 (f_t_asked ((TT j).2.2.2.2.2.2.1) ((TT j).2.2.2.2.2.2.2.1) ((TT j).2.2.2.2.2.2.2.2.2) G.2.1 G.2.2.1 G.2.2.2.1 G.2.2.2.2) ou).1), .long G.2.2.2.2])), (ad 3, .inl (cA 0, 40, .inr (.inl G.1))), (ad 4, .inl (cA 0, 40, .inr (.inl G.2.1)))] := hD.sub [2, 3, 0, 1, 4, 5, 6] (by decide) rfl
            generalize H1 = H at hP hS ⊢
            refine W.eq (g2 := F0 m 56 ls []) rfl ?_
            refine lv_aload_n hx hb d_x_answer_56 rfl (lv_at hl 1 rfl) ?_
            refine ro_V (v := .int (f_t_standing ((TT j).2.2.2.2.2.2.1) ((f_t_learn ((TT j).2.2.2.2.1) ((TT j).2.2.2.2.2.1) ((TT j).2.2.2.2.2.2.2.1) ((TT j).2.2.2.2.2.2.2.2.2) G.2.1 G.2.2.1 G.2.2.2.1 (f_t_asked ((TT j).2.2.2.2.2.2.1) ((TT j).2.2.2.2.2.2.2.1) ((TT j).2.2.2.2.2.2.2.2.2) G.2.1 G.2.2.1 G.2.2.2.1 G.2.2.2.2) ou).2.1) ((f_t_learn ((TT j).2.2.2.2.1) ((TT j).2.2.2.2.2.1) ((TT j).2.2.2.2.2.2.2.1) ((TT j).2.2.2.2.2.2.2.2.2) G.2.1 G.2.2.1 G.2.2.2.1 (f_t_asked ((TT j).2.2.2.2.2.2.1) ((TT j).2.2.2.2.2.2.2.1) ((TT j).2.2.2.2.2.2.2.2.2) G.2.1 G.2.2.1 G.2.2.2.1 G.2.2.2.2) ou).2.2) G.2.1 G.2.2.1 ((f_t_learn ((TT j).2.2.2.2.1) ((TT j).2.2.2.2.2.1) ((TT j).2.2.2.2.2.2.2.1) ((TT j).2.2.2.2.2.2.2.2.2) G.2.1 G.2.2.1 G.2.2.2.1 (f_t_asked ((TT j).2.2.2.2.2.2.1) ((TT j).2.2.2.2.2.2.2.1) ((TT j).2.2.2.2.2.2.2.2.2) G.2.1 G.2.2.1 G.2.2.2.1 G.2.2.2.2) ou).1) G.2.2.2.2)) (As := []) (rest := []) (q0 := 0) FX hK (c_t_standing l D cA (ad (5 + 2 * j)) (ad (6 + 2 * j)) ((TT j).1) ((TT j).2.1) ((TT j).2.2.1) ((TT j).2.2.2.1) ((TT j).2.2.2.2.1) ((TT j).2.2.2.2.2.1) ((TT j).2.2.2.2.2.2.1) ((f_t_learn ((TT j).2.2.2.2.1) ((TT j).2.2.2.2.2.1) ((TT j).2.2.2.2.2.2.2.1) ((TT j).2.2.2.2.2.2.2.2.2) G.2.1 G.2.2.1 G.2.2.2.1 (f_t_asked ((TT j).2.2.2.2.2.2.1) ((TT j).2.2.2.2.2.2.2.1) ((TT j).2.2.2.2.2.2.2.2.2) G.2.1 G.2.2.1 G.2.2.2.1 G.2.2.2.2) ou).2.1) ((TT j).2.2.2.2.2.2.2.2.1) ((f_t_learn ((TT j).2.2.2.2.1) ((TT j).2.2.2.2.2.1) ((TT j).2.2.2.2.2.2.2.1) ((TT j).2.2.2.2.2.2.2.2.2) G.2.1 G.2.2.1 G.2.2.2.1 (f_t_asked ((TT j).2.2.2.2.2.2.1) ((TT j).2.2.2.2.2.2.2.1) ((TT j).2.2.2.2.2.2.2.2.2) G.2.1 G.2.2.1 G.2.2.2.1 G.2.2.2.2) ou).2.2) (ad 2) (ad 3) (ad 4) G.1 G.2.1 G.2.2.1 ((f_t_learn ((TT j).2.2.2.2.1) ((TT j).2.2.2.2.2.1) ((TT j).2.2.2.2.2.2.2.1) ((TT j).2.2.2.2.2.2.2.2.2) G.2.1 G.2.2.1 G.2.2.2.1 (f_t_asked ((TT j).2.2.2.2.2.2.1) ((TT j).2.2.2.2.2.2.2.1) ((TT j).2.2.2.2.2.2.2.2.2) G.2.1 G.2.2.1 G.2.2.2.1 G.2.2.2.2) ou).1) G.2.2.2.2 S hS40 hsz) (hP.sub [0, 1, 4, 5, 6] rfl) hP rfl rfl rfl kc_t_standing km_x_82 ki_t ks_t_standing ke_t_standing rfl ok_t_standing ⟨Nat.le_of_ble_eq_true rfl, Nat.le_of_ble_eq_true rfl⟩ ⟨Nat.zero_le _, Nat.zero_le _⟩ hl.1 rfl (Nat.le_of_ble_eq_true rfl) d_x_answer_57 ?_
            exact mu_iret FX (S_mono hS hoA) (by rw [show (f_x_answer nt G TT ta ou) = (f_t_standing ((TT j).2.2.2.2.2.2.1) ((f_t_learn ((TT j).2.2.2.2.1) ((TT j).2.2.2.2.2.1) ((TT j).2.2.2.2.2.2.2.1) ((TT j).2.2.2.2.2.2.2.2.2) G.2.1 G.2.2.1 G.2.2.2.1 (f_t_asked ((TT j).2.2.2.2.2.2.1) ((TT j).2.2.2.2.2.2.2.1) ((TT j).2.2.2.2.2.2.2.2.2) G.2.1 G.2.2.1 G.2.2.2.1 G.2.2.2.2) ou).2.1) ((f_t_learn ((TT j).2.2.2.2.1) ((TT j).2.2.2.2.2.1) ((TT j).2.2.2.2.2.2.2.1) ((TT j).2.2.2.2.2.2.2.2.2) G.2.1 G.2.2.1 G.2.2.2.1 (f_t_asked ((TT j).2.2.2.2.2.2.1) ((TT j).2.2.2.2.2.2.2.1) ((TT j).2.2.2.2.2.2.2.2.2) G.2.1 G.2.2.1 G.2.2.2.1 G.2.2.2.2) ou).2.2) G.2.1 G.2.2.1 ((f_t_learn ((TT j).2.2.2.2.1) ((TT j).2.2.2.2.2.1) ((TT j).2.2.2.2.2.2.2.1) ((TT j).2.2.2.2.2.2.2.2.2) G.2.1 G.2.2.1 G.2.2.2.1 (f_t_asked ((TT j).2.2.2.2.2.2.1) ((TT j).2.2.2.2.2.2.2.1) ((TT j).2.2.2.2.2.2.2.2.2) G.2.1 G.2.2.1 G.2.2.2.1 G.2.2.2.2) ou).1) G.2.2.2.2, (G.1, G.2.1, G.2.2.1, (f_t_learn ((TT j).2.2.2.2.1) ((TT j).2.2.2.2.2.1) ((TT j).2.2.2.2.2.2.2.1) ((TT j).2.2.2.2.2.2.2.2.2) G.2.1 G.2.2.1 G.2.2.2.1 (f_t_asked ((TT j).2.2.2.2.2.2.1) ((TT j).2.2.2.2.2.2.2.1) ((TT j).2.2.2.2.2.2.2.2.2) G.2.1 G.2.2.1 G.2.2.2.1 G.2.2.2.2) ou).1, G.2.2.2.2), va_up TT j ((TT j).1, (TT j).2.1, (TT j).2.2.1, (TT j).2.2.2.1, (TT j).2.2.2.2.1, (TT j).2.2.2.2.2.1, (TT j).2.2.2.2.2.2.1, (f_t_learn ((TT j).2.2.2.2.1) ((TT j).2.2.2.2.2.1) ((TT j).2.2.2.2.2.2.2.1) ((TT j).2.2.2.2.2.2.2.2.2) G.2.1 G.2.2.1 G.2.2.2.1 (f_t_asked ((TT j).2.2.2.2.2.2.1) ((TT j).2.2.2.2.2.2.2.1) ((TT j).2.2.2.2.2.2.2.2.2) G.2.1 G.2.2.1 G.2.2.2.1 G.2.2.2.2) ou).2.1, (TT j).2.2.2.2.2.2.2.2.1, (f_t_learn ((TT j).2.2.2.2.1) ((TT j).2.2.2.2.2.1) ((TT j).2.2.2.2.2.2.2.1) ((TT j).2.2.2.2.2.2.2.2.2) G.2.1 G.2.2.1 G.2.2.2.1 (f_t_asked ((TT j).2.2.2.2.2.2.1) ((TT j).2.2.2.2.2.2.2.1) ((TT j).2.2.2.2.2.2.2.2.2) G.2.1 G.2.2.1 G.2.2.2.1 G.2.2.2.2) ou).2.2)) from (by rw [f_x_answer, om_some hq1, if_neg c2, if_pos c3, if_neg c4, if_neg c5])]; exact ⟨rfl, wx_put7 (G' := (G.1, G.2.1, G.2.2.1, (f_t_learn ((TT j).2.2.2.2.1) ((TT j).2.2.2.2.2.1) ((TT j).2.2.2.2.2.2.2.1) ((TT j).2.2.2.2.2.2.2.2.2) G.2.1 G.2.2.1 G.2.2.2.1 (f_t_asked ((TT j).2.2.2.2.2.2.1) ((TT j).2.2.2.2.2.2.2.1) ((TT j).2.2.2.2.2.2.2.2.2) G.2.1 G.2.2.1 G.2.2.2.1 G.2.2.2.2) ou).1, G.2.2.2.2)) (T' := ((TT j).1, (TT j).2.1, (TT j).2.2.1, (TT j).2.2.2.1, (TT j).2.2.2.2.1, (TT j).2.2.2.2.2.1, (TT j).2.2.2.2.2.2.1, (f_t_learn ((TT j).2.2.2.2.1) ((TT j).2.2.2.2.2.1) ((TT j).2.2.2.2.2.2.2.1) ((TT j).2.2.2.2.2.2.2.2.2) G.2.1 G.2.2.1 G.2.2.2.1 (f_t_asked ((TT j).2.2.2.2.2.2.1) ((TT j).2.2.2.2.2.2.2.1) ((TT j).2.2.2.2.2.2.2.2.2) G.2.1 G.2.2.1 G.2.2.2.1 G.2.2.2.2) ou).2.1, (TT j).2.2.2.2.2.2.2.2.1, (f_t_learn ((TT j).2.2.2.2.1) ((TT j).2.2.2.2.2.1) ((TT j).2.2.2.2.2.2.2.1) ((TT j).2.2.2.2.2.2.2.2.2) G.2.1 G.2.2.1 G.2.2.2.1 (f_t_asked ((TT j).2.2.2.2.2.2.1) ((TT j).2.2.2.2.2.2.2.1) ((TT j).2.2.2.2.2.2.2.2.2) G.2.1 G.2.2.1 G.2.2.2.1 G.2.2.2.2) ou).2.2)) hW hinj hj hA hS hP⟩) d_x_answer_60
          · have c5 := c5
            refine lv_aload_n hx hb d_x_answer_40 rfl (lv_at hl 1 rfl) ?_
            refine lv_iload hx hb d_x_answer_41 (lv_at hl 0 rfl) ?_
            refine mu_V (As := [.int (f_t_asked ((TT j).2.2.2.2.2.2.1) ((TT j).2.2.2.2.2.2.2.1) ((TT j).2.2.2.2.2.2.2.2.2) G.2.1 G.2.2.1 G.2.2.2.1 G.2.2.2.2)]) (rest := []) (q0 := 0) FX hK (c_t_skip l D cA (ad (5 + 2 * j)) (ad (6 + 2 * j)) ((TT j).1) ((TT j).2.1) ((TT j).2.2.1) ((TT j).2.2.2.1) ((TT j).2.2.2.2.1) ((TT j).2.2.2.2.2.1) ((TT j).2.2.2.2.2.2.1) ((TT j).2.2.2.2.2.2.2.1) ((TT j).2.2.2.2.2.2.2.2.1) ((TT j).2.2.2.2.2.2.2.2.2) (ad 2) (ad 3) (ad 4) G.1 G.2.1 G.2.2.1 G.2.2.2.1 G.2.2.2.2 (f_t_asked ((TT j).2.2.2.2.2.2.1) ((TT j).2.2.2.2.2.2.2.1) ((TT j).2.2.2.2.2.2.2.2.2) G.2.1 G.2.2.1 G.2.2.2.1 G.2.2.2.2)) (hP.sub [0, 1, 4, 5, 6] rfl) (hD.sub [0, 1, 4, 5, 6] (by decide) rfl) hP rfl rfl rfl kc_t_skip km_x_89 ki_t ks_t_skip ke_t_skip rfl ok_t_skip ⟨Nat.le_of_ble_eq_true rfl, Nat.le_of_ble_eq_true rfl⟩ ⟨Nat.zero_le _, Nat.zero_le _⟩ hl.1 rfl (Nat.le_of_ble_eq_true rfl) d_x_answer_43 hS (fun q hq => aw_in hD [0, 1, 4, 5, 6] rfl q hq) (fun v0 H1 locs hv0 hz0 hk0 hS => ?_)
            obtain ⟨rfl, hP1, hD1⟩ := hv0
            obtain ⟨hP, hD⟩ := mu_join (wr := [(ad 0, .inr (0, [.ref (ad 2), .ref (ad 1), .int (nI nt)])), (ad 1, .inl (cA 1, 4, .inr (.inr (.inr (.inr (tvf ad nt))))))]) (w1 := [(ad (5 + 2 * j), .inr (2, [.ref (ad 2), .ref (ad (6 + 2 * j)), .long ((TT j).1), .long ((TT j).2.1), .int (bz (TT j).2.2.1), .int ((TT j).2.2.2.1), .int ((TT j).2.2.2.2.1), .int ((TT j).2.2.2.2.2.1), .int ((TT j).2.2.2.2.2.2.1), .int ((TT j).2.2.2.2.2.2.2.1), .int ((f_t_skip ((TT j).2.2.2.2.2.2.2.2.1) G.2.2.2.2 (f_t_asked ((TT j).2.2.2.2.2.2.1) ((TT j).2.2.2.2.2.2.2.1) ((TT j).2.2.2.2.2.2.2.2.2) G.2.1 G.2.2.1 G.2.2.2.1 G.2.2.2.2)).2)])), (ad (6 + 2 * j), .inl (cA 0, 40, .inr (.inl ((TT j).2.2.2.2.2.2.2.2.2)))), (ad 2, .inr (1, [.ref (ad 3), .ref (ad 4), .int G.2.2.1, .long G.2.2.2.1, .long ((f_t_skip ((TT j).2.2.2.2.2.2.2.2.1) G.2.2.2.2 (f_t_asked ((TT j).2.2.2.2.2.2.1) ((TT j).2.2.2.2.2.2.2.1) ((TT j).2.2.2.2.2.2.2.2.2) G.2.1 G.2.2.1 G.2.2.2.1 G.2.2.2.2)).1)])), (ad 3, .inl (cA 0, 40, .inr (.inl G.1))), (ad 4, .inl (cA 0, 40, .inr (.inl G.2.1)))]) hP hD [0, 1, 4, 5, 6] [2, 3] rfl rfl (by decide) (by decide) hk0 hP1 hD1
            have hP : va_P D classes [(ad (5 + 2 * j), .inr (2, [.ref (ad 2), .ref (ad (6 + 2 * j)), .long ((TT j).1), .long ((TT j).2.1), .int (bz (TT j).2.2.1), .int ((TT j).2.2.2.1), .int ((TT j).2.2.2.2.1), .int ((TT j).2.2.2.2.2.1), .int ((TT j).2.2.2.2.2.2.1), .int ((TT j).2.2.2.2.2.2.2.1), .int ((f_t_skip ((TT j).2.2.2.2.2.2.2.2.1) G.2.2.2.2 (f_t_asked ((TT j).2.2.2.2.2.2.1) ((TT j).2.2.2.2.2.2.2.1) ((TT j).2.2.2.2.2.2.2.2.2) G.2.1 G.2.2.1 G.2.2.2.1 G.2.2.2.2)).2)])), (ad (6 + 2 * j), .inl (cA 0, 40, .inr (.inl ((TT j).2.2.2.2.2.2.2.2.2)))), (ad 0, .inr (0, [.ref (ad 2), .ref (ad 1), .int (nI nt)])), (ad 1, .inl (cA 1, 4, .inr (.inr (.inr (.inr (tvf ad nt)))))), (ad 2, .inr (1, [.ref (ad 3), .ref (ad 4), .int G.2.2.1, .long G.2.2.2.1, .long ((f_t_skip ((TT j).2.2.2.2.2.2.2.2.1) G.2.2.2.2 (f_t_asked ((TT j).2.2.2.2.2.2.1) ((TT j).2.2.2.2.2.2.2.1) ((TT j).2.2.2.2.2.2.2.2.2) G.2.1 G.2.2.1 G.2.2.2.1 G.2.2.2.2)).1)])), (ad 3, .inl (cA 0, 40, .inr (.inl G.1))), (ad 4, .inl (cA 0, 40, .inr (.inl G.2.1)))] H1 := hP.sub [2, 3, 0, 1, 4, 5, 6] rfl
            have hD : va_D A [(ad (5 + 2 * j), .inr (2, [.ref (ad 2), .ref (ad (6 + 2 * j)), .long ((TT j).1), .long ((TT j).2.1), .int (bz (TT j).2.2.1), .int ((TT j).2.2.2.1), .int ((TT j).2.2.2.2.1), .int ((TT j).2.2.2.2.2.1), .int ((TT j).2.2.2.2.2.2.1), .int ((TT j).2.2.2.2.2.2.2.1), .int ((f_t_skip ((TT j).2.2.2.2.2.2.2.2.1) G.2.2.2.2 (f_t_asked ((TT j).2.2.2.2.2.2.1) ((TT j).2.2.2.2.2.2.2.1) ((TT j).2.2.2.2.2.2.2.2.2) G.2.1 G.2.2.1 G.2.2.2.1 G.2.2.2.2)).2)])), (ad (6 + 2 * j), .inl (cA 0, 40, .inr (.inl ((TT j).2.2.2.2.2.2.2.2.2)))), (ad 0, .inr (0, [.ref (ad 2), .ref (ad 1), .int (nI nt)])), (ad 1, .inl (cA 1, 4, .inr (.inr (.inr (.inr (tvf ad nt)))))), (ad 2, .inr (1, [.ref (ad 3), .ref (ad 4), .int G.2.2.1, .long G.2.2.2.1, .long ((f_t_skip ((TT j).2.2.2.2.2.2.2.2.1) G.2.2.2.2 (f_t_asked ((TT j).2.2.2.2.2.2.1) ((TT j).2.2.2.2.2.2.2.1) ((TT j).2.2.2.2.2.2.2.2.2) G.2.1 G.2.2.1 G.2.2.2.1 G.2.2.2.2)).1)])), (ad 3, .inl (cA 0, 40, .inr (.inl G.1))), (ad 4, .inl (cA 0, 40, .inr (.inl G.2.1)))] := hD.sub [2, 3, 0, 1, 4, 5, 6] (by decide) rfl
            generalize H1 = H at hP hS ⊢
            refine W.eq (g2 := F0 m 46 ls []) rfl ?_
            refine lv_goto (tgt := 56) hx hb d_x_answer_46 (by decide) ?_
            refine lv_aload_n hx hb d_x_answer_56 rfl (lv_at hl 1 rfl) ?_
            refine ro_V (v := .int (f_t_standing ((TT j).2.2.2.2.2.2.1) ((TT j).2.2.2.2.2.2.2.1) ((TT j).2.2.2.2.2.2.2.2.2) G.2.1 G.2.2.1 G.2.2.2.1 ((f_t_skip ((TT j).2.2.2.2.2.2.2.2.1) G.2.2.2.2 (f_t_asked ((TT j).2.2.2.2.2.2.1) ((TT j).2.2.2.2.2.2.2.1) ((TT j).2.2.2.2.2.2.2.2.2) G.2.1 G.2.2.1 G.2.2.2.1 G.2.2.2.2)).1))) (As := []) (rest := []) (q0 := 0) FX hK (c_t_standing l D cA (ad (5 + 2 * j)) (ad (6 + 2 * j)) ((TT j).1) ((TT j).2.1) ((TT j).2.2.1) ((TT j).2.2.2.1) ((TT j).2.2.2.2.1) ((TT j).2.2.2.2.2.1) ((TT j).2.2.2.2.2.2.1) ((TT j).2.2.2.2.2.2.2.1) ((f_t_skip ((TT j).2.2.2.2.2.2.2.2.1) G.2.2.2.2 (f_t_asked ((TT j).2.2.2.2.2.2.1) ((TT j).2.2.2.2.2.2.2.1) ((TT j).2.2.2.2.2.2.2.2.2) G.2.1 G.2.2.1 G.2.2.2.1 G.2.2.2.2)).2) ((TT j).2.2.2.2.2.2.2.2.2) (ad 2) (ad 3) (ad 4) G.1 G.2.1 G.2.2.1 G.2.2.2.1 ((f_t_skip ((TT j).2.2.2.2.2.2.2.2.1) G.2.2.2.2 (f_t_asked ((TT j).2.2.2.2.2.2.1) ((TT j).2.2.2.2.2.2.2.1) ((TT j).2.2.2.2.2.2.2.2.2) G.2.1 G.2.2.1 G.2.2.2.1 G.2.2.2.2)).1) S hS40 hsz) (hP.sub [0, 1, 4, 5, 6] rfl) hP rfl rfl rfl kc_t_standing km_x_82 ki_t ks_t_standing ke_t_standing rfl ok_t_standing ⟨Nat.le_of_ble_eq_true rfl, Nat.le_of_ble_eq_true rfl⟩ ⟨Nat.zero_le _, Nat.zero_le _⟩ hl.1 rfl (Nat.le_of_ble_eq_true rfl) d_x_answer_57 ?_
            exact mu_iret FX (S_mono hS hoA) (by rw [show (f_x_answer nt G TT ta ou) = (f_t_standing ((TT j).2.2.2.2.2.2.1) ((TT j).2.2.2.2.2.2.2.1) ((TT j).2.2.2.2.2.2.2.2.2) G.2.1 G.2.2.1 G.2.2.2.1 ((f_t_skip ((TT j).2.2.2.2.2.2.2.2.1) G.2.2.2.2 (f_t_asked ((TT j).2.2.2.2.2.2.1) ((TT j).2.2.2.2.2.2.2.1) ((TT j).2.2.2.2.2.2.2.2.2) G.2.1 G.2.2.1 G.2.2.2.1 G.2.2.2.2)).1), (G.1, G.2.1, G.2.2.1, G.2.2.2.1, (f_t_skip ((TT j).2.2.2.2.2.2.2.2.1) G.2.2.2.2 (f_t_asked ((TT j).2.2.2.2.2.2.1) ((TT j).2.2.2.2.2.2.2.1) ((TT j).2.2.2.2.2.2.2.2.2) G.2.1 G.2.2.1 G.2.2.2.1 G.2.2.2.2)).1), va_up TT j ((TT j).1, (TT j).2.1, (TT j).2.2.1, (TT j).2.2.2.1, (TT j).2.2.2.2.1, (TT j).2.2.2.2.2.1, (TT j).2.2.2.2.2.2.1, (TT j).2.2.2.2.2.2.2.1, (f_t_skip ((TT j).2.2.2.2.2.2.2.2.1) G.2.2.2.2 (f_t_asked ((TT j).2.2.2.2.2.2.1) ((TT j).2.2.2.2.2.2.2.1) ((TT j).2.2.2.2.2.2.2.2.2) G.2.1 G.2.2.1 G.2.2.2.1 G.2.2.2.2)).2, (TT j).2.2.2.2.2.2.2.2.2)) from (by rw [f_x_answer, om_some hq1, if_neg c2, if_pos c3, if_neg c4, if_pos c5])]; exact ⟨rfl, wx_put7 (G' := (G.1, G.2.1, G.2.2.1, G.2.2.2.1, (f_t_skip ((TT j).2.2.2.2.2.2.2.2.1) G.2.2.2.2 (f_t_asked ((TT j).2.2.2.2.2.2.1) ((TT j).2.2.2.2.2.2.2.1) ((TT j).2.2.2.2.2.2.2.2.2) G.2.1 G.2.2.1 G.2.2.2.1 G.2.2.2.2)).1)) (T' := ((TT j).1, (TT j).2.1, (TT j).2.2.1, (TT j).2.2.2.1, (TT j).2.2.2.2.1, (TT j).2.2.2.2.2.1, (TT j).2.2.2.2.2.2.1, (TT j).2.2.2.2.2.2.2.1, (f_t_skip ((TT j).2.2.2.2.2.2.2.2.1) G.2.2.2.2 (f_t_asked ((TT j).2.2.2.2.2.2.1) ((TT j).2.2.2.2.2.2.2.1) ((TT j).2.2.2.2.2.2.2.2.2) G.2.1 G.2.2.1 G.2.2.2.1 G.2.2.2.2)).2, (TT j).2.2.2.2.2.2.2.2.2)) hW hinj hj hA hS hP⟩) d_x_answer_60
        · have c4 := c4
          refine lv_iconst (v := (-1)) hx hb d_x_answer_33 (by decide) ?_
          exact mu_iret FX va_S.rf (by rw [show (f_x_answer nt G TT ta ou) = ((-1), G, TT) from (by rw [f_x_answer, om_some hq1, if_neg c2, if_pos c3, if_pos c4])]; exact ⟨rfl, hW⟩) d_x_answer_34
      · have c3 := c3
        refine lv_iconst (v := (-1)) hx hb d_x_answer_19 (by decide) ?_
        exact mu_iret FX va_S.rf (by rw [show (f_x_answer nt G TT ta ou) = ((-1), G, TT) from (by rw [f_x_answer, om_some hq1, if_neg c2, if_neg c3])]; exact ⟨rfl, hW⟩) d_x_answer_20
theorem wx_lt {D : va_G} {cA : Nat → ClassId} {ad : Nat → Nat} {nt : Nat} {G : GS} {TT : Nat → TS} {H : Heap} (hW : WX D cA ad nt G TT H) : ∀ i, i < 5 + 2 * nt → ad i < H.size := by
  intro i hi
  by_cases h5 : i < 5
  · rcases (show i = 0 ∨ i = 1 ∨ i = 2 ∨ i = 3 ∨ i = 4 by omega) with rfl | rfl | rfl | rfl | rfl
    · exact (hW.1 0 _ rfl).lt
    · exact (hW.1 1 _ rfl).lt
    · exact (hW.1 2 _ rfl).lt
    · exact (hW.1 3 _ rfl).lt
    · exact (hW.1 4 _ rfl).lt
  · obtain ⟨j, hj⟩ : ∃ j, i = 5 + 2 * j ∨ i = 6 + 2 * j := ⟨(i - 5) / 2, by omega⟩
    rcases hj with rfl | rfl
    · exact (hW.2 j (by omega) 0 _ rfl).lt
    · exact (hW.2 j (by omega) 1 _ rfl).lt
def adn (ad : Nat → Nat) (nt q1 q2 : Nat) : Nat → Nat := fun i => if i = 5 + 2 * nt then q1 else if i = 6 + 2 * nt then q2 else ad i
theorem adn_old {ad : Nat → Nat} {nt q1 q2 i : Nat} (h : i < 5 + 2 * nt) : adn ad nt q1 q2 i = ad i := by
  unfold adn
  rw [if_neg (by omega), if_neg (by omega)]
theorem adn_1 {ad : Nat → Nat} {nt q1 q2 : Nat} : adn ad nt q1 q2 (5 + 2 * nt) = q1 := by
  unfold adn
  rw [if_pos rfl]
theorem adn_2 {ad : Nat → Nat} {nt q1 q2 : Nat} : adn ad nt q1 q2 (6 + 2 * nt) = q2 := by
  unfold adn
  rw [if_neg (by omega), if_pos rfl]
theorem tvf_new {ad : Nat → Nat} {nt q1 q2 : Nat} : tvf (adn ad nt q1 q2) (nt + 1) = va_up (tvf ad nt) nt (some q1) := by
  funext k
  unfold tvf va_up
  by_cases h : k = nt
  · subst h
    rw [if_pos (Nat.lt_succ_self k), if_pos rfl, adn_1]
  · rw [if_neg h]
    show _ = (if k < nt then some (ad (5 + 2 * k)) else none)
    by_cases h2 : k < nt
    · rw [if_pos (by omega), if_pos h2, adn_old (by omega)]
    · rw [if_neg (by omega), if_neg h2]
theorem wx_new {D : va_G} {cA : Nat → ClassId} {ad : Nat → Nat} {nt : Nat} {G : GS} {TT : Nat → TS} {H0 H : Heap} {locs : List Loc} {A : Nat → Prop} {q1 q2 : Nat} (hW : WX D cA ad nt G TT H0) (hinj : adX ad nt) (hA : A = va_A (cX cA ad nt G) H0.size) (h4 : nI nt < 4) (hnt : nt ≤ 4) (hS : va_S A H0 H locs)
    (hP : va_P D classes [(ad 0, .inr (0, [.ref (ad 2), .ref (ad 1), .int (nI nt + 1)])), (ad 1, .inl (cA 1, 4, .inr (.inr (.inr (.inr (va_up (tvf ad nt) (nI nt).toNatClampNeg (some q1))))))), (ad 2, .inr (1, [.ref (ad 3), .ref (ad 4), .int G.2.2.1, .long G.2.2.2.1, .long G.2.2.2.2])), (ad 3, .inl (cA 0, 40, .inr (.inl G.1))), (ad 4, .inl (cA 0, 40, .inr (.inl G.2.1))), (q1, .inr (2, [.ref (ad 2), .ref q2, .long 0, .long 0, .int (bz false), .int (-1), .int 0, .int 1, .int 100, .int 0, .int 0])), (q2, .inl (cA 0, 40, .inr (.inl (fun _ => 0))))] H)
    (hD : va_D A [(ad 0, .inr (0, [.ref (ad 2), .ref (ad 1), .int (nI nt + 1)])), (ad 1, .inl (cA 1, 4, .inr (.inr (.inr (.inr (va_up (tvf ad nt) (nI nt).toNatClampNeg (some q1))))))), (ad 2, .inr (1, [.ref (ad 3), .ref (ad 4), .int G.2.2.1, .long G.2.2.2.1, .long G.2.2.2.2])), (ad 3, .inl (cA 0, 40, .inr (.inl G.1))), (ad 4, .inl (cA 0, 40, .inr (.inl G.2.1))), (q1, .inr (2, [.ref (ad 2), .ref q2, .long 0, .long 0, .int (bz false), .int (-1), .int 0, .int 1, .int 100, .int 0, .int 0])), (q2, .inl (cA 0, 40, .inr (.inl (fun _ => 0))))]) :
    ∃ ad' : Nat → Nat, (∀ q, ox ad' (nt + 1) q → ox ad nt q ∨ H0.size ≤ q) ∧ ad' 0 = ad 0 ∧ adX ad' (nt + 1) ∧ WX D cA ad' (nt + 1) G (va_up TT nt (0, 0, false, (-1), 0, 1, 100, 0, 0, fun _ => 0)) H := by
  subst hA
  have hc : (nI nt).toNatClampNeg = nt := nI_clamp (by omega)
  have hlt := wx_lt hW
  have notin : ∀ q, va_A (cX cA ad nt G) H0.size q → (∀ i, i < 5 → ad i ≠ q) → H0.size ≤ q := by
    intro q h hn
    rcases h with h | h
    · have h' : aw (cX cA ad nt G) q := h
      rw [aw_iff] at h'
      simp only [List.map_cons, List.map_nil, List.mem_cons, List.not_mem_nil, or_false] at h'
      rcases h' with h' | h' | h' | h' | h'
      · exact absurd h'.symm (hn 0 (by omega))
      · exact absurd h'.symm (hn 1 (by omega))
      · exact absurd h'.symm (hn 2 (by omega))
      · exact absurd h'.symm (hn 3 (by omega))
      · exact absurd h'.symm (hn 4 (by omega))
    · exact h
  have hn1 : ∀ i, i < 5 → ad i ≠ q1 := by
    intro i hi e
    rcases (show i = 0 ∨ i = 1 ∨ i = 2 ∨ i = 3 ∨ i = 4 by omega) with rfl | rfl | rfl | rfl | rfl
    · exact absurd (hD.1 0 5 _ _ rfl rfl e) (by decide)
    · exact absurd (hD.1 1 5 _ _ rfl rfl e) (by decide)
    · exact absurd (hD.1 2 5 _ _ rfl rfl e) (by decide)
    · exact absurd (hD.1 3 5 _ _ rfl rfl e) (by decide)
    · exact absurd (hD.1 4 5 _ _ rfl rfl e) (by decide)
  have hn2 : ∀ i, i < 5 → ad i ≠ q2 := by
    intro i hi e
    rcases (show i = 0 ∨ i = 1 ∨ i = 2 ∨ i = 3 ∨ i = 4 by omega) with rfl | rfl | rfl | rfl | rfl
    · exact absurd (hD.1 0 6 _ _ rfl rfl e) (by decide)
    · exact absurd (hD.1 1 6 _ _ rfl rfl e) (by decide)
    · exact absurd (hD.1 2 6 _ _ rfl rfl e) (by decide)
    · exact absurd (hD.1 3 6 _ _ rfl rfl e) (by decide)
    · exact absurd (hD.1 4 6 _ _ rfl rfl e) (by decide)
  have hn12 : q1 ≠ q2 := fun e => absurd (hD.1 5 6 _ _ rfl rfl e) (by decide)
  have g1 : H0.size ≤ q1 := notin q1 (hD.2 5 _ rfl) hn1
  have g2 : H0.size ≤ q2 := notin q2 (hD.2 6 _ rfl) hn2
  refine ⟨adn ad nt q1 q2, fun q h => ?_, adn_old (by omega), fun i j hi hj e => ?_, ?_, fun j hj => ?_⟩
  · obtain ⟨i, hi, rfl⟩ := h
    by_cases h1 : i = 5 + 2 * nt
    · subst h1; rw [adn_1]; exact Or.inr g1
    · by_cases h2 : i = 6 + 2 * nt
      · subst h2; rw [adn_2]; exact Or.inr g2
      · rw [adn_old (by omega)]; exact Or.inl ⟨i, by omega, rfl⟩
  · by_cases i1 : i = 5 + 2 * nt
    · subst i1
      rw [adn_1] at e
      by_cases j1 : j = 5 + 2 * nt
      · exact j1.symm
      · by_cases j2 : j = 6 + 2 * nt
        · subst j2; rw [adn_2] at e; exact absurd e hn12
        · rw [adn_old (by omega)] at e
          have := hlt j (by omega)
          omega
    · by_cases i2 : i = 6 + 2 * nt
      · subst i2
        rw [adn_2] at e
        by_cases j1 : j = 5 + 2 * nt
        · subst j1; rw [adn_1] at e; exact absurd e.symm hn12
        · by_cases j2 : j = 6 + 2 * nt
          · exact j2.symm
          · rw [adn_old (by omega)] at e
            have := hlt j (by omega)
            omega
      · rw [adn_old (by omega)] at e
        have := hlt i (by omega)
        by_cases j1 : j = 5 + 2 * nt
        · subst j1; rw [adn_1] at e; omega
        · by_cases j2 : j = 6 + 2 * nt
          · subst j2; rw [adn_2] at e; omega
          · rw [adn_old (by omega)] at e
            exact hinj i j (by omega) (by omega) e
  · have h0 := hP.sub (ws' := [(ad 0, .inr (0, [.ref (ad 2), .ref (ad 1), .int (nI nt + 1)])), (ad 1, .inl (cA 1, 4, .inr (.inr (.inr (.inr (va_up (tvf ad nt) (nI nt).toNatClampNeg (some q1))))))), (ad 2, .inr (1, [.ref (ad 3), .ref (ad 4), .int G.2.2.1, .long G.2.2.2.1, .long G.2.2.2.2])), (ad 3, .inl (cA 0, 40, .inr (.inl G.1))), (ad 4, .inl (cA 0, 40, .inr (.inl G.2.1)))]) [0, 1, 2, 3, 4] rfl
    rw [hc, nI_1, ← tvf_new (q2 := q2)] at h0
    show va_P D classes (cX cA (adn ad nt q1 q2) (nt + 1) G) H
    unfold cX
    rw [adn_old (i := 0) (by omega), adn_old (i := 1) (by omega), adn_old (i := 2) (by omega), adn_old (i := 3) (by omega), adn_old (i := 4) (by omega)]
    exact h0
  · by_cases hjn : j = nt
    · subst hjn
      rw [va_up_self]
      unfold cT
      rw [adn_1, adn_2, adn_old (i := 2) (by omega)]
      exact hP.sub [5, 6] rfl
    · rw [va_up_ne _ _ hjn]
      have hj' : j < nt := by omega
      unfold cT
      rw [adn_old (i := 2) (by omega), adn_old (i := 5 + 2 * j) (by omega), adn_old (i := 6 + 2 * j) (by omega)]
      refine (hW.2 j hj').kept (fun a q hq => ?_)
      have hq0 := (hW.2 j hj' a q hq).lt
      refine hS.2.1 q.1 hq0 (fun h => ?_)
      have e : ∃ i, (i = 5 + 2 * j ∨ i = 6 + 2 * j) ∧ q.1 = ad i := by
        match a, hq with
        | 0, hq => cases hq; exact ⟨_, Or.inl rfl, rfl⟩
        | 1, hq => cases hq; exact ⟨_, Or.inr rfl, rfl⟩
        | a + 2, hq => simp at hq
      obtain ⟨i, hi, e⟩ := e
      have := notin q.1 h (fun k hk e2 => by
        rw [e] at e2
        have := hinj k i (by omega) (by omega) e2
        omega)
      omega
theorem d_x_target_0 : decode b_x_target 0 = .ok (.aload_n 0, 1) := by decide +kernel
theorem d_x_target_1 : decode b_x_target 1 = .ok (.getfield 22, 3) := by decide +kernel
theorem d_x_target_4 : decode b_x_target 4 = .ok (.ifCond .lt 15, 3) := by decide +kernel
theorem d_x_target_7 : decode b_x_target 7 = .ok (.aload_n 0, 1) := by decide +kernel
theorem d_x_target_8 : decode b_x_target 8 = .ok (.getfield 22, 3) := by decide +kernel
theorem d_x_target_11 : decode b_x_target 11 = .ok (.aload_n 0, 1) := by decide +kernel
theorem d_x_target_12 : decode b_x_target 12 = .ok (.getfield 18, 3) := by decide +kernel
theorem d_x_target_15 : decode b_x_target 15 = .ok (.arraylength, 1) := by decide +kernel
theorem d_x_target_16 : decode b_x_target 16 = .ok (.if_icmp .lt 5, 3) := by decide +kernel
theorem d_x_target_19 : decode b_x_target 19 = .ok (.iconst (-1), 1) := by decide +kernel
theorem d_x_target_20 : decode b_x_target 20 = .ok (.ireturn, 1) := by decide +kernel
theorem d_x_target_21 : decode b_x_target 21 = .ok (.aload_n 0, 1) := by decide +kernel
theorem d_x_target_22 : decode b_x_target 22 = .ok (.getfield 22, 3) := by decide +kernel
theorem d_x_target_25 : decode b_x_target 25 = .ok (.istore_n 1, 1) := by decide +kernel
theorem d_x_target_26 : decode b_x_target 26 = .ok (.aload_n 0, 1) := by decide +kernel
theorem d_x_target_27 : decode b_x_target 27 = .ok (.getfield 18, 3) := by decide +kernel
theorem d_x_target_30 : decode b_x_target 30 = .ok (.iload_n 1, 1) := by decide +kernel
theorem d_x_target_31 : decode b_x_target 31 = .ok (.new 16, 3) := by decide +kernel
theorem d_x_target_34 : decode b_x_target 34 = .ok (.dup, 1) := by decide +kernel
theorem d_x_target_35 : decode b_x_target 35 = .ok (.aload_n 0, 1) := by decide +kernel
theorem d_x_target_36 : decode b_x_target 36 = .ok (.getfield 10, 3) := by decide +kernel
theorem d_x_target_39 : decode b_x_target 39 = .ok (.invokespecial 48, 3) := by decide +kernel
theorem d_x_target_42 : decode b_x_target 42 = .ok (.aastore, 1) := by decide +kernel
theorem d_x_target_43 : decode b_x_target 43 = .ok (.aload_n 0, 1) := by decide +kernel
theorem d_x_target_44 : decode b_x_target 44 = .ok (.dup, 1) := by decide +kernel
theorem d_x_target_45 : decode b_x_target 45 = .ok (.getfield 22, 3) := by decide +kernel
theorem d_x_target_48 : decode b_x_target 48 = .ok (.iconst 1, 1) := by decide +kernel
theorem d_x_target_49 : decode b_x_target 49 = .ok (.iadd, 1) := by decide +kernel
theorem d_x_target_50 : decode b_x_target 50 = .ok (.putfield 22, 3) := by decide +kernel
theorem d_x_target_53 : decode b_x_target 53 = .ok (.iload_n 1, 1) := by decide +kernel
theorem d_x_target_54 : decode b_x_target 54 = .ok (.ireturn, 1) := by decide +kernel
def f_x_target (nt : Nat) (TT : Nat → TS) : Int32 × Nat × (Nat → TS) := if (nI nt) < 0 then
    (((-1), nt, TT))
  else
    (if (nI nt) < 4 then
      ((nI nt, nt + 1, va_up TT nt (0, 0, false, (-1), 0, 1, 100, 0, 0, fun _ => 0)))
    else
      (((-1), nt, TT)))
set_option maxHeartbeats 4000000 in
set_option maxRecDepth 100000 in
theorem c_x_target (l : Launch) (D : va_G) (cA : Nat → ClassId) (ad : Nat → Nat) (nt : Nat) (G : GS) (TT : Nat → TS) (sz : Nat) (hnt : nt ≤ 4) (hinj : adX ad nt) : Met l y_x_target (.code y_x_target b_x_target 2 (some .int) :: tb) (rma 2 2 51) (Pro D cA [.ref (ad 0)] (fun H0 => H0.size = sz ∧ WX D cA ad nt G TT H0)) (Qmu (fun q => ox ad nt q ∨ sz ≤ q) (fun v0 H0 => v0 = some (.int (f_x_target nt TT).1) ∧ ∃ ad' : Nat → Nat, (∀ q, ox ad' (f_x_target nt TT).2.1 q → ox ad nt q ∨ sz ≤ q) ∧ ad' 0 = ad 0 ∧ adX ad' (f_x_target nt TT).2.1 ∧ WX D cA ad' (f_x_target nt TT).2.1 G (f_x_target nt TT).2.2 H0)) 2 51 (fun q => ox ad nt q ∨ sz ≤ q) := by
  refine ro_in (by decide) (Nat.le_of_ble_eq_true rfl) (fun p e s m below meth c ls FX hnm hK hW hl => ?_)
  have hl : lv_has ls 2 [(0, .ref (ad 0))] := hl
  obtain ⟨hsz, hW⟩ := hW
  subst hsz
  have hP : va_P D classes [(ad 0, .inr (0, [.ref (ad 2), .ref (ad 1), .int (nI nt)])), (ad 1, .inl (cA 1, 4, .inr (.inr (.inr (.inr (tvf ad nt)))))), (ad 2, .inr (1, [.ref (ad 3), .ref (ad 4), .int G.2.2.1, .long G.2.2.2.1, .long G.2.2.2.2])), (ad 3, .inl (cA 0, 40, .inr (.inl G.1))), (ad 4, .inl (cA 0, 40, .inr (.inl G.2.1)))] s.heap := hW.1
  have hD : va_D (va_A [(ad 0, .inr (0, [.ref (ad 2), .ref (ad 1), .int (nI nt)])), (ad 1, .inl (cA 1, 4, .inr (.inr (.inr (.inr (tvf ad nt)))))), (ad 2, .inr (1, [.ref (ad 3), .ref (ad 4), .int G.2.2.1, .long G.2.2.2.1, .long G.2.2.2.2])), (ad 3, .inl (cA 0, 40, .inr (.inl G.1))), (ad 4, .inl (cA 0, 40, .inr (.inl G.2.1)))] s.heap.size) [(ad 0, .inr (0, [.ref (ad 2), .ref (ad 1), .int (nI nt)])), (ad 1, .inl (cA 1, 4, .inr (.inr (.inr (.inr (tvf ad nt)))))), (ad 2, .inr (1, [.ref (ad 3), .ref (ad 4), .int G.2.2.1, .long G.2.2.2.1, .long G.2.2.2.2])), (ad 3, .inl (cA 0, 40, .inr (.inl G.1))), (ad 4, .inl (cA 0, 40, .inr (.inl G.2.1)))] := (wx_d5 hinj (G := G)).self
  have hoA : ∀ q, va_A [(ad 0, .inr (0, [.ref (ad 2), .ref (ad 1), .int (nI nt)])), (ad 1, .inl (cA 1, 4, .inr (.inr (.inr (.inr (tvf ad nt)))))), (ad 2, .inr (1, [.ref (ad 3), .ref (ad 4), .int G.2.2.1, .long G.2.2.2.1, .long G.2.2.2.2])), (ad 3, .inl (cA 0, 40, .inr (.inl G.1))), (ad 4, .inl (cA 0, 40, .inr (.inl G.2.1)))] s.heap.size q → (ox ad nt q ∨ s.heap.size ≤ q) := fun q h => h.elim (fun h => Or.inl (ox_5 (G := G) q h)) Or.inr
  obtain ⟨A, hA7⟩ : ∃ A, A = va_A [(ad 0, .inr (0, [.ref (ad 2), .ref (ad 1), .int (nI nt)])), (ad 1, .inl (cA 1, 4, .inr (.inr (.inr (.inr (tvf ad nt)))))), (ad 2, .inr (1, [.ref (ad 3), .ref (ad 4), .int G.2.2.1, .long G.2.2.2.1, .long G.2.2.2.2])), (ad 3, .inl (cA 0, 40, .inr (.inl G.1))), (ad 4, .inl (cA 0, 40, .inr (.inl G.2.1)))] s.heap.size := ⟨_, rfl⟩
  rw [← hA7] at hD hoA
  have hA : ∀ q : Nat, s.heap.size ≤ q → A q := fun q h => by rw [hA7]; exact Or.inr h
  have hS : va_S A s.heap s.heap [] := va_S.rf
  generalize ([.ref (ad 0)] : List Value).toArray = args at FX ⊢
  obtain ⟨hx, hb, hml, hown, hts, hr, hlk⟩ := id FX
  refine lv_aload_n hx hb d_x_target_0 rfl (lv_at hl 0 rfl) ?_
  refine ro_get (v := .int (nI nt)) FX hK hP 0 2 rfl rfl rfl i_x (by decide) kf_x_22 d_x_target_1 ?_
  refine lv_if_lt (tgt := 19) hx hb d_x_target_4 (by decide) (fun c1 => ?_) (fun c1 => ?_)
  · have c1 := c1
    refine lv_iconst (v := (-1)) hx hb d_x_target_19 (by decide) ?_
    refine W.widen (k := 2) (n := 51) (Nat.zero_le _) (Nat.zero_le _) ?_
    exact mu_iret FX va_S.rf (by rw [show (f_x_target nt TT) = ((-1), nt, TT) from (by rw [f_x_target, if_pos c1])]; exact ⟨rfl, ad, fun q h => Or.inl h, rfl, hinj, hW⟩) d_x_target_20
  · have c1 := c1
    refine lv_aload_n hx hb d_x_target_7 rfl (lv_at hl 0 rfl) ?_
    refine ro_get (v := .int (nI nt)) FX hK hP 0 2 rfl rfl rfl i_x (by decide) kf_x_22 d_x_target_8 ?_
    refine lv_aload_n hx hb d_x_target_11 rfl (lv_at hl 0 rfl) ?_
    refine ro_get (v := .ref (ad 1)) FX hK hP 0 1 rfl rfl rfl i_x (by decide) kf_x_18 d_x_target_12 ?_
    refine va_alen (v := 4) hx hb hK.1 hP 1 1 rfl rfl rfl d_x_target_15 ?_
    refine lv_icmp_lt (tgt := 21) hx hb d_x_target_16 (by decide) (fun c2 => ?_) (fun c2 => ?_)
    · have c2 := c2
      refine lv_aload_n hx hb d_x_target_21 rfl (lv_at hl 0 rfl) ?_
      refine ro_get (v := .int (nI nt)) FX hK hP 0 2 rfl rfl rfl i_x (by decide) kf_x_22 d_x_target_22 ?_
      refine lv_istore_n (lv' := [(1, .int (nI nt)), (0, .ref (ad 0))]) hx hb d_x_target_25 rfl hl (by decide) rfl (fun ls hl => ?_)
      refine lv_aload_n hx hb d_x_target_26 rfl (lv_at hl 1 rfl) ?_
      refine ro_get (v := .ref (ad 1)) FX hK hP 0 1 rfl rfl rfl i_x (by decide) kf_x_18 d_x_target_27 ?_
      refine lv_iload_n hx hb d_x_target_30 rfl (lv_at hl 0 rfl) ?_
      refine va_new (ci := 2) (fs := [.null, .null, .long 0, .long 0, .int (bz false), .int 0, .int 0, .int 0, .int 0, .int 0, .int 0]) hx hb hts i_t t_t t_t_ok hown (hts _ kk_x_16) (hts _ kz_t) (hts _ ki_t) hK.1 hP hD hS hA rfl (fun j hj => by rcases (show j = 0 ∨ j = 1 ∨ j = 2 ∨ j = 3 ∨ j = 4 ∨ j = 5 ∨ j = 6 ∨ j = 7 ∨ j = 8 ∨ j = 9 ∨ j = 10 by omega) with rfl | rfl | rfl | rfl | rfl | rfl | rfl | rfl | rfl | rfl | rfl <;> rfl) (Nat.le_of_ble_eq_true rfl) (Nat.le_of_ble_eq_true rfl) d_x_target_31 (fun q3 H hP hD hS => ?_)
      have hP : va_P D classes [(ad 0, .inr (0, [.ref (ad 2), .ref (ad 1), .int (nI nt)])), (ad 1, .inl (cA 1, 4, .inr (.inr (.inr (.inr (tvf ad nt)))))), (ad 2, .inr (1, [.ref (ad 3), .ref (ad 4), .int G.2.2.1, .long G.2.2.2.1, .long G.2.2.2.2])), (ad 3, .inl (cA 0, 40, .inr (.inl G.1))), (ad 4, .inl (cA 0, 40, .inr (.inl G.2.1))), (q3, .inr (2, [.null, .null, .long 0, .long 0, .int (bz false), .int 0, .int 0, .int 0, .int 0, .int 0, .int 0]))] H := hP
      have hD : va_D A [(ad 0, .inr (0, [.ref (ad 2), .ref (ad 1), .int (nI nt)])), (ad 1, .inl (cA 1, 4, .inr (.inr (.inr (.inr (tvf ad nt)))))), (ad 2, .inr (1, [.ref (ad 3), .ref (ad 4), .int G.2.2.1, .long G.2.2.2.1, .long G.2.2.2.2])), (ad 3, .inl (cA 0, 40, .inr (.inl G.1))), (ad 4, .inl (cA 0, 40, .inr (.inl G.2.1))), (q3, .inr (2, [.null, .null, .long 0, .long 0, .int (bz false), .int 0, .int 0, .int 0, .int 0, .int 0, .int 0]))] := hD
      refine lv_dup hx hb d_x_target_34 rfl ?_
      refine lv_aload_n hx hb d_x_target_35 rfl (lv_at hl 1 rfl) ?_
      refine ro_get (v := .ref (ad 2)) FX hK hP 0 0 rfl rfl rfl i_x (by decide) kf_x_10 d_x_target_36 ?_
      have hFc := va_free (wc := [(q3, .inr (2, [.null, .null, .long 0, .long 0, .int (bz false), .int 0, .int 0, .int 0, .int 0, .int 0, .int 0]))]) hD hS hA [5] rfl
      refine al_I (As := [.ref (ad 2)]) (rest := [.ref q3, .int (nI nt), .ref (ad 1)]) FX hK (c_t_init l D cA q3 (ad 2) H.size) (hP.sub [5] rfl) (hD.sub [5] (by decide) rfl) kc_t_init km_x_48 ki_t ks_t_init rfl rfl ok_t_init ⟨Nat.le_of_ble_eq_true rfl, Nat.le_of_ble_eq_true rfl⟩ ⟨Nat.le_of_ble_eq_true rfl, Nat.le_of_ble_eq_true rfl⟩ hl.1 rfl (Nat.le_of_ble_eq_true rfl) d_x_target_39 hS hFc (fun v0 H1 locs hv0 hz0 hk0 hS => ?_)
      obtain ⟨rfl, q4, hP1, hD1⟩ := hv0
      obtain ⟨hP, hD⟩ := va_join (wr := [(ad 0, .inr (0, [.ref (ad 2), .ref (ad 1), .int (nI nt)])), (ad 1, .inl (cA 1, 4, .inr (.inr (.inr (.inr (tvf ad nt)))))), (ad 2, .inr (1, [.ref (ad 3), .ref (ad 4), .int G.2.2.1, .long G.2.2.2.1, .long G.2.2.2.2])), (ad 3, .inl (cA 0, 40, .inr (.inl G.1))), (ad 4, .inl (cA 0, 40, .inr (.inl G.2.1)))]) (w1 := [(q3, .inr (2, [.ref (ad 2), .ref q4, .long 0, .long 0, .int (bz false), .int (-1), .int 0, .int 1, .int 100, .int 0, .int 0])), (q4, .inl (cA 0, 40, .inr (.inl (fun _ => 0))))]) hP hD [5] [0, 1, 2, 3, 4] rfl rfl (by decide) (by decide) hk0 hFc hP1 hD1
      have hP : va_P D classes [(ad 0, .inr (0, [.ref (ad 2), .ref (ad 1), .int (nI nt)])), (ad 1, .inl (cA 1, 4, .inr (.inr (.inr (.inr (tvf ad nt)))))), (ad 2, .inr (1, [.ref (ad 3), .ref (ad 4), .int G.2.2.1, .long G.2.2.2.1, .long G.2.2.2.2])), (ad 3, .inl (cA 0, 40, .inr (.inl G.1))), (ad 4, .inl (cA 0, 40, .inr (.inl G.2.1))), (q3, .inr (2, [.ref (ad 2), .ref q4, .long 0, .long 0, .int (bz false), .int (-1), .int 0, .int 1, .int 100, .int 0, .int 0])), (q4, .inl (cA 0, 40, .inr (.inl (fun _ => 0))))] H1 := hP
      have hD : va_D A [(ad 0, .inr (0, [.ref (ad 2), .ref (ad 1), .int (nI nt)])), (ad 1, .inl (cA 1, 4, .inr (.inr (.inr (.inr (tvf ad nt)))))), (ad 2, .inr (1, [.ref (ad 3), .ref (ad 4), .int G.2.2.1, .long G.2.2.2.1, .long G.2.2.2.2])), (ad 3, .inl (cA 0, 40, .inr (.inl G.1))), (ad 4, .inl (cA 0, 40, .inr (.inl G.2.1))), (q3, .inr (2, [.ref (ad 2), .ref q4, .long 0, .long 0, .int (bz false), .int (-1), .int 0, .int 1, .int 100, .int 0, .int 0])), (q4, .inl (cA 0, 40, .inr (.inl (fun _ => 0))))] := hD
      generalize H1 = H at hP hS ⊢
      refine W.eq (g2 := F0 m 42 ls [.ref q3, .int (nI nt), .ref (ad 1)]) rfl ?_
      refine va_astq (v := q3) hx hb hK.1 hP hD hS 1 1 5 2 rfl rfl rfl rfl (vin3 c1 c2) d_x_target_42 (fun H locs hP hD hS => ?_)
      have hP : va_P D classes [(ad 0, .inr (0, [.ref (ad 2), .ref (ad 1), .int (nI nt)])), (ad 1, .inl (cA 1, 4, .inr (.inr (.inr (.inr (va_up (tvf ad nt) (nI nt).toNatClampNeg (some q3))))))), (ad 2, .inr (1, [.ref (ad 3), .ref (ad 4), .int G.2.2.1, .long G.2.2.2.1, .long G.2.2.2.2])), (ad 3, .inl (cA 0, 40, .inr (.inl G.1))), (ad 4, .inl (cA 0, 40, .inr (.inl G.2.1))), (q3, .inr (2, [.ref (ad 2), .ref q4, .long 0, .long 0, .int (bz false), .int (-1), .int 0, .int 1, .int 100, .int 0, .int 0])), (q4, .inl (cA 0, 40, .inr (.inl (fun _ => 0))))] H := hP
      have hD : va_D A [(ad 0, .inr (0, [.ref (ad 2), .ref (ad 1), .int (nI nt)])), (ad 1, .inl (cA 1, 4, .inr (.inr (.inr (.inr (va_up (tvf ad nt) (nI nt).toNatClampNeg (some q3))))))), (ad 2, .inr (1, [.ref (ad 3), .ref (ad 4), .int G.2.2.1, .long G.2.2.2.1, .long G.2.2.2.2])), (ad 3, .inl (cA 0, 40, .inr (.inl G.1))), (ad 4, .inl (cA 0, 40, .inr (.inl G.2.1))), (q3, .inr (2, [.ref (ad 2), .ref q4, .long 0, .long 0, .int (bz false), .int (-1), .int 0, .int 1, .int 100, .int 0, .int 0])), (q4, .inl (cA 0, 40, .inr (.inl (fun _ => 0))))] := hD
      refine lv_aload_n hx hb d_x_target_43 rfl (lv_at hl 1 rfl) ?_
      refine lv_dup hx hb d_x_target_44 rfl ?_
      refine ro_get (v := .int (nI nt)) FX hK hP 0 2 rfl rfl rfl i_x (by decide) kf_x_22 d_x_target_45 ?_
      refine lv_iconst (v := 1) hx hb d_x_target_48 (by decide) ?_
      refine lv_iadd hx hb d_x_target_49 ?_
      refine va_put (D := D) (v := .int ((nI nt) + 1)) (ty := .int) hx hb hts i_x t_x t_x_ok n_x hown hK.1 hP hD hS 0 rfl rfl 2 (by decide) (hts _ kf_x_22) (fun _ h9 => h9) rfl (by decide +kernel) rfl rfl (Nat.le_of_ble_eq_true rfl) d_x_target_50 (fun H locs hP hD hS => ?_)
      have hP : va_P D classes [(ad 0, .inr (0, [.ref (ad 2), .ref (ad 1), .int ((nI nt) + 1)])), (ad 1, .inl (cA 1, 4, .inr (.inr (.inr (.inr (va_up (tvf ad nt) (nI nt).toNatClampNeg (some q3))))))), (ad 2, .inr (1, [.ref (ad 3), .ref (ad 4), .int G.2.2.1, .long G.2.2.2.1, .long G.2.2.2.2])), (ad 3, .inl (cA 0, 40, .inr (.inl G.1))), (ad 4, .inl (cA 0, 40, .inr (.inl G.2.1))), (q3, .inr (2, [.ref (ad 2), .ref q4, .long 0, .long 0, .int (bz false), .int (-1), .int 0, .int 1, .int 100, .int 0, .int 0])), (q4, .inl (cA 0, 40, .inr (.inl (fun _ => 0))))] H := hP
      have hD : va_D A [(ad 0, .inr (0, [.ref (ad 2), .ref (ad 1), .int ((nI nt) + 1)])), (ad 1, .inl (cA 1, 4, .inr (.inr (.inr (.inr (va_up (tvf ad nt) (nI nt).toNatClampNeg (some q3))))))), (ad 2, .inr (1, [.ref (ad 3), .ref (ad 4), .int G.2.2.1, .long G.2.2.2.1, .long G.2.2.2.2])), (ad 3, .inl (cA 0, 40, .inr (.inl G.1))), (ad 4, .inl (cA 0, 40, .inr (.inl G.2.1))), (q3, .inr (2, [.ref (ad 2), .ref q4, .long 0, .long 0, .int (bz false), .int (-1), .int 0, .int 1, .int 100, .int 0, .int 0])), (q4, .inl (cA 0, 40, .inr (.inl (fun _ => 0))))] := hD
      refine lv_iload_n hx hb d_x_target_53 rfl (lv_at hl 0 rfl) ?_
      exact mu_iret FX (S_mono hS hoA) (by rw [show (f_x_target nt TT) = (nI nt, nt + 1, va_up TT nt (0, 0, false, (-1), 0, 1, 100, 0, 0, fun _ => 0)) from (by rw [f_x_target, if_neg c1, if_pos c2])]; exact ⟨rfl, wx_new hW hinj hA7 c2 hnt hS (hP.sub [0, 1, 2, 3, 4, 5, 6] rfl) (hD.sub [0, 1, 2, 3, 4, 5, 6] (by decide) rfl)⟩) d_x_target_54
    · have c2 := c2
      refine lv_iconst (v := (-1)) hx hb d_x_target_19 (by decide) ?_
      refine W.widen (k := 2) (n := 51) (Nat.zero_le _) (Nat.zero_le _) ?_
      exact mu_iret FX va_S.rf (by rw [show (f_x_target nt TT) = ((-1), nt, TT) from (by rw [f_x_target, if_neg c1, if_neg c2])]; exact ⟨rfl, ad, fun q h => Or.inl h, rfl, hinj, hW⟩) d_x_target_20
