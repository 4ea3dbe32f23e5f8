theorem d_t_markGood_0 : decode b_t_markGood 0 = .ok (.aload_n 0, 1) := by decide +kernel
theorem d_t_markGood_1 : decode b_t_markGood 1 = .ok (.getfield 19, 3) := by decide +kernel
theorem d_t_markGood_4 : decode b_t_markGood 4 = .ok (.iload_n 1, 1) := by decide +kernel
theorem d_t_markGood_5 : decode b_t_markGood 5 = .ok (.invokestatic 49, 3) := by decide +kernel
theorem d_t_markGood_8 : decode b_t_markGood 8 = .ok (.ifCond .eq 5, 3) := by decide +kernel
theorem d_t_markGood_11 : decode b_t_markGood 11 = .ok (.iconst 0, 1) := by decide +kernel
theorem d_t_markGood_12 : decode b_t_markGood 12 = .ok (.ireturn, 1) := by decide +kernel
theorem d_t_markGood_13 : decode b_t_markGood 13 = .ok (.aload_n 0, 1) := by decide +kernel
theorem d_t_markGood_14 : decode b_t_markGood 14 = .ok (.dup, 1) := by decide +kernel
theorem d_t_markGood_15 : decode b_t_markGood 15 = .ok (.getfield 19, 3) := by decide +kernel
theorem d_t_markGood_18 : decode b_t_markGood 18 = .ok (.iload_n 1, 1) := by decide +kernel
theorem d_t_markGood_19 : decode b_t_markGood 19 = .ok (.invokestatic 53, 3) := by decide +kernel
theorem d_t_markGood_22 : decode b_t_markGood 22 = .ok (.lor, 1) := by decide +kernel
theorem d_t_markGood_23 : decode b_t_markGood 23 = .ok (.putfield 19, 3) := by decide +kernel
theorem d_t_markGood_26 : decode b_t_markGood 26 = .ok (.aload_n 0, 1) := by decide +kernel
theorem d_t_markGood_27 : decode b_t_markGood 27 = .ok (.dup, 1) := by decide +kernel
theorem d_t_markGood_28 : decode b_t_markGood 28 = .ok (.getfield 23, 3) := by decide +kernel
theorem d_t_markGood_31 : decode b_t_markGood 31 = .ok (.aload_n 0, 1) := by decide +kernel
theorem d_t_markGood_32 : decode b_t_markGood 32 = .ok (.getfield 9, 3) := by decide +kernel
theorem d_t_markGood_35 : decode b_t_markGood 35 = .ok (.iload_n 1, 1) := by decide +kernel
theorem d_t_markGood_36 : decode b_t_markGood 36 = .ok (.invokevirtual 57, 3) := by decide +kernel
theorem d_t_markGood_39 : decode b_t_markGood 39 = .ok (.lor, 1) := by decide +kernel
theorem d_t_markGood_40 : decode b_t_markGood 40 = .ok (.putfield 23, 3) := by decide +kernel
theorem d_t_markGood_43 : decode b_t_markGood 43 = .ok (.iconst 1, 1) := by decide +kernel
theorem d_t_markGood_44 : decode b_t_markGood 44 = .ok (.ireturn, 1) := by decide +kernel
def f_t_markGood (go : Int64) (cl : Int64) (rs : Nat → Int64) (sz : Int32) (nu : Int32) : Bool × Int64 × Int64 := if (f_x_contains go nu) = true then
    ((false, go, cl))
  else
    ((true, go ||| (f_x_only nu), cl ||| (f_g_reach rs sz nu)))
set_option maxHeartbeats 4000000 in
set_option maxRecDepth 100000 in
theorem c_t_markGood (l : Launch) (D : va_G) (cA : Nat → ClassId) (t wa : Nat) (go cl : Int64) (se : Bool) (bad fp fq su an sks : Int32) (wt : Nat → Int64) (g pa re : Nat) (ps rs : Nat → Int64) (sz : Int32) (bu sk : Int64) (nu : Int32) : Met l y_t_markGood (.code y_t_markGood b_t_markGood 2 (some .boolean) :: tb) (rmd 3) (Pro D cA [.ref t, .int nu] (fun H0 => va_P D classes [(t, .inr (2, [.ref g, .ref wa, .long go, .long cl, .int (bz se), .int bad, .int fp, .int fq, .int su, .int an, .int sks])), (wa, .inl (cA 0, 40, .inr (.inl wt))), (g, .inr (1, [.ref pa, .ref re, .int sz, .long bu, .long sk])), (pa, .inl (cA 0, 40, .inr (.inl ps))), (re, .inl (cA 0, 40, .inr (.inl rs)))] H0 ∧ va_D (fun _ => True) [(t, .inr (2, [.ref g, .ref wa, .long go, .long cl, .int (bz se), .int bad, .int fp, .int fq, .int su, .int an, .int sks])), (wa, .inl (cA 0, 40, .inr (.inl wt))), (g, .inr (1, [.ref pa, .ref re, .int sz, .long bu, .long sk])), (pa, .inl (cA 0, 40, .inr (.inl ps))), (re, .inl (cA 0, 40, .inr (.inl rs)))])) (Qmu (aw [(t, .inr (2, [.ref g, .ref wa, .long go, .long cl, .int (bz se), .int bad, .int fp, .int fq, .int su, .int an, .int sks])), (wa, .inl (cA 0, 40, .inr (.inl wt))), (g, .inr (1, [.ref pa, .ref re, .int sz, .long bu, .long sk])), (pa, .inl (cA 0, 40, .inr (.inl ps))), (re, .inl (cA 0, 40, .inr (.inl rs)))]) (fun v0 H0 => v0 = some (.int (bz ((f_t_markGood go cl rs sz nu).1))) ∧ va_P D classes [(t, .inr (2, [.ref g, .ref wa, .long ((f_t_markGood go cl rs sz nu).2.1), .long ((f_t_markGood go cl rs sz nu).2.2), .int (bz se), .int bad, .int fp, .int fq, .int su, .int an, .int sks])), (wa, .inl (cA 0, 40, .inr (.inl wt))), (g, .inr (1, [.ref pa, .ref re, .int sz, .long bu, .long sk])), (pa, .inl (cA 0, 40, .inr (.inl ps))), (re, .inl (cA 0, 40, .inr (.inl rs)))] H0 ∧ va_D (aw [(t, .inr (2, [.ref g, .ref wa, .long go, .long cl, .int (bz se), .int bad, .int fp, .int fq, .int su, .int an, .int sks])), (wa, .inl (cA 0, 40, .inr (.inl wt))), (g, .inr (1, [.ref pa, .ref re, .int sz, .long bu, .long sk])), (pa, .inl (cA 0, 40, .inr (.inl ps))), (re, .inl (cA 0, 40, .inr (.inl rs)))]) [(t, .inr (2, [.ref g, .ref wa, .long ((f_t_markGood go cl rs sz nu).2.1), .long ((f_t_markGood go cl rs sz nu).2.2), .int (bz se), .int bad, .int fp, .int fq, .int su, .int an, .int sks])), (wa, .inl (cA 0, 40, .inr (.inl wt))), (g, .inr (1, [.ref pa, .ref re, .int sz, .long bu, .long sk])), (pa, .inl (cA 0, 40, .inr (.inl ps))), (re, .inl (cA 0, 40, .inr (.inl rs)))])) 0 0 (aw [(t, .inr (2, [.ref g, .ref wa, .long go, .long cl, .int (bz se), .int bad, .int fp, .int fq, .int su, .int an, .int sks])), (wa, .inl (cA 0, 40, .inr (.inl wt))), (g, .inr (1, [.ref pa, .ref re, .int sz, .long bu, .long sk])), (pa, .inl (cA 0, 40, .inr (.inl ps))), (re, .inl (cA 0, 40, .inr (.inl rs)))]) := by
  refine ro_in (by decide) (Nat.le_of_ble_eq_true rfl) (fun p e s m below meth c ls FX hnm hK hP hl => ?_)
  have hl : lv_has ls 2 [(0, .ref t), (1, .int nu)] := hl
  obtain ⟨hP, hD0⟩ := hP
  have hP : va_P D classes [(t, .inr (2, [.ref g, .ref wa, .long go, .long cl, .int (bz se), .int bad, .int fp, .int fq, .int su, .int an, .int sks])), (wa, .inl (cA 0, 40, .inr (.inl wt))), (g, .inr (1, [.ref pa, .ref re, .int sz, .long bu, .long sk])), (pa, .inl (cA 0, 40, .inr (.inl ps))), (re, .inl (cA 0, 40, .inr (.inl rs)))] s.heap := hP
  have hD : va_D (aw [(t, .inr (2, [.ref g, .ref wa, .long go, .long cl, .int (bz se), .int bad, .int fp, .int fq, .int su, .int an, .int sks])), (wa, .inl (cA 0, 40, .inr (.inl wt))), (g, .inr (1, [.ref pa, .ref re, .int sz, .long bu, .long sk])), (pa, .inl (cA 0, 40, .inr (.inl ps))), (re, .inl (cA 0, 40, .inr (.inl rs)))]) [(t, .inr (2, [.ref g, .ref wa, .long go, .long cl, .int (bz se), .int bad, .int fp, .int fq, .int su, .int an, .int sks])), (wa, .inl (cA 0, 40, .inr (.inl wt))), (g, .inr (1, [.ref pa, .ref re, .int sz, .long bu, .long sk])), (pa, .inl (cA 0, 40, .inr (.inl ps))), (re, .inl (cA 0, 40, .inr (.inl rs)))] := aw_self hD0
  generalize (aw [(t, .inr (2, [.ref g, .ref wa, .long go, .long cl, .int (bz se), .int bad, .int fp, .int fq, .int su, .int an, .int sks])), (wa, .inl (cA 0, 40, .inr (.inl wt))), (g, .inr (1, [.ref pa, .ref re, .int sz, .long bu, .long sk])), (pa, .inl (cA 0, 40, .inr (.inl ps))), (re, .inl (cA 0, 40, .inr (.inl rs)))]) = A at hD ⊢
  have hS : va_S A s.heap s.heap [] := va_S.rf
  generalize ([.ref t, .int nu] : List Value).toArray = args at FX ⊢
  obtain ⟨hx, hb, hml, hown, hts, hr, hlk⟩ := id FX
  refine lv_aload_n hx hb d_t_markGood_0 rfl (lv_at hl 0 rfl) ?_
  refine ro_get (v := .long go) FX hK hP 0 2 rfl rfl rfl i_t (by decide) kf_t_19 d_t_markGood_1 ?_
  refine lv_iload_n hx hb d_t_markGood_4 rfl (lv_at hl 1 rfl) ?_
  refine ro_SN (v := .int (bz (f_x_contains go nu))) (As := [.long go, .int nu]) (rest := []) FX hK (c_x_contains l D cA go nu) trivial kc_x_contains km_t_49 ki_x ks_x_contains rfl ok_x_contains ⟨Nat.le_of_ble_eq_true rfl, Nat.le_of_ble_eq_true rfl⟩ ⟨Nat.zero_le _, Nat.zero_le _⟩ hl.1 rfl (Nat.le_of_ble_eq_true rfl) d_t_markGood_5 ?_
  refine lv_if_eq (tgt := 13) hx hb d_t_markGood_8 (by decide) (fun c1 => ?_) (fun c1 => ?_)
  · have c1 := bz_f c1
    refine lv_aload_n hx hb d_t_markGood_13 rfl (lv_at hl 0 rfl) ?_
    refine lv_dup hx hb d_t_markGood_14 rfl ?_
    refine ro_get (v := .long go) FX hK hP 0 2 rfl rfl rfl i_t (by decide) kf_t_19 d_t_markGood_15 ?_
    refine lv_iload_n hx hb d_t_markGood_18 rfl (lv_at hl 1 rfl) ?_
    refine ro_SN (v := .long (f_x_only nu)) (As := [.int nu]) (rest := [.long go, .ref t]) FX hK (c_x_only l D cA nu) trivial kc_x_only km_t_53 ki_x ks_x_only rfl ok_x_only ⟨Nat.le_of_ble_eq_true rfl, Nat.le_of_ble_eq_true rfl⟩ ⟨Nat.zero_le _, Nat.zero_le _⟩ hl.1 rfl (Nat.le_of_ble_eq_true rfl) d_t_markGood_19 ?_
    refine lv_lor hx hb d_t_markGood_22 ?_
    refine va_put (D := D) (v := .long (go ||| (f_x_only nu))) (ty := .long) hx hb hts i_t t_t t_t_ok n_t hown hK.1 hP hD hS 0 rfl rfl 2 (by decide) (hts _ kf_t_19) (fun _ h9 => h9) rfl (by decide +kernel) rfl rfl (Nat.le_of_ble_eq_true rfl) d_t_markGood_23 (fun H locs hP hD hS => ?_)
    have hP : va_P D classes [(t, .inr (2, [.ref g, .ref wa, .long (go ||| (f_x_only nu)), .long cl, .int (bz se), .int bad, .int fp, .int fq, .int su, .int an, .int sks])), (wa, .inl (cA 0, 40, .inr (.inl wt))), (g, .inr (1, [.ref pa, .ref re, .int sz, .long bu, .long sk])), (pa, .inl (cA 0, 40, .inr (.inl ps))), (re, .inl (cA 0, 40, .inr (.inl rs)))] H := hP
    have hD : va_D A [(t, .inr (2, [.ref g, .ref wa, .long (go ||| (f_x_only nu)), .long cl, .int (bz se), .int bad, .int fp, .int fq, .int su, .int an, .int sks])), (wa, .inl (cA 0, 40, .inr (.inl wt))), (g, .inr (1, [.ref pa, .ref re, .int sz, .long bu, .long sk])), (pa, .inl (cA 0, 40, .inr (.inl ps))), (re, .inl (cA 0, 40, .inr (.inl rs)))] := hD
    refine lv_aload_n hx hb d_t_markGood_26 rfl (lv_at hl 0 rfl) ?_
    refine lv_dup hx hb d_t_markGood_27 rfl ?_
    refine ro_get (v := .long cl) FX hK hP 0 3 rfl rfl rfl i_t (by decide) kf_t_23 d_t_markGood_28 ?_
    refine lv_aload_n hx hb d_t_markGood_31 rfl (lv_at hl 0 rfl) ?_
    refine ro_get (v := .ref g) FX hK hP 0 0 rfl rfl rfl i_t (by decide) kf_t_9 d_t_markGood_32 ?_
    refine lv_iload_n hx hb d_t_markGood_35 rfl (lv_at hl 1 rfl) ?_
    refine ro_V (v := .long (f_g_reach rs sz nu)) (As := [.int nu]) (rest := [.long cl, .ref t]) (q0 := 2) FX hK (c_g_reach l D cA g pa re ps rs sz bu sk nu) (hP.sub [2, 3, 4] rfl) hP rfl rfl rfl kc_g_reach km_t_57 ki_g ks_g_reach ke_g_reach rfl ok_g_reach ⟨Nat.le_of_ble_eq_true rfl, Nat.le_of_ble_eq_true rfl⟩ ⟨Nat.zero_le _, Nat.zero_le _⟩ hl.1 rfl (Nat.le_of_ble_eq_true rfl) d_t_markGood_36 ?_
    refine lv_lor hx hb d_t_markGood_39 ?_
    refine va_put (D := D) (v := .long (cl ||| (f_g_reach rs sz nu))) (ty := .long) hx hb hts i_t t_t t_t_ok n_t hown hK.1 hP hD hS 0 rfl rfl 3 (by decide) (hts _ kf_t_23) (fun _ h9 => h9) rfl (by decide +kernel) rfl rfl (Nat.le_of_ble_eq_true rfl) d_t_markGood_40 (fun H locs hP hD hS => ?_)
    have hP : va_P D classes [(t, .inr (2, [.ref g, .ref wa, .long (go ||| (f_x_only nu)), .long (cl ||| (f_g_reach rs sz nu)), .int (bz se), .int bad, .int fp, .int fq, .int su, .int an, .int sks])), (wa, .inl (cA 0, 40, .inr (.inl wt))), (g, .inr (1, [.ref pa, .ref re, .int sz, .long bu, .long sk])), (pa, .inl (cA 0, 40, .inr (.inl ps))), (re, .inl (cA 0, 40, .inr (.inl rs)))] H := hP
    have hD : va_D A [(t, .inr (2, [.ref g, .ref wa, .long (go ||| (f_x_only nu)), .long (cl ||| (f_g_reach rs sz nu)), .int (bz se), .int bad, .int fp, .int fq, .int su, .int an, .int sks])), (wa, .inl (cA 0, 40, .inr (.inl wt))), (g, .inr (1, [.ref pa, .ref re, .int sz, .long bu, .long sk])), (pa, .inl (cA 0, 40, .inr (.inl ps))), (re, .inl (cA 0, 40, .inr (.inl rs)))] := hD
    refine lv_iconst (v := 1) hx hb d_t_markGood_43 (by decide) ?_
    exact mu_zret true rfl FX hS (by rw [show (f_t_markGood go cl rs sz nu) = (true, go ||| (f_x_only nu), cl ||| (f_g_reach rs sz nu)) from (by rw [f_t_markGood, if_neg c1])]; exact ⟨rfl, hP, hD⟩) d_t_markGood_44
  · have c1 := bz_t c1
    refine lv_iconst (v := 0) hx hb d_t_markGood_11 (by decide) ?_
    exact mu_zret false rfl FX hS (by rw [show (f_t_markGood go cl rs sz nu) = (false, go, cl) from (by rw [f_t_markGood, if_pos c1])]; exact ⟨rfl, hP, hD⟩) d_t_markGood_12
theorem d_t_giveUp_0 : decode b_t_giveUp 0 = .ok (.aload_n 0, 1) := by decide +kernel
theorem d_t_giveUp_1 : decode b_t_giveUp 1 = .ok (.iconst 0, 1) := by decide +kernel
theorem d_t_giveUp_2 : decode b_t_giveUp 2 = .ok (.putfield 26, 3) := by decide +kernel
theorem d_t_giveUp_5 : decode b_t_giveUp 5 = .ok (.return_, 1) := by decide +kernel
def f_t_giveUp  : Bool := false
set_option maxHeartbeats 4000000 in
set_option maxRecDepth 100000 in
theorem c_t_giveUp (l : Launch) (D : va_G) (cA : Nat → ClassId) (t wa : Nat) (go cl : Int64) (se : Bool) (bad fp fq su an sks : Int32) (wt : Nat → Int64) (g pa re : Nat) (ps rs : Nat → Int64) (sz : Int32) (bu sk : Int64) : Met l y_t_giveUp (.code y_t_giveUp b_t_giveUp 1 none :: tb) (rmd 0) (Pro D cA [.ref t] (fun H0 => va_P D classes [(t, .inr (2, [.ref g, .ref wa, .long go, .long cl, .int (bz se), .int bad, .int fp, .int fq, .int su, .int an, .int sks])), (wa, .inl (cA 0, 40, .inr (.inl wt))), (g, .inr (1, [.ref pa, .ref re, .int sz, .long bu, .long sk])), (pa, .inl (cA 0, 40, .inr (.inl ps))), (re, .inl (cA 0, 40, .inr (.inl rs)))] H0 ∧ va_D (fun _ => True) [(t, .inr (2, [.ref g, .ref wa, .long go, .long cl, .int (bz se), .int bad, .int fp, .int fq, .int su, .int an, .int sks])), (wa, .inl (cA 0, 40, .inr (.inl wt))), (g, .inr (1, [.ref pa, .ref re, .int sz, .long bu, .long sk])), (pa, .inl (cA 0, 40, .inr (.inl ps))), (re, .inl (cA 0, 40, .inr (.inl rs)))])) (Qmu (aw [(t, .inr (2, [.ref g, .ref wa, .long go, .long cl, .int (bz se), .int bad, .int fp, .int fq, .int su, .int an, .int sks])), (wa, .inl (cA 0, 40, .inr (.inl wt))), (g, .inr (1, [.ref pa, .ref re, .int sz, .long bu, .long sk])), (pa, .inl (cA 0, 40, .inr (.inl ps))), (re, .inl (cA 0, 40, .inr (.inl rs)))]) (fun v0 H0 => v0 = none ∧ va_P D classes [(t, .inr (2, [.ref g, .ref wa, .long go, .long cl, .int (bz (f_t_giveUp)), .int bad, .int fp, .int fq, .int su, .int an, .int sks])), (wa, .inl (cA 0, 40, .inr (.inl wt))), (g, .inr (1, [.ref pa, .ref re, .int sz, .long bu, .long sk])), (pa, .inl (cA 0, 40, .inr (.inl ps))), (re, .inl (cA 0, 40, .inr (.inl rs)))] H0 ∧ va_D (aw [(t, .inr (2, [.ref g, .ref wa, .long go, .long cl, .int (bz se), .int bad, .int fp, .int fq, .int su, .int an, .int sks])), (wa, .inl (cA 0, 40, .inr (.inl wt))), (g, .inr (1, [.ref pa, .ref re, .int sz, .long bu, .long sk])), (pa, .inl (cA 0, 40, .inr (.inl ps))), (re, .inl (cA 0, 40, .inr (.inl rs)))]) [(t, .inr (2, [.ref g, .ref wa, .long go, .long cl, .int (bz (f_t_giveUp)), .int bad, .int fp, .int fq, .int su, .int an, .int sks])), (wa, .inl (cA 0, 40, .inr (.inl wt))), (g, .inr (1, [.ref pa, .ref re, .int sz, .long bu, .long sk])), (pa, .inl (cA 0, 40, .inr (.inl ps))), (re, .inl (cA 0, 40, .inr (.inl rs)))])) 0 0 (aw [(t, .inr (2, [.ref g, .ref wa, .long go, .long cl, .int (bz se), .int bad, .int fp, .int fq, .int su, .int an, .int sks])), (wa, .inl (cA 0, 40, .inr (.inl wt))), (g, .inr (1, [.ref pa, .ref re, .int sz, .long bu, .long sk])), (pa, .inl (cA 0, 40, .inr (.inl ps))), (re, .inl (cA 0, 40, .inr (.inl rs)))]) := by
  refine ro_in (by decide) (Nat.le_of_ble_eq_true rfl) (fun p e s m below meth c ls FX hnm hK hP hl => ?_)
  have hl : lv_has ls 1 [(0, .ref t)] := hl
  obtain ⟨hP, hD0⟩ := hP
  have hP : va_P D classes [(t, .inr (2, [.ref g, .ref wa, .long go, .long cl, .int (bz se), .int bad, .int fp, .int fq, .int su, .int an, .int sks])), (wa, .inl (cA 0, 40, .inr (.inl wt))), (g, .inr (1, [.ref pa, .ref re, .int sz, .long bu, .long sk])), (pa, .inl (cA 0, 40, .inr (.inl ps))), (re, .inl (cA 0, 40, .inr (.inl rs)))] s.heap := hP
  have hD : va_D (aw [(t, .inr (2, [.ref g, .ref wa, .long go, .long cl, .int (bz se), .int bad, .int fp, .int fq, .int su, .int an, .int sks])), (wa, .inl (cA 0, 40, .inr (.inl wt))), (g, .inr (1, [.ref pa, .ref re, .int sz, .long bu, .long sk])), (pa, .inl (cA 0, 40, .inr (.inl ps))), (re, .inl (cA 0, 40, .inr (.inl rs)))]) [(t, .inr (2, [.ref g, .ref wa, .long go, .long cl, .int (bz se), .int bad, .int fp, .int fq, .int su, .int an, .int sks])), (wa, .inl (cA 0, 40, .inr (.inl wt))), (g, .inr (1, [.ref pa, .ref re, .int sz, .long bu, .long sk])), (pa, .inl (cA 0, 40, .inr (.inl ps))), (re, .inl (cA 0, 40, .inr (.inl rs)))] := aw_self hD0
  generalize (aw [(t, .inr (2, [.ref g, .ref wa, .long go, .long cl, .int (bz se), .int bad, .int fp, .int fq, .int su, .int an, .int sks])), (wa, .inl (cA 0, 40, .inr (.inl wt))), (g, .inr (1, [.ref pa, .ref re, .int sz, .long bu, .long sk])), (pa, .inl (cA 0, 40, .inr (.inl ps))), (re, .inl (cA 0, 40, .inr (.inl rs)))]) = A at hD ⊢
  have hS : va_S A s.heap s.heap [] := va_S.rf
  generalize ([.ref t] : List Value).toArray = args at FX ⊢
  obtain ⟨hx, hb, hml, hown, hts, hr, hlk⟩ := id FX
  refine lv_aload_n hx hb d_t_giveUp_0 rfl (lv_at hl 0 rfl) ?_
  refine lv_iconst (v := 0) hx hb d_t_giveUp_1 (by decide) ?_
  refine W.eq (g2 := F0 m 2 ls [.int (bz false), .ref t]) rfl ?_
  refine va_put (D := D) (v := .int (bz false)) (ty := .boolean) hx hb hts i_t t_t t_t_ok n_t hown hK.1 hP hD hS 0 rfl rfl 4 (by decide) (hts _ kf_t_26) (fun _ h9 => h9) rfl (by decide +kernel) (bz_n _) (bz_ft _) (Nat.le_of_ble_eq_true rfl) d_t_giveUp_2 (fun H locs hP hD hS => ?_)
  have hP : va_P D classes [(t, .inr (2, [.ref g, .ref wa, .long go, .long cl, .int (bz false), .int bad, .int fp, .int fq, .int su, .int an, .int sks])), (wa, .inl (cA 0, 40, .inr (.inl wt))), (g, .inr (1, [.ref pa, .ref re, .int sz, .long bu, .long sk])), (pa, .inl (cA 0, 40, .inr (.inl ps))), (re, .inl (cA 0, 40, .inr (.inl rs)))] H := hP
  have hD : va_D A [(t, .inr (2, [.ref g, .ref wa, .long go, .long cl, .int (bz false), .int bad, .int fp, .int fq, .int su, .int an, .int sks])), (wa, .inl (cA 0, 40, .inr (.inl wt))), (g, .inr (1, [.ref pa, .ref re, .int sz, .long bu, .long sk])), (pa, .inl (cA 0, 40, .inr (.inl ps))), (re, .inl (cA 0, 40, .inr (.inl rs)))] := hD
  exact mu_vret FX hS (by rw [show (f_t_giveUp) = false from (by rw [f_t_giveUp])]; exact ⟨rfl, hP, hD⟩) d_t_giveUp_5
theorem d_t_skip_0 : decode b_t_skip 0 = .ok (.aload_n 0, 1) := by decide +kernel
theorem d_t_skip_1 : decode b_t_skip 1 = .ok (.getfield 9, 3) := by decide +kernel
theorem d_t_skip_4 : decode b_t_skip 4 = .ok (.iload_n 1, 1) := by decide +kernel
theorem d_t_skip_5 : decode b_t_skip 5 = .ok (.invokevirtual 105, 3) := by decide +kernel
theorem d_t_skip_8 : decode b_t_skip 8 = .ok (.aload_n 0, 1) := by decide +kernel
theorem d_t_skip_9 : decode b_t_skip 9 = .ok (.dup, 1) := by decide +kernel
theorem d_t_skip_10 : decode b_t_skip 10 = .ok (.getfield 46, 3) := by decide +kernel
theorem d_t_skip_13 : decode b_t_skip 13 = .ok (.iconst 1, 1) := by decide +kernel
theorem d_t_skip_14 : decode b_t_skip 14 = .ok (.iadd, 1) := by decide +kernel
theorem d_t_skip_15 : decode b_t_skip 15 = .ok (.putfield 46, 3) := by decide +kernel
theorem d_t_skip_18 : decode b_t_skip 18 = .ok (.return_, 1) := by decide +kernel
def f_t_skip (sks : Int32) (sk : Int64) (nu : Int32) : Int64 × Int32 := ((f_g_markSkipped sk nu), sks + 1)
set_option maxHeartbeats 4000000 in
set_option maxRecDepth 100000 in
theorem c_t_skip (l : Launch) (D : va_G) (cA : Nat → ClassId) (t wa : Nat) (go cl : Int64) (se : Bool) (bad fp fq su an sks : Int32) (wt : Nat → Int64) (g pa re : Nat) (ps rs : Nat → Int64) (sz : Int32) (bu sk : Int64) (nu : Int32) : Met l y_t_skip (.code y_t_skip b_t_skip 2 none :: tb) (rmd 3) (Pro D cA [.ref t, .int nu] (fun H0 => va_P D classes [(t, .inr (2, [.ref g, .ref wa, .long go, .long cl, .int (bz se), .int bad, .int fp, .int fq, .int su, .int an, .int sks])), (wa, .inl (cA 0, 40, .inr (.inl wt))), (g, .inr (1, [.ref pa, .ref re, .int sz, .long bu, .long sk])), (pa, .inl (cA 0, 40, .inr (.inl ps))), (re, .inl (cA 0, 40, .inr (.inl rs)))] H0 ∧ va_D (fun _ => True) [(t, .inr (2, [.ref g, .ref wa, .long go, .long cl, .int (bz se), .int bad, .int fp, .int fq, .int su, .int an, .int sks])), (wa, .inl (cA 0, 40, .inr (.inl wt))), (g, .inr (1, [.ref pa, .ref re, .int sz, .long bu, .long sk])), (pa, .inl (cA 0, 40, .inr (.inl ps))), (re, .inl (cA 0, 40, .inr (.inl rs)))])) (Qmu (aw [(t, .inr (2, [.ref g, .ref wa, .long go, .long cl, .int (bz se), .int bad, .int fp, .int fq, .int su, .int an, .int sks])), (wa, .inl (cA 0, 40, .inr (.inl wt))), (g, .inr (1, [.ref pa, .ref re, .int sz, .long bu, .long sk])), (pa, .inl (cA 0, 40, .inr (.inl ps))), (re, .inl (cA 0, 40, .inr (.inl rs)))]) (fun v0 H0 => v0 = none ∧ va_P D classes [(t, .inr (2, [.ref g, .ref wa, .long go, .long cl, .int (bz se), .int bad, .int fp, .int fq, .int su, .int an, .int ((f_t_skip sks sk nu).2)])), (wa, .inl (cA 0, 40, .inr (.inl wt))), (g, .inr (1, [.ref pa, .ref re, .int sz, .long bu, .long ((f_t_skip sks sk nu).1)])), (pa, .inl (cA 0, 40, .inr (.inl ps))), (re, .inl (cA 0, 40, .inr (.inl rs)))] H0 ∧ va_D (aw [(t, .inr (2, [.ref g, .ref wa, .long go, .long cl, .int (bz se), .int bad, .int fp, .int fq, .int su, .int an, .int sks])), (wa, .inl (cA 0, 40, .inr (.inl wt))), (g, .inr (1, [.ref pa, .ref re, .int sz, .long bu, .long sk])), (pa, .inl (cA 0, 40, .inr (.inl ps))), (re, .inl (cA 0, 40, .inr (.inl rs)))]) [(t, .inr (2, [.ref g, .ref wa, .long go, .long cl, .int (bz se), .int bad, .int fp, .int fq, .int su, .int an, .int ((f_t_skip sks sk nu).2)])), (wa, .inl (cA 0, 40, .inr (.inl wt))), (g, .inr (1, [.ref pa, .ref re, .int sz, .long bu, .long ((f_t_skip sks sk nu).1)])), (pa, .inl (cA 0, 40, .inr (.inl ps))), (re, .inl (cA 0, 40, .inr (.inl rs)))])) 0 0 (aw [(t, .inr (2, [.ref g, .ref wa, .long go, .long cl, .int (bz se), .int bad, .int fp, .int fq, .int su, .int an, .int sks])), (wa, .inl (cA 0, 40, .inr (.inl wt))), (g, .inr (1, [.ref pa, .ref re, .int sz, .long bu, .long sk])), (pa, .inl (cA 0, 40, .inr (.inl ps))), (re, .inl (cA 0, 40, .inr (.inl rs)))]) := by
  refine ro_in (by decide) (Nat.le_of_ble_eq_true rfl) (fun p e s m below meth c ls FX hnm hK hP hl => ?_)
  have hl : lv_has ls 2 [(0, .ref t), (1, .int nu)] := hl
  obtain ⟨hP, hD0⟩ := hP
  have hP : va_P D classes [(t, .inr (2, [.ref g, .ref wa, .long go, .long cl, .int (bz se), .int bad, .int fp, .int fq, .int su, .int an, .int sks])), (wa, .inl (cA 0, 40, .inr (.inl wt))), (g, .inr (1, [.ref pa, .ref re, .int sz, .long bu, .long sk])), (pa, .inl (cA 0, 40, .inr (.inl ps))), (re, .inl (cA 0, 40, .inr (.inl rs)))] s.heap := hP
  have hD : va_D (aw [(t, .inr (2, [.ref g, .ref wa, .long go, .long cl, .int (bz se), .int bad, .int fp, .int fq, .int su, .int an, .int sks])), (wa, .inl (cA 0, 40, .inr (.inl wt))), (g, .inr (1, [.ref pa, .ref re, .int sz, .long bu, .long sk])), (pa, .inl (cA 0, 40, .inr (.inl ps))), (re, .inl (cA 0, 40, .inr (.inl rs)))]) [(t, .inr (2, [.ref g, .ref wa, .long go, .long cl, .int (bz se), .int bad, .int fp, .int fq, .int su, .int an, .int sks])), (wa, .inl (cA 0, 40, .inr (.inl wt))), (g, .inr (1, [.ref pa, .ref re, .int sz, .long bu, .long sk])), (pa, .inl (cA 0, 40, .inr (.inl ps))), (re, .inl (cA 0, 40, .inr (.inl rs)))] := aw_self hD0
  generalize (aw [(t, .inr (2, [.ref g, .ref wa, .long go, .long cl, .int (bz se), .int bad, .int fp, .int fq, .int su, .int an, .int sks])), (wa, .inl (cA 0, 40, .inr (.inl wt))), (g, .inr (1, [.ref pa, .ref re, .int sz, .long bu, .long sk])), (pa, .inl (cA 0, 40, .inr (.inl ps))), (re, .inl (cA 0, 40, .inr (.inl rs)))]) = A at hD ⊢
  have hS : va_S A s.heap s.heap [] := va_S.rf
  generalize ([.ref t, .int nu] : List Value).toArray = args at FX ⊢
  obtain ⟨hx, hb, hml, hown, hts, hr, hlk⟩ := id FX
  refine lv_aload_n hx hb d_t_skip_0 rfl (lv_at hl 0 rfl) ?_
  refine ro_get (v := .ref g) FX hK hP 0 0 rfl rfl rfl i_t (by decide) kf_t_9 d_t_skip_1 ?_
  refine lv_iload_n hx hb d_t_skip_4 rfl (lv_at hl 1 rfl) ?_
  refine mu_V (As := [.int nu]) (rest := []) (q0 := 2) FX hK (c_g_markSkipped l D cA g pa re ps rs sz bu sk nu) (hP.sub [2, 3, 4] rfl) (hD.sub [2, 3, 4] (by decide) rfl) hP rfl rfl rfl kc_g_markSkipped km_t_105 ki_g ks_g_markSkipped ke_g_markSkipped rfl ok_g_markSkipped ⟨Nat.le_of_ble_eq_true rfl, Nat.le_of_ble_eq_true rfl⟩ ⟨Nat.zero_le _, Nat.zero_le _⟩ hl.1 rfl (Nat.le_of_ble_eq_true rfl) d_t_skip_5 hS (fun q hq => aw_in hD [2, 3, 4] rfl q hq) (fun v0 H1 locs hv0 hz0 hk0 hS => ?_)
  obtain ⟨rfl, hP1, hD1⟩ := hv0
  obtain ⟨hP, hD⟩ := mu_join (wr := [(t, .inr (2, [.ref g, .ref wa, .long go, .long cl, .int (bz se), .int bad, .int fp, .int fq, .int su, .int an, .int sks])), (wa, .inl (cA 0, 40, .inr (.inl wt)))]) (w1 := [(g, .inr (1, [.ref pa, .ref re, .int sz, .long bu, .long (f_g_markSkipped sk nu)])), (pa, .inl (cA 0, 40, .inr (.inl ps))), (re, .inl (cA 0, 40, .inr (.inl rs)))]) hP hD [2, 3, 4] [0, 1] rfl rfl (by decide) (by decide) hk0 hP1 hD1
  have hP : va_P D classes [(t, .inr (2, [.ref g, .ref wa, .long go, .long cl, .int (bz se), .int bad, .int fp, .int fq, .int su, .int an, .int sks])), (wa, .inl (cA 0, 40, .inr (.inl wt))), (g, .inr (1, [.ref pa, .ref re, .int sz, .long bu, .long (f_g_markSkipped sk nu)])), (pa, .inl (cA 0, 40, .inr (.inl ps))), (re, .inl (cA 0, 40, .inr (.inl rs)))] H1 := hP.sub [0, 1, 2, 3, 4] rfl
  have hD : va_D A [(t, .inr (2, [.ref g, .ref wa, .long go, .long cl, .int (bz se), .int bad, .int fp, .int fq, .int su, .int an, .int sks])), (wa, .inl (cA 0, 40, .inr (.inl wt))), (g, .inr (1, [.ref pa, .ref re, .int sz, .long bu, .long (f_g_markSkipped sk nu)])), (pa, .inl (cA 0, 40, .inr (.inl ps))), (re, .inl (cA 0, 40, .inr (.inl rs)))] := hD.sub [0, 1, 2, 3, 4] (by decide) rfl
  generalize H1 = H at hP hS ⊢
  refine W.eq (g2 := F0 m 8 ls []) rfl ?_
  refine lv_aload_n hx hb d_t_skip_8 rfl (lv_at hl 0 rfl) ?_
  refine lv_dup hx hb d_t_skip_9 rfl ?_
  refine ro_get (v := .int sks) FX hK hP 0 10 rfl rfl rfl i_t (by decide) kf_t_46 d_t_skip_10 ?_
  refine lv_iconst (v := 1) hx hb d_t_skip_13 (by decide) ?_
  refine lv_iadd hx hb d_t_skip_14 ?_
  refine va_put (D := D) (v := .int (sks + 1)) (ty := .int) hx hb hts i_t t_t t_t_ok n_t hown hK.1 hP hD hS 0 rfl rfl 10 (by decide) (hts _ kf_t_46) (fun _ h9 => h9) rfl (by decide +kernel) rfl rfl (Nat.le_of_ble_eq_true rfl) d_t_skip_15 (fun H locs hP hD hS => ?_)
  have hP : va_P D classes [(t, .inr (2, [.ref g, .ref wa, .long go, .long cl, .int (bz se), .int bad, .int fp, .int fq, .int su, .int an, .int (sks + 1)])), (wa, .inl (cA 0, 40, .inr (.inl wt))), (g, .inr (1, [.ref pa, .ref re, .int sz, .long bu, .long (f_g_markSkipped sk nu)])), (pa, .inl (cA 0, 40, .inr (.inl ps))), (re, .inl (cA 0, 40, .inr (.inl rs)))] H := hP
  have hD : va_D A [(t, .inr (2, [.ref g, .ref wa, .long go, .long cl, .int (bz se), .int bad, .int fp, .int fq, .int su, .int an, .int (sks + 1)])), (wa, .inl (cA 0, 40, .inr (.inl wt))), (g, .inr (1, [.ref pa, .ref re, .int sz, .long bu, .long (f_g_markSkipped sk nu)])), (pa, .inl (cA 0, 40, .inr (.inl ps))), (re, .inl (cA 0, 40, .inr (.inl rs)))] := hD
  exact mu_vret FX hS (by rw [show (f_t_skip sks sk nu) = ((f_g_markSkipped sk nu), sks + 1) from (by rw [f_t_skip])]; exact ⟨rfl, hP, hD⟩) d_t_skip_18
theorem d_t_start_0 : decode b_t_start 0 = .ok (.aload_n 0, 1) := by decide +kernel
theorem d_t_start_1 : decode b_t_start 1 = .ok (.iconst 1, 1) := by decide +kernel
theorem d_t_start_2 : decode b_t_start 2 = .ok (.putfield 26, 3) := by decide +kernel
theorem d_t_start_5 : decode b_t_start 5 = .ok (.aload_n 0, 1) := by decide +kernel
theorem d_t_start_6 : decode b_t_start 6 = .ok (.iload_n 1, 1) := by decide +kernel
theorem d_t_start_7 : decode b_t_start 7 = .ok (.putfield 30, 3) := by decide +kernel
theorem d_t_start_10 : decode b_t_start 10 = .ok (.aload_n 0, 1) := by decide +kernel
theorem d_t_start_11 : decode b_t_start 11 = .ok (.iload_n 2, 1) := by decide +kernel
theorem d_t_start_12 : decode b_t_start 12 = .ok (.putfield 34, 3) := by decide +kernel
theorem d_t_start_15 : decode b_t_start 15 = .ok (.aload_n 0, 1) := by decide +kernel
theorem d_t_start_16 : decode b_t_start 16 = .ok (.iload_n 3, 1) := by decide +kernel
theorem d_t_start_17 : decode b_t_start 17 = .ok (.putfield 37, 3) := by decide +kernel
theorem d_t_start_20 : decode b_t_start 20 = .ok (.aload_n 0, 1) := by decide +kernel
theorem d_t_start_21 : decode b_t_start 21 = .ok (.iload 4, 2) := by decide +kernel
theorem d_t_start_23 : decode b_t_start 23 = .ok (.putfield 40, 3) := by decide +kernel
theorem d_t_start_26 : decode b_t_start 26 = .ok (.aload_n 0, 1) := by decide +kernel
theorem d_t_start_27 : decode b_t_start 27 = .ok (.iconst 0, 1) := by decide +kernel
theorem d_t_start_28 : decode b_t_start 28 = .ok (.putfield 43, 3) := by decide +kernel
theorem d_t_start_31 : decode b_t_start 31 = .ok (.aload_n 0, 1) := by decide +kernel
theorem d_t_start_32 : decode b_t_start 32 = .ok (.getfield 9, 3) := by decide +kernel
theorem d_t_start_35 : decode b_t_start 35 = .ok (.iload_n 1, 1) := by decide +kernel
theorem d_t_start_36 : decode b_t_start 36 = .ok (.invokevirtual 57, 3) := by decide +kernel
theorem d_t_start_39 : decode b_t_start 39 = .ok (.aload_n 0, 1) := by decide +kernel
theorem d_t_start_40 : decode b_t_start 40 = .ok (.getfield 23, 3) := by decide +kernel
theorem d_t_start_43 : decode b_t_start 43 = .ok (.ldc2_w 62, 3) := by decide +kernel
theorem d_t_start_46 : decode b_t_start 46 = .ok (.lxor, 1) := by decide +kernel
theorem d_t_start_47 : decode b_t_start 47 = .ok (.land, 1) := by decide +kernel
theorem d_t_start_48 : decode b_t_start 48 = .ok (.lstore 5, 2) := by decide +kernel
theorem d_t_start_50 : decode b_t_start 50 = .ok (.iconst 0, 1) := by decide +kernel
theorem d_t_start_51 : decode b_t_start 51 = .ok (.istore 7, 2) := by decide +kernel
theorem d_t_start_53 : decode b_t_start 53 = .ok (.iload 7, 2) := by decide +kernel
theorem d_t_start_55 : decode b_t_start 55 = .ok (.aload_n 0, 1) := by decide +kernel
theorem d_t_start_56 : decode b_t_start 56 = .ok (.getfield 15, 3) := by decide +kernel
theorem d_t_start_59 : decode b_t_start 59 = .ok (.arraylength, 1) := by decide +kernel
theorem d_t_start_60 : decode b_t_start 60 = .ok (.if_icmp .ge 31, 3) := by decide +kernel
theorem d_t_start_63 : decode b_t_start 63 = .ok (.aload_n 0, 1) := by decide +kernel
theorem d_t_start_64 : decode b_t_start 64 = .ok (.getfield 15, 3) := by decide +kernel
theorem d_t_start_67 : decode b_t_start 67 = .ok (.iload 7, 2) := by decide +kernel
theorem d_t_start_69 : decode b_t_start 69 = .ok (.lload 5, 2) := by decide +kernel
theorem d_t_start_71 : decode b_t_start 71 = .ok (.iload 7, 2) := by decide +kernel
theorem d_t_start_73 : decode b_t_start 73 = .ok (.invokestatic 49, 3) := by decide +kernel
theorem d_t_start_76 : decode b_t_start 76 = .ok (.ifCond .eq 7, 3) := by decide +kernel
theorem d_t_start_79 : decode b_t_start 79 = .ok (.lconst 1, 1) := by decide +kernel
theorem d_t_start_80 : decode b_t_start 80 = .ok (.goto 4, 3) := by decide +kernel
theorem d_t_start_83 : decode b_t_start 83 = .ok (.lconst 0, 1) := by decide +kernel
theorem d_t_start_84 : decode b_t_start 84 = .ok (.lastore, 1) := by decide +kernel
theorem d_t_start_85 : decode b_t_start 85 = .ok (.iinc 7 1, 3) := by decide +kernel
theorem d_t_start_88 : decode b_t_start 88 = .ok (.goto (-35), 3) := by decide +kernel
theorem d_t_start_91 : decode b_t_start 91 = .ok (.lload 5, 2) := by decide +kernel
theorem d_t_start_93 : decode b_t_start 93 = .ok (.invokestatic 64, 3) := by decide +kernel
theorem d_t_start_96 : decode b_t_start 96 = .ok (.ireturn, 1) := by decide +kernel
def L_t_start_53 (cl : Int64) (wt : Nat → Int64) (rs : Nat → Int64) (sz : Int32) (zb : Int32) (zp : Int32) (zq : Int32) (zu : Int32) : Nat → Int32 → (Nat → Int64) → Int32 × Bool × Int32 × Int32 × Int32 × Int32 × Int32 × (Nat → Int64)
  | 0, _, wq => (0, false, 0, 0, 0, 0, 0, wq)
  | n + 1, xi, wq => if 40 ≤ xi then
    ((f_lo_bitCount ((f_g_reach rs sz zb) &&& (cl ^^^ (-1))), true, zb, zp, zq, zu, 0, wq))
  else
    (if (f_x_contains ((f_g_reach rs sz zb) &&& (cl ^^^ (-1))) xi) = true then
      (L_t_start_53 cl wt rs sz zb zp zq zu n (xi + 1) (vp_updL wq xi.toNatClampNeg 1))
    else
      (L_t_start_53 cl wt rs sz zb zp zq zu n (xi + 1) (vp_updL wq xi.toNatClampNeg 0)))
theorem L_t_start_53_s (cl : Int64) (wt : Nat → Int64) (rs : Nat → Int64) (sz : Int32) (zb : Int32) (zp : Int32) (zq : Int32) (zu : Int32) (n : Nat) (xi : Int32) (wq : Nat → Int64) : L_t_start_53 cl wt rs sz zb zp zq zu (n + 1) xi wq = if 40 ≤ xi then
    ((f_lo_bitCount ((f_g_reach rs sz zb) &&& (cl ^^^ (-1))), true, zb, zp, zq, zu, 0, wq))
  else
    (if (f_x_contains ((f_g_reach rs sz zb) &&& (cl ^^^ (-1))) xi) = true then
      (L_t_start_53 cl wt rs sz zb zp zq zu n (xi + 1) (vp_updL wq xi.toNatClampNeg 1))
    else
      (L_t_start_53 cl wt rs sz zb zp zq zu n (xi + 1) (vp_updL wq xi.toNatClampNeg 0))) := rfl
def f_t_start (cl : Int64) (wt : Nat → Int64) (rs : Nat → Int64) (sz : Int32) (zb : Int32) (zp : Int32) (zq : Int32) (zu : Int32) : Int32 × Bool × Int32 × Int32 × Int32 × Int32 × Int32 × (Nat → Int64) := L_t_start_53 cl wt rs sz zb zp zq zu 41 0 wt
set_option maxHeartbeats 4000000 in
set_option maxRecDepth 100000 in
theorem c_t_start (l : Launch) (D : va_G) (cA : Nat → ClassId) (t wa : Nat) (go cl : Int64) (se : Bool) (bad fp fq su an sks : Int32) (wt : Nat → Int64) (g pa re : Nat) (ps rs : Nat → Int64) (sz : Int32) (bu sk : Int64) (zb : Int32) (zp : Int32) (zq : Int32) (zu : Int32) : Met l y_t_start (.code y_t_start b_t_start 8 (some .int) :: tb) (rmd 3) (Pro D cA [.ref t, .int zb, .int zp, .int zq, .int zu] (fun H0 => va_P D classes [(t, .inr (2, [.ref g, .ref wa, .long go, .long cl, .int (bz se), .int bad, .int fp, .int fq, .int su, .int an, .int sks])), (wa, .inl (cA 0, 40, .inr (.inl wt))), (g, .inr (1, [.ref pa, .ref re, .int sz, .long bu, .long sk])), (pa, .inl (cA 0, 40, .inr (.inl ps))), (re, .inl (cA 0, 40, .inr (.inl rs)))] H0 ∧ va_D (fun _ => True) [(t, .inr (2, [.ref g, .ref wa, .long go, .long cl, .int (bz se), .int bad, .int fp, .int fq, .int su, .int an, .int sks])), (wa, .inl (cA 0, 40, .inr (.inl wt))), (g, .inr (1, [.ref pa, .ref re, .int sz, .long bu, .long sk])), (pa, .inl (cA 0, 40, .inr (.inl ps))), (re, .inl (cA 0, 40, .inr (.inl rs)))])) (Qmu (aw [(t, .inr (2, [.ref g, .ref wa, .long go, .long cl, .int (bz se), .int bad, .int fp, .int fq, .int su, .int an, .int sks])), (wa, .inl (cA 0, 40, .inr (.inl wt))), (g, .inr (1, [.ref pa, .ref re, .int sz, .long bu, .long sk])), (pa, .inl (cA 0, 40, .inr (.inl ps))), (re, .inl (cA 0, 40, .inr (.inl rs)))]) (fun v0 H0 => v0 = some (.int ((f_t_start cl wt rs sz zb zp zq zu).1)) ∧ va_P D classes [(t, .inr (2, [.ref g, .ref wa, .long go, .long cl, .int (bz ((f_t_start cl wt rs sz zb zp zq zu).2.1)), .int ((f_t_start cl wt rs sz zb zp zq zu).2.2.1), .int ((f_t_start cl wt rs sz zb zp zq zu).2.2.2.1), .int ((f_t_start cl wt rs sz zb zp zq zu).2.2.2.2.1), .int ((f_t_start cl wt rs sz zb zp zq zu).2.2.2.2.2.1), .int ((f_t_start cl wt rs sz zb zp zq zu).2.2.2.2.2.2.1), .int sks])), (wa, .inl (cA 0, 40, .inr (.inl ((f_t_start cl wt rs sz zb zp zq zu).2.2.2.2.2.2.2)))), (g, .inr (1, [.ref pa, .ref re, .int sz, .long bu, .long sk])), (pa, .inl (cA 0, 40, .inr (.inl ps))), (re, .inl (cA 0, 40, .inr (.inl rs)))] H0 ∧ va_D (aw [(t, .inr (2, [.ref g, .ref wa, .long go, .long cl, .int (bz se), .int bad, .int fp, .int fq, .int su, .int an, .int sks])), (wa, .inl (cA 0, 40, .inr (.inl wt))), (g, .inr (1, [.ref pa, .ref re, .int sz, .long bu, .long sk])), (pa, .inl (cA 0, 40, .inr (.inl ps))), (re, .inl (cA 0, 40, .inr (.inl rs)))]) [(t, .inr (2, [.ref g, .ref wa, .long go, .long cl, .int (bz ((f_t_start cl wt rs sz zb zp zq zu).2.1)), .int ((f_t_start cl wt rs sz zb zp zq zu).2.2.1), .int ((f_t_start cl wt rs sz zb zp zq zu).2.2.2.1), .int ((f_t_start cl wt rs sz zb zp zq zu).2.2.2.2.1), .int ((f_t_start cl wt rs sz zb zp zq zu).2.2.2.2.2.1), .int ((f_t_start cl wt rs sz zb zp zq zu).2.2.2.2.2.2.1), .int sks])), (wa, .inl (cA 0, 40, .inr (.inl ((f_t_start cl wt rs sz zb zp zq zu).2.2.2.2.2.2.2)))), (g, .inr (1, [.ref pa, .ref re, .int sz, .long bu, .long sk])), (pa, .inl (cA 0, 40, .inr (.inl ps))), (re, .inl (cA 0, 40, .inr (.inl rs)))])) 0 0 (aw [(t, .inr (2, [.ref g, .ref wa, .long go, .long cl, .int (bz se), .int bad, .int fp, .int fq, .int su, .int an, .int sks])), (wa, .inl (cA 0, 40, .inr (.inl wt))), (g, .inr (1, [.ref pa, .ref re, .int sz, .long bu, .long sk])), (pa, .inl (cA 0, 40, .inr (.inl ps))), (re, .inl (cA 0, 40, .inr (.inl rs)))]) := by
  refine ro_in (by decide) (Nat.le_of_ble_eq_true rfl) (fun p e s m below meth c ls FX hnm hK hP hl => ?_)
  have hl : lv_has ls 8 [(0, .ref t), (1, .int zb), (2, .int zp), (3, .int zq), (4, .int zu)] := hl
  obtain ⟨hP, hD0⟩ := hP
  have hP : va_P D classes [(t, .inr (2, [.ref g, .ref wa, .long go, .long cl, .int (bz se), .int bad, .int fp, .int fq, .int su, .int an, .int sks])), (wa, .inl (cA 0, 40, .inr (.inl wt))), (g, .inr (1, [.ref pa, .ref re, .int sz, .long bu, .long sk])), (pa, .inl (cA 0, 40, .inr (.inl ps))), (re, .inl (cA 0, 40, .inr (.inl rs)))] s.heap := hP
  have hD : va_D (aw [(t, .inr (2, [.ref g, .ref wa, .long go, .long cl, .int (bz se), .int bad, .int fp, .int fq, .int su, .int an, .int sks])), (wa, .inl (cA 0, 40, .inr (.inl wt))), (g, .inr (1, [.ref pa, .ref re, .int sz, .long bu, .long sk])), (pa, .inl (cA 0, 40, .inr (.inl ps))), (re, .inl (cA 0, 40, .inr (.inl rs)))]) [(t, .inr (2, [.ref g, .ref wa, .long go, .long cl, .int (bz se), .int bad, .int fp, .int fq, .int su, .int an, .int sks])), (wa, .inl (cA 0, 40, .inr (.inl wt))), (g, .inr (1, [.ref pa, .ref re, .int sz, .long bu, .long sk])), (pa, .inl (cA 0, 40, .inr (.inl ps))), (re, .inl (cA 0, 40, .inr (.inl rs)))] := aw_self hD0
  generalize (aw [(t, .inr (2, [.ref g, .ref wa, .long go, .long cl, .int (bz se), .int bad, .int fp, .int fq, .int su, .int an, .int sks])), (wa, .inl (cA 0, 40, .inr (.inl wt))), (g, .inr (1, [.ref pa, .ref re, .int sz, .long bu, .long sk])), (pa, .inl (cA 0, 40, .inr (.inl ps))), (re, .inl (cA 0, 40, .inr (.inl rs)))]) = A at hD ⊢
  have hS : va_S A s.heap s.heap [] := va_S.rf
  generalize ([.ref t, .int zb, .int zp, .int zq, .int zu] : List Value).toArray = args at FX ⊢
  obtain ⟨hx, hb, hml, hown, hts, hr, hlk⟩ := id FX
  refine lv_aload_n hx hb d_t_start_0 rfl (lv_at hl 0 rfl) ?_
  refine lv_iconst (v := 1) hx hb d_t_start_1 (by decide) ?_
  refine W.eq (g2 := F0 m 2 ls [.int (bz true), .ref t]) rfl ?_
  refine va_put (D := D) (v := .int (bz true)) (ty := .boolean) hx hb hts i_t t_t t_t_ok n_t hown hK.1 hP hD hS 0 rfl rfl 4 (by decide) (hts _ kf_t_26) (fun _ h9 => h9) rfl (by decide +kernel) (bz_n _) (bz_ft _) (Nat.le_of_ble_eq_true rfl) d_t_start_2 (fun H locs hP hD hS => ?_)
  have hP : va_P D classes [(t, .inr (2, [.ref g, .ref wa, .long go, .long cl, .int (bz true), .int bad, .int fp, .int fq, .int su, .int an, .int sks])), (wa, .inl (cA 0, 40, .inr (.inl wt))), (g, .inr (1, [.ref pa, .ref re, .int sz, .long bu, .long sk])), (pa, .inl (cA 0, 40, .inr (.inl ps))), (re, .inl (cA 0, 40, .inr (.inl rs)))] H := hP
  have hD : va_D A [(t, .inr (2, [.ref g, .ref wa, .long go, .long cl, .int (bz true), .int bad, .int fp, .int fq, .int su, .int an, .int sks])), (wa, .inl (cA 0, 40, .inr (.inl wt))), (g, .inr (1, [.ref pa, .ref re, .int sz, .long bu, .long sk])), (pa, .inl (cA 0, 40, .inr (.inl ps))), (re, .inl (cA 0, 40, .inr (.inl rs)))] := hD
  refine lv_aload_n hx hb d_t_start_5 rfl (lv_at hl 0 rfl) ?_
  refine lv_iload_n hx hb d_t_start_6 rfl (lv_at hl 1 rfl) ?_
  refine va_put (D := D) (v := .int zb) (ty := .int) hx hb hts i_t t_t t_t_ok n_t hown hK.1 hP hD hS 0 rfl rfl 5 (by decide) (hts _ kf_t_30) (fun _ h9 => h9) rfl (by decide +kernel) rfl rfl (Nat.le_of_ble_eq_true rfl) d_t_start_7 (fun H locs hP hD hS => ?_)
  have hP : va_P D classes [(t, .inr (2, [.ref g, .ref wa, .long go, .long cl, .int (bz true), .int zb, .int fp, .int fq, .int su, .int an, .int sks])), (wa, .inl (cA 0, 40, .inr (.inl wt))), (g, .inr (1, [.ref pa, .ref re, .int sz, .long bu, .long sk])), (pa, .inl (cA 0, 40, .inr (.inl ps))), (re, .inl (cA 0, 40, .inr (.inl rs)))] H := hP
  have hD : va_D A [(t, .inr (2, [.ref g, .ref wa, .long go, .long cl, .int (bz true), .int zb, .int fp, .int fq, .int su, .int an, .int sks])), (wa, .inl (cA 0, 40, .inr (.inl wt))), (g, .inr (1, [.ref pa, .ref re, .int sz, .long bu, .long sk])), (pa, .inl (cA 0, 40, .inr (.inl ps))), (re, .inl (cA 0, 40, .inr (.inl rs)))] := hD
  refine lv_aload_n hx hb d_t_start_10 rfl (lv_at hl 0 rfl) ?_
  refine lv_iload_n hx hb d_t_start_11 rfl (lv_at hl 2 rfl) ?_
  refine va_put (D := D) (v := .int zp) (ty := .int) hx hb hts i_t t_t t_t_ok n_t hown hK.1 hP hD hS 0 rfl rfl 6 (by decide) (hts _ kf_t_34) (fun _ h9 => h9) rfl (by decide +kernel) rfl rfl (Nat.le_of_ble_eq_true rfl) d_t_start_12 (fun H locs hP hD hS => ?_)
  have hP : va_P D classes [(t, .inr (2, [.ref g, .ref wa, .long go, .long cl, .int (bz true), .int zb, .int zp, .int fq, .int su, .int an, .int sks])), (wa, .inl (cA 0, 40, .inr (.inl wt))), (g, .inr (1, [.ref pa, .ref re, .int sz, .long bu, .long sk])), (pa, .inl (cA 0, 40, .inr (.inl ps))), (re, .inl (cA 0, 40, .inr (.inl rs)))] H := hP
  have hD : va_D A [(t, .inr (2, [.ref g, .ref wa, .long go, .long cl, .int (bz true), .int zb, .int zp, .int fq, .int su, .int an, .int sks])), (wa, .inl (cA 0, 40, .inr (.inl wt))), (g, .inr (1, [.ref pa, .ref re, .int sz, .long bu, .long sk])), (pa, .inl (cA 0, 40, .inr (.inl ps))), (re, .inl (cA 0, 40, .inr (.inl rs)))] := hD
  refine lv_aload_n hx hb d_t_start_15 rfl (lv_at hl 0 rfl) ?_
  refine lv_iload_n hx hb d_t_start_16 rfl (lv_at hl 3 rfl) ?_
  refine va_put (D := D) (v := .int zq) (ty := .int) hx hb hts i_t t_t t_t_ok n_t hown hK.1 hP hD hS 0 rfl rfl 7 (by decide) (hts _ kf_t_37) (fun _ h9 => h9) rfl (by decide +kernel) rfl rfl (Nat.le_of_ble_eq_true rfl) d_t_start_17 (fun H locs hP hD hS => ?_)
  have hP : va_P D classes [(t, .inr (2, [.ref g, .ref wa, .long go, .long cl, .int (bz true), .int zb, .int zp, .int zq, .int su, .int an, .int sks])), (wa, .inl (cA 0, 40, .inr (.inl wt))), (g, .inr (1, [.ref pa, .ref re, .int sz, .long bu, .long sk])), (pa, .inl (cA 0, 40, .inr (.inl ps))), (re, .inl (cA 0, 40, .inr (.inl rs)))] H := hP
  have hD : va_D A [(t, .inr (2, [.ref g, .ref wa, .long go, .long cl, .int (bz true), .int zb, .int zp, .int zq, .int su, .int an, .int sks])), (wa, .inl (cA 0, 40, .inr (.inl wt))), (g, .inr (1, [.ref pa, .ref re, .int sz, .long bu, .long sk])), (pa, .inl (cA 0, 40, .inr (.inl ps))), (re, .inl (cA 0, 40, .inr (.inl rs)))] := hD
  refine lv_aload_n hx hb d_t_start_20 rfl (lv_at hl 0 rfl) ?_
  refine lv_iload hx hb d_t_start_21 (lv_at hl 4 rfl) ?_
  refine va_put (D := D) (v := .int zu) (ty := .int) hx hb hts i_t t_t t_t_ok n_t hown hK.1 hP hD hS 0 rfl rfl 8 (by decide) (hts _ kf_t_40) (fun _ h9 => h9) rfl (by decide +kernel) rfl rfl (Nat.le_of_ble_eq_true rfl) d_t_start_23 (fun H locs hP hD hS => ?_)
  have hP : va_P D classes [(t, .inr (2, [.ref g, .ref wa, .long go, .long cl, .int (bz true), .int zb, .int zp, .int zq, .int zu, .int an, .int sks])), (wa, .inl (cA 0, 40, .inr (.inl wt))), (g, .inr (1, [.ref pa, .ref re, .int sz, .long bu, .long sk])), (pa, .inl (cA 0, 40, .inr (.inl ps))), (re, .inl (cA 0, 40, .inr (.inl rs)))] H := hP
  have hD : va_D A [(t, .inr (2, [.ref g, .ref wa, .long go, .long cl, .int (bz true), .int zb, .int zp, .int zq, .int zu, .int an, .int sks])), (wa, .inl (cA 0, 40, .inr (.inl wt))), (g, .inr (1, [.ref pa, .ref re, .int sz, .long bu, .long sk])), (pa, .inl (cA 0, 40, .inr (.inl ps))), (re, .inl (cA 0, 40, .inr (.inl rs)))] := hD
  refine lv_aload_n hx hb d_t_start_26 rfl (lv_at hl 0 rfl) ?_
  refine lv_iconst (v := 0) hx hb d_t_start_27 (by decide) ?_
  refine va_put (D := D) (v := .int 0) (ty := .int) hx hb hts i_t t_t t_t_ok n_t hown hK.1 hP hD hS 0 rfl rfl 9 (by decide) (hts _ kf_t_43) (fun _ h9 => h9) rfl (by decide +kernel) rfl rfl (Nat.le_of_ble_eq_true rfl) d_t_start_28 (fun H locs hP hD hS => ?_)
  have hP : va_P D classes [(t, .inr (2, [.ref g, .ref wa, .long go, .long cl, .int (bz true), .int zb, .int zp, .int zq, .int zu, .int 0, .int sks])), (wa, .inl (cA 0, 40, .inr (.inl wt))), (g, .inr (1, [.ref pa, .ref re, .int sz, .long bu, .long sk])), (pa, .inl (cA 0, 40, .inr (.inl ps))), (re, .inl (cA 0, 40, .inr (.inl rs)))] H := hP
  have hD : va_D A [(t, .inr (2, [.ref g, .ref wa, .long go, .long cl, .int (bz true), .int zb, .int zp, .int zq, .int zu, .int 0, .int sks])), (wa, .inl (cA 0, 40, .inr (.inl wt))), (g, .inr (1, [.ref pa, .ref re, .int sz, .long bu, .long sk])), (pa, .inl (cA 0, 40, .inr (.inl ps))), (re, .inl (cA 0, 40, .inr (.inl rs)))] := hD
  refine lv_aload_n hx hb d_t_start_31 rfl (lv_at hl 0 rfl) ?_
  refine ro_get (v := .ref g) FX hK hP 0 0 rfl rfl rfl i_t (by decide) kf_t_9 d_t_start_32 ?_
  refine lv_iload_n hx hb d_t_start_35 rfl (lv_at hl 1 rfl) ?_
  refine ro_V (v := .long (f_g_reach rs sz zb)) (As := [.int zb]) (rest := []) (q0 := 2) FX hK (c_g_reach l D cA g pa re ps rs sz bu sk zb) (hP.sub [2, 3, 4] rfl) hP rfl rfl rfl kc_g_reach km_t_57 ki_g ks_g_reach ke_g_reach rfl ok_g_reach ⟨Nat.le_of_ble_eq_true rfl, Nat.le_of_ble_eq_true rfl⟩ ⟨Nat.zero_le _, Nat.zero_le _⟩ hl.1 rfl (Nat.le_of_ble_eq_true rfl) d_t_start_36 ?_
  refine lv_aload_n hx hb d_t_start_39 rfl (lv_at hl 0 rfl) ?_
  refine ro_get (v := .long cl) FX hK hP 0 3 rfl rfl rfl i_t (by decide) kf_t_23 d_t_start_40 ?_
  refine lv_ldc2 (v := (-1)) hx hb hown (hts _ kl_t_62) d_t_start_43 ?_
  refine lv_lxor hx hb d_t_start_46 ?_
  refine lv_land hx hb d_t_start_47 ?_
  refine lv_lstore (lv' := [(5, .long ((f_g_reach rs sz zb) &&& (cl ^^^ (-1)))), (0, .ref t), (1, .int zb), (2, .int zp), (3, .int zq), (4, .int zu)]) hx hb d_t_start_48 hl (by decide) rfl (fun ls hl => ?_)
  refine lv_iconst (v := 0) hx hb d_t_start_50 (by decide) ?_
  refine lv_istore (lv' := [(7, .int 0), (5, .long ((f_g_reach rs sz zb) &&& (cl ^^^ (-1)))), (0, .ref t), (1, .int zb), (2, .int zp), (3, .int zq), (4, .int zu)]) hx hb d_t_start_51 hl (by decide) rfl (fun ls hl => ?_)
  have loop : ∀ (n k : Nat) (xi : Int32) (wq : Nat → Int64) (ls : Array Slot) (H : Heap) (locs : List Loc), k + n = 41 → k ≤ 40 → xi = nI k → va_P D classes [(t, .inr (2, [.ref g, .ref wa, .long go, .long cl, .int (bz true), .int zb, .int zp, .int zq, .int zu, .int 0, .int sks])), (wa, .inl (cA 0, 40, .inr (.inl wq))), (g, .inr (1, [.ref pa, .ref re, .int sz, .long bu, .long sk])), (pa, .inl (cA 0, 40, .inr (.inl ps))), (re, .inl (cA 0, 40, .inr (.inl rs)))] H → va_D A [(t, .inr (2, [.ref g, .ref wa, .long go, .long cl, .int (bz true), .int zb, .int zp, .int zq, .int zu, .int 0, .int sks])), (wa, .inl (cA 0, 40, .inr (.inl wq))), (g, .inr (1, [.ref pa, .ref re, .int sz, .long bu, .long sk])), (pa, .inl (cA 0, 40, .inr (.inl ps))), (re, .inl (cA 0, 40, .inr (.inl rs)))] → va_S A s.heap H locs → lv_has ls 8 [(0, .ref t), (5, .long ((f_g_reach rs sz zb) &&& (cl ^^^ (-1)))), (7, .int xi)] → W p l e (rmd 3) s m args below meth c H locs 0 0 (MQ below (Qmu A (fun v0 H0 => v0 = some (.int ((L_t_start_53 cl wt rs sz zb zp zq zu n xi wq).1)) ∧ va_P D classes [(t, .inr (2, [.ref g, .ref wa, .long go, .long cl, .int (bz ((L_t_start_53 cl wt rs sz zb zp zq zu n xi wq).2.1)), .int ((L_t_start_53 cl wt rs sz zb zp zq zu n xi wq).2.2.1), .int ((L_t_start_53 cl wt rs sz zb zp zq zu n xi wq).2.2.2.1), .int ((L_t_start_53 cl wt rs sz zb zp zq zu n xi wq).2.2.2.2.1), .int ((L_t_start_53 cl wt rs sz zb zp zq zu n xi wq).2.2.2.2.2.1), .int ((L_t_start_53 cl wt rs sz zb zp zq zu n xi wq).2.2.2.2.2.2.1), .int sks])), (wa, .inl (cA 0, 40, .inr (.inl ((L_t_start_53 cl wt rs sz zb zp zq zu n xi wq).2.2.2.2.2.2.2)))), (g, .inr (1, [.ref pa, .ref re, .int sz, .long bu, .long sk])), (pa, .inl (cA 0, 40, .inr (.inl ps))), (re, .inl (cA 0, 40, .inr (.inl rs)))] H0 ∧ va_D A [(t, .inr (2, [.ref g, .ref wa, .long go, .long cl, .int (bz ((L_t_start_53 cl wt rs sz zb zp zq zu n xi wq).2.1)), .int ((L_t_start_53 cl wt rs sz zb zp zq zu n xi wq).2.2.1), .int ((L_t_start_53 cl wt rs sz zb zp zq zu n xi wq).2.2.2.1), .int ((L_t_start_53 cl wt rs sz zb zp zq zu n xi wq).2.2.2.2.1), .int ((L_t_start_53 cl wt rs sz zb zp zq zu n xi wq).2.2.2.2.2.1), .int ((L_t_start_53 cl wt rs sz zb zp zq zu n xi wq).2.2.2.2.2.2.1), .int sks])), (wa, .inl (cA 0, 40, .inr (.inl ((L_t_start_53 cl wt rs sz zb zp zq zu n xi wq).2.2.2.2.2.2.2)))), (g, .inr (1, [.ref pa, .ref re, .int sz, .long bu, .long sk])), (pa, .inl (cA 0, 40, .inr (.inl ps))), (re, .inl (cA 0, 40, .inr (.inl rs)))])) args s 0 0 A) (F0 m 53 ls []) := by
    intro n
    induction n with
    | zero =>
      intro k xi wq ls H locs h1 h2
      exact absurd h1 (by omega)
    | succ n ih =>
      intro k xi wq ls H locs hkn hk hxi hP hD hS hl
      refine lv_iload hx hb d_t_start_53 (lv_at hl 2 rfl) ?_
      refine lv_aload_n hx hb d_t_start_55 rfl (lv_at hl 0 rfl) ?_
      refine ro_get (v := .ref wa) FX hK hP 0 1 rfl rfl rfl i_t (by decide) kf_t_15 d_t_start_56 ?_
      refine va_alen (v := 40) hx hb hK.1 hP 1 0 rfl rfl rfl d_t_start_59 ?_
      refine lv_icmp_ge (tgt := 91) hx hb d_t_start_60 (by decide) (fun c1 => ?_) (fun c1 => ?_)
      · have c1 := c1
        refine lv_lload hx hb d_t_start_91 (lv_at hl 1 rfl) ?_
        refine ro_S (v := .int (f_lo_bitCount ((f_g_reach rs sz zb) &&& (cl ^^^ (-1))))) (As := [.long ((f_g_reach rs sz zb) &&& (cl ^^^ (-1)))]) (rest := []) FX hK (c_lo_bitCount l D cA ((f_g_reach rs sz zb) &&& (cl ^^^ (-1)))) trivial kc_lo_bitCount km_t_64 ki_lo ks_lo_bitCount rfl ok_lo_bitCount ⟨Nat.le_of_ble_eq_true rfl, Nat.le_of_ble_eq_true rfl⟩ ⟨Nat.zero_le _, Nat.zero_le _⟩ hl.1 rfl (Nat.le_of_ble_eq_true rfl) d_t_start_93 ?_
        exact mu_iret FX hS (by rw [show (L_t_start_53 cl wt rs sz zb zp zq zu (n + 1) xi wq) = (f_lo_bitCount ((f_g_reach rs sz zb) &&& (cl ^^^ (-1))), true, zb, zp, zq, zu, 0, wq) from (by rw [L_t_start_53_s, if_pos c1])]; exact ⟨rfl, hP, hD⟩) d_t_start_96
      · have c1 := c1
        have hk1 : k < 40 := k_lt hxi rfl c1 (by omega)
        refine lv_aload_n hx hb d_t_start_63 rfl (lv_at hl 0 rfl) ?_
        refine ro_get (v := .ref wa) FX hK hP 0 1 rfl rfl rfl i_t (by decide) kf_t_15 d_t_start_64 ?_
        refine lv_iload hx hb d_t_start_67 (lv_at hl 2 rfl) ?_
        refine lv_lload hx hb d_t_start_69 (lv_at hl 1 rfl) ?_
        refine lv_iload hx hb d_t_start_71 (lv_at hl 2 rfl) ?_
        refine ro_SN (v := .int (bz (f_x_contains ((f_g_reach rs sz zb) &&& (cl ^^^ (-1))) xi))) (As := [.long ((f_g_reach rs sz zb) &&& (cl ^^^ (-1))), .int xi]) (rest := [.int xi, .ref wa]) FX hK (c_x_contains l D cA ((f_g_reach rs sz zb) &&& (cl ^^^ (-1))) xi) trivial kc_x_contains km_t_49 ki_x ks_x_contains rfl ok_x_contains ⟨Nat.le_of_ble_eq_true rfl, Nat.le_of_ble_eq_true rfl⟩ ⟨Nat.zero_le _, Nat.zero_le _⟩ hl.1 rfl (Nat.le_of_ble_eq_true rfl) d_t_start_73 ?_
        refine lv_if_eq (tgt := 83) hx hb d_t_start_76 (by decide) (fun c2 => ?_) (fun c2 => ?_)
        · have c2 := bz_f c2
          refine lv_lconst (v := 0) hx hb d_t_start_83 (by decide) ?_
          refine va_last (x := 0) hx hb hK.1 hP hD hS 1 0 rfl rfl (vin hxi hk1 (by decide)) d_t_start_84 (fun H locs hP hD hS => ?_)
          have hP : va_P D classes [(t, .inr (2, [.ref g, .ref wa, .long go, .long cl, .int (bz true), .int zb, .int zp, .int zq, .int zu, .int 0, .int sks])), (wa, .inl (cA 0, 40, .inr (.inl (vp_updL wq xi.toNatClampNeg 0)))), (g, .inr (1, [.ref pa, .ref re, .int sz, .long bu, .long sk])), (pa, .inl (cA 0, 40, .inr (.inl ps))), (re, .inl (cA 0, 40, .inr (.inl rs)))] H := hP
          have hD : va_D A [(t, .inr (2, [.ref g, .ref wa, .long go, .long cl, .int (bz true), .int zb, .int zp, .int zq, .int zu, .int 0, .int sks])), (wa, .inl (cA 0, 40, .inr (.inl (vp_updL wq xi.toNatClampNeg 0)))), (g, .inr (1, [.ref pa, .ref re, .int sz, .long bu, .long sk])), (pa, .inl (cA 0, 40, .inr (.inl ps))), (re, .inl (cA 0, 40, .inr (.inl rs)))] := hD
          refine lv_iinc (v := xi + 1) (lv' := [(7, .int (xi + 1)), (0, .ref t), (5, .long ((f_g_reach rs sz zb) &&& (cl ^^^ (-1))))]) hx hb d_t_start_85 hl (k := 2) rfl rfl (by decide) rfl (fun ls hl => ?_)
          refine lv_goto (tgt := 53) hx hb d_t_start_88 (by decide) ?_
          rw [show (L_t_start_53 cl wt rs sz zb zp zq zu (n + 1) xi wq) = L_t_start_53 cl wt rs sz zb zp zq zu n (xi + 1) (vp_updL wq xi.toNatClampNeg 0) from (by rw [L_t_start_53_s, if_neg c1, if_neg c2])]
          exact ih (k + 1) (xi + 1) (vp_updL wq xi.toNatClampNeg 0) ls H locs (by omega) (by omega) (by rw [hxi]; exact nI_1 _)  hP hD hS (lv_sub hl [1, 2, 0] rfl)
        · have c2 := bz_t c2
          refine lv_lconst (v := 1) hx hb d_t_start_79 (by decide) ?_
          refine lv_goto (tgt := 84) hx hb d_t_start_80 (by decide) ?_
          refine va_last (x := 1) hx hb hK.1 hP hD hS 1 0 rfl rfl (vin hxi hk1 (by decide)) d_t_start_84 (fun H locs hP hD hS => ?_)
          have hP : va_P D classes [(t, .inr (2, [.ref g, .ref wa, .long go, .long cl, .int (bz true), .int zb, .int zp, .int zq, .int zu, .int 0, .int sks])), (wa, .inl (cA 0, 40, .inr (.inl (vp_updL wq xi.toNatClampNeg 1)))), (g, .inr (1, [.ref pa, .ref re, .int sz, .long bu, .long sk])), (pa, .inl (cA 0, 40, .inr (.inl ps))), (re, .inl (cA 0, 40, .inr (.inl rs)))] H := hP
          have hD : va_D A [(t, .inr (2, [.ref g, .ref wa, .long go, .long cl, .int (bz true), .int zb, .int zp, .int zq, .int zu, .int 0, .int sks])), (wa, .inl (cA 0, 40, .inr (.inl (vp_updL wq xi.toNatClampNeg 1)))), (g, .inr (1, [.ref pa, .ref re, .int sz, .long bu, .long sk])), (pa, .inl (cA 0, 40, .inr (.inl ps))), (re, .inl (cA 0, 40, .inr (.inl rs)))] := hD
          refine lv_iinc (v := xi + 1) (lv' := [(7, .int (xi + 1)), (0, .ref t), (5, .long ((f_g_reach rs sz zb) &&& (cl ^^^ (-1))))]) hx hb d_t_start_85 hl (k := 2) rfl rfl (by decide) rfl (fun ls hl => ?_)
          refine lv_goto (tgt := 53) hx hb d_t_start_88 (by decide) ?_
          rw [show (L_t_start_53 cl wt rs sz zb zp zq zu (n + 1) xi wq) = L_t_start_53 cl wt rs sz zb zp zq zu n (xi + 1) (vp_updL wq xi.toNatClampNeg 1) from (by rw [L_t_start_53_s, if_neg c1, if_pos c2])]
          exact ih (k + 1) (xi + 1) (vp_updL wq xi.toNatClampNeg 1) ls H locs (by omega) (by omega) (by rw [hxi]; exact nI_1 _)  hP hD hS (lv_sub hl [1, 2, 0] rfl)
  rw [show (f_t_start cl wt rs sz zb zp zq zu) = L_t_start_53 cl wt rs sz zb zp zq zu 41 0 wt from (by rw [f_t_start])]
  exact loop 41 0 0 wt ls H locs rfl (Nat.zero_le _) rfl  hP hD hS (lv_sub hl [2, 1, 0] rfl)
theorem d_t_learn_0 : decode b_t_learn 0 = .ok (.aload_n 0, 1) := by decide +kernel
theorem d_t_learn_1 : decode b_t_learn 1 = .ok (.getfield 9, 3) := by decide +kernel
theorem d_t_learn_4 : decode b_t_learn 4 = .ok (.iload_n 1, 1) := by decide +kernel
theorem d_t_learn_5 : decode b_t_learn 5 = .ok (.invokevirtual 109, 3) := by decide +kernel
theorem d_t_learn_8 : decode b_t_learn 8 = .ok (.aload_n 0, 1) := by decide +kernel
theorem d_t_learn_9 : decode b_t_learn 9 = .ok (.dup, 1) := by decide +kernel
theorem d_t_learn_10 : decode b_t_learn 10 = .ok (.getfield 43, 3) := by decide +kernel
theorem d_t_learn_13 : decode b_t_learn 13 = .ok (.iconst 1, 1) := by decide +kernel
theorem d_t_learn_14 : decode b_t_learn 14 = .ok (.iadd, 1) := by decide +kernel
theorem d_t_learn_15 : decode b_t_learn 15 = .ok (.putfield 43, 3) := by decide +kernel
theorem d_t_learn_18 : decode b_t_learn 18 = .ok (.aload_n 0, 1) := by decide +kernel
theorem d_t_learn_19 : decode b_t_learn 19 = .ok (.getfield 9, 3) := by decide +kernel
theorem d_t_learn_22 : decode b_t_learn 22 = .ok (.iload_n 1, 1) := by decide +kernel
theorem d_t_learn_23 : decode b_t_learn 23 = .ok (.invokevirtual 57, 3) := by decide +kernel
theorem d_t_learn_26 : decode b_t_learn 26 = .ok (.lstore_n 3, 1) := by decide +kernel
theorem d_t_learn_27 : decode b_t_learn 27 = .ok (.iconst 0, 1) := by decide +kernel
theorem d_t_learn_28 : decode b_t_learn 28 = .ok (.istore 5, 2) := by decide +kernel
theorem d_t_learn_30 : decode b_t_learn 30 = .ok (.iload 5, 2) := by decide +kernel
theorem d_t_learn_32 : decode b_t_learn 32 = .ok (.aload_n 0, 1) := by decide +kernel
theorem d_t_learn_33 : decode b_t_learn 33 = .ok (.getfield 15, 3) := by decide +kernel
theorem d_t_learn_36 : decode b_t_learn 36 = .ok (.arraylength, 1) := by decide +kernel
theorem d_t_learn_37 : decode b_t_learn 37 = .ok (.if_icmp .ge 30, 3) := by decide +kernel
theorem d_t_learn_40 : decode b_t_learn 40 = .ok (.aload_n 0, 1) := by decide +kernel
theorem d_t_learn_41 : decode b_t_learn 41 = .ok (.getfield 15, 3) := by decide +kernel
theorem d_t_learn_44 : decode b_t_learn 44 = .ok (.iload 5, 2) := by decide +kernel
theorem d_t_learn_46 : decode b_t_learn 46 = .ok (.dup2, 1) := by decide +kernel
theorem d_t_learn_47 : decode b_t_learn 47 = .ok (.laload, 1) := by decide +kernel
theorem d_t_learn_48 : decode b_t_learn 48 = .ok (.aload_n 0, 1) := by decide +kernel
theorem d_t_learn_49 : decode b_t_learn 49 = .ok (.iload_n 2, 1) := by decide +kernel
theorem d_t_learn_50 : decode b_t_learn 50 = .ok (.lload_n 3, 1) := by decide +kernel
theorem d_t_learn_51 : decode b_t_learn 51 = .ok (.iload 5, 2) := by decide +kernel
theorem d_t_learn_53 : decode b_t_learn 53 = .ok (.invokestatic 49, 3) := by decide +kernel
theorem d_t_learn_56 : decode b_t_learn 56 = .ok (.invokevirtual 112, 3) := by decide +kernel
theorem d_t_learn_59 : decode b_t_learn 59 = .ok (.lmul, 1) := by decide +kernel
theorem d_t_learn_60 : decode b_t_learn 60 = .ok (.lastore, 1) := by decide +kernel
theorem d_t_learn_61 : decode b_t_learn 61 = .ok (.iinc 5 1, 3) := by decide +kernel
theorem d_t_learn_64 : decode b_t_learn 64 = .ok (.goto (-34), 3) := by decide +kernel
theorem d_t_learn_67 : decode b_t_learn 67 = .ok (.return_, 1) := by decide +kernel
def L_t_learn_30 (fp : Int32) (fq : Int32) (an : Int32) (wt : Nat → Int64) (rs : Nat → Int64) (sz : Int32) (bu : Int64) (nu : Int32) (ou : Int32) : Nat → Int32 → (Nat → Int64) → Int64 × Int32 × (Nat → Int64)
  | 0, _, wq => (0, 0, wq)
  | n + 1, xi, wq => if 40 ≤ xi then
    (((f_g_markBuilt bu nu), an + 1, wq))
  else
    (L_t_learn_30 fp fq an wt rs sz bu nu ou n (xi + 1) (vp_updL wq xi.toNatClampNeg ((wq xi.toNatClampNeg) * (f_t_likelihood fp fq ou (f_x_contains (f_g_reach rs sz nu) xi)))))
theorem L_t_learn_30_s (fp : Int32) (fq : Int32) (an : Int32) (wt : Nat → Int64) (rs : Nat → Int64) (sz : Int32) (bu : Int64) (nu : Int32) (ou : Int32) (n : Nat) (xi : Int32) (wq : Nat → Int64) : L_t_learn_30 fp fq an wt rs sz bu nu ou (n + 1) xi wq = if 40 ≤ xi then
    (((f_g_markBuilt bu nu), an + 1, wq))
  else
    (L_t_learn_30 fp fq an wt rs sz bu nu ou n (xi + 1) (vp_updL wq xi.toNatClampNeg ((wq xi.toNatClampNeg) * (f_t_likelihood fp fq ou (f_x_contains (f_g_reach rs sz nu) xi))))) := rfl
def f_t_learn (fp : Int32) (fq : Int32) (an : Int32) (wt : Nat → Int64) (rs : Nat → Int64) (sz : Int32) (bu : Int64) (nu : Int32) (ou : Int32) : Int64 × Int32 × (Nat → Int64) := L_t_learn_30 fp fq an wt rs sz bu nu ou 41 0 wt
set_option maxHeartbeats 4000000 in
set_option maxRecDepth 100000 in
theorem c_t_learn (l : Launch) (D : va_G) (cA : Nat → ClassId) (t wa : Nat) (go cl : Int64) (se : Bool) (bad fp fq su an sks : Int32) (wt : Nat → Int64) (g pa re : Nat) (ps rs : Nat → Int64) (sz : Int32) (bu sk : Int64) (nu : Int32) (ou : Int32) : Met l y_t_learn (.code y_t_learn b_t_learn 6 none :: tb) (rmd 3) (Pro D cA [.ref t, .int nu, .int ou] (fun H0 => va_P D classes [(t, .inr (2, [.ref g, .ref wa, .long go, .long cl, .int (bz se), .int bad, .int fp, .int fq, .int su, .int an, .int sks])), (wa, .inl (cA 0, 40, .inr (.inl wt))), (g, .inr (1, [.ref pa, .ref re, .int sz, .long bu, .long sk])), (pa, .inl (cA 0, 40, .inr (.inl ps))), (re, .inl (cA 0, 40, .inr (.inl rs)))] H0 ∧ va_D (fun _ => True) [(t, .inr (2, [.ref g, .ref wa, .long go, .long cl, .int (bz se), .int bad, .int fp, .int fq, .int su, .int an, .int sks])), (wa, .inl (cA 0, 40, .inr (.inl wt))), (g, .inr (1, [.ref pa, .ref re, .int sz, .long bu, .long sk])), (pa, .inl (cA 0, 40, .inr (.inl ps))), (re, .inl (cA 0, 40, .inr (.inl rs)))])) (Qmu (aw [(t, .inr (2, [.ref g, .ref wa, .long go, .long cl, .int (bz se), .int bad, .int fp, .int fq, .int su, .int an, .int sks])), (wa, .inl (cA 0, 40, .inr (.inl wt))), (g, .inr (1, [.ref pa, .ref re, .int sz, .long bu, .long sk])), (pa, .inl (cA 0, 40, .inr (.inl ps))), (re, .inl (cA 0, 40, .inr (.inl rs)))]) (fun v0 H0 => v0 = none ∧ va_P D classes [(t, .inr (2, [.ref g, .ref wa, .long go, .long cl, .int (bz se), .int bad, .int fp, .int fq, .int su, .int ((f_t_learn fp fq an wt rs sz bu nu ou).2.1), .int sks])), (wa, .inl (cA 0, 40, .inr (.inl ((f_t_learn fp fq an wt rs sz bu nu ou).2.2)))), (g, .inr (1, [.ref pa, .ref re, .int sz, .long ((f_t_learn fp fq an wt rs sz bu nu ou).1), .long sk])), (pa, .inl (cA 0, 40, .inr (.inl ps))), (re, .inl (cA 0, 40, .inr (.inl rs)))] H0 ∧ va_D (aw [(t, .inr (2, [.ref g, .ref wa, .long go, .long cl, .int (bz se), .int bad, .int fp, .int fq, .int su, .int an, .int sks])), (wa, .inl (cA 0, 40, .inr (.inl wt))), (g, .inr (1, [.ref pa, .ref re, .int sz, .long bu, .long sk])), (pa, .inl (cA 0, 40, .inr (.inl ps))), (re, .inl (cA 0, 40, .inr (.inl rs)))]) [(t, .inr (2, [.ref g, .ref wa, .long go, .long cl, .int (bz se), .int bad, .int fp, .int fq, .int su, .int ((f_t_learn fp fq an wt rs sz bu nu ou).2.1), .int sks])), (wa, .inl (cA 0, 40, .inr (.inl ((f_t_learn fp fq an wt rs sz bu nu ou).2.2)))), (g, .inr (1, [.ref pa, .ref re, .int sz, .long ((f_t_learn fp fq an wt rs sz bu nu ou).1), .long sk])), (pa, .inl (cA 0, 40, .inr (.inl ps))), (re, .inl (cA 0, 40, .inr (.inl rs)))])) 0 0 (aw [(t, .inr (2, [.ref g, .ref wa, .long go, .long cl, .int (bz se), .int bad, .int fp, .int fq, .int su, .int an, .int sks])), (wa, .inl (cA 0, 40, .inr (.inl wt))), (g, .inr (1, [.ref pa, .ref re, .int sz, .long bu, .long sk])), (pa, .inl (cA 0, 40, .inr (.inl ps))), (re, .inl (cA 0, 40, .inr (.inl rs)))]) := by
  refine ro_in (by decide) (Nat.le_of_ble_eq_true rfl) (fun p e s m below meth c ls FX hnm hK hP hl => ?_)
  have hl : lv_has ls 6 [(0, .ref t), (1, .int nu), (2, .int ou)] := hl
  obtain ⟨hP, hD0⟩ := hP
  have hP : va_P D classes [(t, .inr (2, [.ref g, .ref wa, .long go, .long cl, .int (bz se), .int bad, .int fp, .int fq, .int su, .int an, .int sks])), (wa, .inl (cA 0, 40, .inr (.inl wt))), (g, .inr (1, [.ref pa, .ref re, .int sz, .long bu, .long sk])), (pa, .inl (cA 0, 40, .inr (.inl ps))), (re, .inl (cA 0, 40, .inr (.inl rs)))] s.heap := hP
  have hD : va_D (aw [(t, .inr (2, [.ref g, .ref wa, .long go, .long cl, .int (bz se), .int bad, .int fp, .int fq, .int su, .int an, .int sks])), (wa, .inl (cA 0, 40, .inr (.inl wt))), (g, .inr (1, [.ref pa, .ref re, .int sz, .long bu, .long sk])), (pa, .inl (cA 0, 40, .inr (.inl ps))), (re, .inl (cA 0, 40, .inr (.inl rs)))]) [(t, .inr (2, [.ref g, .ref wa, .long go, .long cl, .int (bz se), .int bad, .int fp, .int fq, .int su, .int an, .int sks])), (wa, .inl (cA 0, 40, .inr (.inl wt))), (g, .inr (1, [.ref pa, .ref re, .int sz, .long bu, .long sk])), (pa, .inl (cA 0, 40, .inr (.inl ps))), (re, .inl (cA 0, 40, .inr (.inl rs)))] := aw_self hD0
  generalize (aw [(t, .inr (2, [.ref g, .ref wa, .long go, .long cl, .int (bz se), .int bad, .int fp, .int fq, .int su, .int an, .int sks])), (wa, .inl (cA 0, 40, .inr (.inl wt))), (g, .inr (1, [.ref pa, .ref re, .int sz, .long bu, .long sk])), (pa, .inl (cA 0, 40, .inr (.inl ps))), (re, .inl (cA 0, 40, .inr (.inl rs)))]) = A at hD ⊢
  have hS : va_S A s.heap s.heap [] := va_S.rf
  generalize ([.ref t, .int nu, .int ou] : List Value).toArray = args at FX ⊢
  obtain ⟨hx, hb, hml, hown, hts, hr, hlk⟩ := id FX
  refine lv_aload_n hx hb d_t_learn_0 rfl (lv_at hl 0 rfl) ?_
  refine ro_get (v := .ref g) FX hK hP 0 0 rfl rfl rfl i_t (by decide) kf_t_9 d_t_learn_1 ?_
  refine lv_iload_n hx hb d_t_learn_4 rfl (lv_at hl 1 rfl) ?_
  refine mu_V (As := [.int nu]) (rest := []) (q0 := 2) FX hK (c_g_markBuilt l D cA g pa re ps rs sz bu sk nu) (hP.sub [2, 3, 4] rfl) (hD.sub [2, 3, 4] (by decide) rfl) hP rfl rfl rfl kc_g_markBuilt km_t_109 ki_g ks_g_markBuilt ke_g_markBuilt rfl ok_g_markBuilt ⟨Nat.le_of_ble_eq_true rfl, Nat.le_of_ble_eq_true rfl⟩ ⟨Nat.zero_le _, Nat.zero_le _⟩ hl.1 rfl (Nat.le_of_ble_eq_true rfl) d_t_learn_5 hS (fun q hq => aw_in hD [2, 3, 4] rfl q hq) (fun v0 H1 locs hv0 hz0 hk0 hS => ?_)
  obtain ⟨rfl, hP1, hD1⟩ := hv0
  obtain ⟨hP, hD⟩ := mu_join (wr := [(t, .inr (2, [.ref g, .ref wa, .long go, .long cl, .int (bz se), .int bad, .int fp, .int fq, .int su, .int an, .int sks])), (wa, .inl (cA 0, 40, .inr (.inl wt)))]) (w1 := [(g, .inr (1, [.ref pa, .ref re, .int sz, .long (f_g_markBuilt bu nu), .long sk])), (pa, .inl (cA 0, 40, .inr (.inl ps))), (re, .inl (cA 0, 40, .inr (.inl rs)))]) hP hD [2, 3, 4] [0, 1] rfl rfl (by decide) (by decide) hk0 hP1 hD1
  have hP : va_P D classes [(t, .inr (2, [.ref g, .ref wa, .long go, .long cl, .int (bz se), .int bad, .int fp, .int fq, .int su, .int an, .int sks])), (wa, .inl (cA 0, 40, .inr (.inl wt))), (g, .inr (1, [.ref pa, .ref re, .int sz, .long (f_g_markBuilt bu nu), .long sk])), (pa, .inl (cA 0, 40, .inr (.inl ps))), (re, .inl (cA 0, 40, .inr (.inl rs)))] H1 := hP.sub [0, 1, 2, 3, 4] rfl
  have hD : va_D A [(t, .inr (2, [.ref g, .ref wa, .long go, .long cl, .int (bz se), .int bad, .int fp, .int fq, .int su, .int an, .int sks])), (wa, .inl (cA 0, 40, .inr (.inl wt))), (g, .inr (1, [.ref pa, .ref re, .int sz, .long (f_g_markBuilt bu nu), .long sk])), (pa, .inl (cA 0, 40, .inr (.inl ps))), (re, .inl (cA 0, 40, .inr (.inl rs)))] := hD.sub [0, 1, 2, 3, 4] (by decide) rfl
  generalize H1 = H at hP hS ⊢
  refine W.eq (g2 := F0 m 8 ls []) rfl ?_
  refine lv_aload_n hx hb d_t_learn_8 rfl (lv_at hl 0 rfl) ?_
  refine lv_dup hx hb d_t_learn_9 rfl ?_
  refine ro_get (v := .int an) FX hK hP 0 9 rfl rfl rfl i_t (by decide) kf_t_43 d_t_learn_10 ?_
  refine lv_iconst (v := 1) hx hb d_t_learn_13 (by decide) ?_
  refine lv_iadd hx hb d_t_learn_14 ?_
  refine va_put (D := D) (v := .int (an + 1)) (ty := .int) hx hb hts i_t t_t t_t_ok n_t hown hK.1 hP hD hS 0 rfl rfl 9 (by decide) (hts _ kf_t_43) (fun _ h9 => h9) rfl (by decide +kernel) rfl rfl (Nat.le_of_ble_eq_true rfl) d_t_learn_15 (fun H locs hP hD hS => ?_)
  have hP : va_P D classes [(t, .inr (2, [.ref g, .ref wa, .long go, .long cl, .int (bz se), .int bad, .int fp, .int fq, .int su, .int (an + 1), .int sks])), (wa, .inl (cA 0, 40, .inr (.inl wt))), (g, .inr (1, [.ref pa, .ref re, .int sz, .long (f_g_markBuilt bu nu), .long sk])), (pa, .inl (cA 0, 40, .inr (.inl ps))), (re, .inl (cA 0, 40, .inr (.inl rs)))] H := hP
  have hD : va_D A [(t, .inr (2, [.ref g, .ref wa, .long go, .long cl, .int (bz se), .int bad, .int fp, .int fq, .int su, .int (an + 1), .int sks])), (wa, .inl (cA 0, 40, .inr (.inl wt))), (g, .inr (1, [.ref pa, .ref re, .int sz, .long (f_g_markBuilt bu nu), .long sk])), (pa, .inl (cA 0, 40, .inr (.inl ps))), (re, .inl (cA 0, 40, .inr (.inl rs)))] := hD
  refine lv_aload_n hx hb d_t_learn_18 rfl (lv_at hl 0 rfl) ?_
  refine ro_get (v := .ref g) FX hK hP 0 0 rfl rfl rfl i_t (by decide) kf_t_9 d_t_learn_19 ?_
  refine lv_iload_n hx hb d_t_learn_22 rfl (lv_at hl 1 rfl) ?_
  refine ro_V (v := .long (f_g_reach rs sz nu)) (As := [.int nu]) (rest := []) (q0 := 2) FX hK (c_g_reach l D cA g pa re ps rs sz (f_g_markBuilt bu nu) sk nu) (hP.sub [2, 3, 4] rfl) hP rfl rfl rfl kc_g_reach km_t_57 ki_g ks_g_reach ke_g_reach rfl ok_g_reach ⟨Nat.le_of_ble_eq_true rfl, Nat.le_of_ble_eq_true rfl⟩ ⟨Nat.zero_le _, Nat.zero_le _⟩ hl.1 rfl (Nat.le_of_ble_eq_true rfl) d_t_learn_23 ?_
  refine lv_lstore_n (lv' := [(3, .long (f_g_reach rs sz nu)), (0, .ref t), (1, .int nu), (2, .int ou)]) hx hb d_t_learn_26 rfl hl (by decide) rfl (fun ls hl => ?_)
  refine lv_iconst (v := 0) hx hb d_t_learn_27 (by decide) ?_
  refine lv_istore (lv' := [(5, .int 0), (3, .long (f_g_reach rs sz nu)), (0, .ref t), (1, .int nu), (2, .int ou)]) hx hb d_t_learn_28 hl (by decide) rfl (fun ls hl => ?_)
  have loop : ∀ (n k : Nat) (xi : Int32) (wq : Nat → Int64) (ls : Array Slot) (H : Heap) (locs : List Loc), k + n = 41 → k ≤ 40 → xi = nI k → va_P D classes [(t, .inr (2, [.ref g, .ref wa, .long go, .long cl, .int (bz se), .int bad, .int fp, .int fq, .int su, .int (an + 1), .int sks])), (wa, .inl (cA 0, 40, .inr (.inl wq))), (g, .inr (1, [.ref pa, .ref re, .int sz, .long (f_g_markBuilt bu nu), .long sk])), (pa, .inl (cA 0, 40, .inr (.inl ps))), (re, .inl (cA 0, 40, .inr (.inl rs)))] H → va_D A [(t, .inr (2, [.ref g, .ref wa, .long go, .long cl, .int (bz se), .int bad, .int fp, .int fq, .int su, .int (an + 1), .int sks])), (wa, .inl (cA 0, 40, .inr (.inl wq))), (g, .inr (1, [.ref pa, .ref re, .int sz, .long (f_g_markBuilt bu nu), .long sk])), (pa, .inl (cA 0, 40, .inr (.inl ps))), (re, .inl (cA 0, 40, .inr (.inl rs)))] → va_S A s.heap H locs → lv_has ls 6 [(0, .ref t), (2, .int ou), (3, .long (f_g_reach rs sz nu)), (5, .int xi)] → W p l e (rmd 3) s m args below meth c H locs 0 0 (MQ below (Qmu A (fun v0 H0 => v0 = none ∧ va_P D classes [(t, .inr (2, [.ref g, .ref wa, .long go, .long cl, .int (bz se), .int bad, .int fp, .int fq, .int su, .int ((L_t_learn_30 fp fq an wt rs sz bu nu ou n xi wq).2.1), .int sks])), (wa, .inl (cA 0, 40, .inr (.inl ((L_t_learn_30 fp fq an wt rs sz bu nu ou n xi wq).2.2)))), (g, .inr (1, [.ref pa, .ref re, .int sz, .long ((L_t_learn_30 fp fq an wt rs sz bu nu ou n xi wq).1), .long sk])), (pa, .inl (cA 0, 40, .inr (.inl ps))), (re, .inl (cA 0, 40, .inr (.inl rs)))] H0 ∧ va_D A [(t, .inr (2, [.ref g, .ref wa, .long go, .long cl, .int (bz se), .int bad, .int fp, .int fq, .int su, .int ((L_t_learn_30 fp fq an wt rs sz bu nu ou n xi wq).2.1), .int sks])), (wa, .inl (cA 0, 40, .inr (.inl ((L_t_learn_30 fp fq an wt rs sz bu nu ou n xi wq).2.2)))), (g, .inr (1, [.ref pa, .ref re, .int sz, .long ((L_t_learn_30 fp fq an wt rs sz bu nu ou n xi wq).1), .long sk])), (pa, .inl (cA 0, 40, .inr (.inl ps))), (re, .inl (cA 0, 40, .inr (.inl rs)))])) args s 0 0 A) (F0 m 30 ls []) := by
    intro n
    induction n with
    | zero =>
      intro k xi wq ls H locs h1 h2
      exact absurd h1 (by omega)
    | succ n ih =>
      intro k xi wq ls H locs hkn hk hxi hP hD hS hl
      refine lv_iload hx hb d_t_learn_30 (lv_at hl 3 rfl) ?_
      refine lv_aload_n hx hb d_t_learn_32 rfl (lv_at hl 0 rfl) ?_
      refine ro_get (v := .ref wa) FX hK hP 0 1 rfl rfl rfl i_t (by decide) kf_t_15 d_t_learn_33 ?_
      refine va_alen (v := 40) hx hb hK.1 hP 1 0 rfl rfl rfl d_t_learn_36 ?_
      refine lv_icmp_ge (tgt := 67) hx hb d_t_learn_37 (by decide) (fun c1 => ?_) (fun c1 => ?_)
      · have c1 := c1
        exact mu_vret FX hS (by rw [show (L_t_learn_30 fp fq an wt rs sz bu nu ou (n + 1) xi wq) = ((f_g_markBuilt bu nu), an + 1, wq) from (by rw [L_t_learn_30_s, if_pos c1])]; exact ⟨rfl, hP, hD⟩) d_t_learn_67
      · have c1 := c1
        have hk1 : k < 40 := k_lt hxi rfl c1 (by omega)
        refine lv_aload_n hx hb d_t_learn_40 rfl (lv_at hl 0 rfl) ?_
        refine ro_get (v := .ref wa) FX hK hP 0 1 rfl rfl rfl i_t (by decide) kf_t_15 d_t_learn_41 ?_
        refine lv_iload hx hb d_t_learn_44 (lv_at hl 3 rfl) ?_
        refine lv_dup2_11 hx hb d_t_learn_46 rfl rfl ?_
        refine va_lald hx hb hK.1 hP 1 0 rfl rfl (vin hxi hk1 (by decide)) d_t_learn_47 ?_
        refine lv_aload_n hx hb d_t_learn_48 rfl (lv_at hl 0 rfl) ?_
        refine lv_iload_n hx hb d_t_learn_49 rfl (lv_at hl 1 rfl) ?_
        refine lv_lload_n hx hb d_t_learn_50 rfl (lv_at hl 2 rfl) ?_
        refine lv_iload hx hb d_t_learn_51 (lv_at hl 3 rfl) ?_
        refine ro_SN (v := .int (bz (f_x_contains (f_g_reach rs sz nu) xi))) (As := [.long (f_g_reach rs sz nu), .int xi]) (rest := [.int ou, .ref t, .long (wq xi.toNatClampNeg), .int xi, .ref wa]) FX hK (c_x_contains l D cA (f_g_reach rs sz nu) xi) trivial kc_x_contains km_t_49 ki_x ks_x_contains rfl ok_x_contains ⟨Nat.le_of_ble_eq_true rfl, Nat.le_of_ble_eq_true rfl⟩ ⟨Nat.zero_le _, Nat.zero_le _⟩ hl.1 rfl (Nat.le_of_ble_eq_true rfl) d_t_learn_53 ?_
        refine ro_V (v := .long (f_t_likelihood fp fq ou (f_x_contains (f_g_reach rs sz nu) xi))) (As := [.int ou, .int (bz (f_x_contains (f_g_reach rs sz nu) xi))]) (rest := [.long (wq xi.toNatClampNeg), .int xi, .ref wa]) (q0 := 0) FX hK (c_t_likelihood l D cA t wa go cl se bad fp fq su (an + 1) sks wq g pa re ps rs sz (f_g_markBuilt bu nu) sk ou (f_x_contains (f_g_reach rs sz nu) xi)) hP hP rfl rfl rfl kc_t_likelihood km_t_112 ki_t ks_t_likelihood ke_t_likelihood rfl ok_t_likelihood ⟨Nat.le_of_ble_eq_true rfl, Nat.le_of_ble_eq_true rfl⟩ ⟨Nat.zero_le _, Nat.zero_le _⟩ hl.1 rfl (Nat.le_of_ble_eq_true rfl) d_t_learn_56 ?_
        refine lv_lmul hx hb d_t_learn_59 ?_
        refine va_last (x := (wq xi.toNatClampNeg) * (f_t_likelihood fp fq ou (f_x_contains (f_g_reach rs sz nu) xi))) hx hb hK.1 hP hD hS 1 0 rfl rfl (vin hxi hk1 (by decide)) d_t_learn_60 (fun H locs hP hD hS => ?_)
        have hP : va_P D classes [(t, .inr (2, [.ref g, .ref wa, .long go, .long cl, .int (bz se), .int bad, .int fp, .int fq, .int su, .int (an + 1), .int sks])), (wa, .inl (cA 0, 40, .inr (.inl (vp_updL wq xi.toNatClampNeg ((wq xi.toNatClampNeg) * (f_t_likelihood fp fq ou (f_x_contains (f_g_reach rs sz nu) xi))))))), (g, .inr (1, [.ref pa, .ref re, .int sz, .long (f_g_markBuilt bu nu), .long sk])), (pa, .inl (cA 0, 40, .inr (.inl ps))), (re, .inl (cA 0, 40, .inr (.inl rs)))] H := hP
        have hD : va_D A [(t, .inr (2, [.ref g, .ref wa, .long go, .long cl, .int (bz se), .int bad, .int fp, .int fq, .int su, .int (an + 1), .int sks])), (wa, .inl (cA 0, 40, .inr (.inl (vp_updL wq xi.toNatClampNeg ((wq xi.toNatClampNeg) * (f_t_likelihood fp fq ou (f_x_contains (f_g_reach rs sz nu) xi))))))), (g, .inr (1, [.ref pa, .ref re, .int sz, .long (f_g_markBuilt bu nu), .long sk])), (pa, .inl (cA 0, 40, .inr (.inl ps))), (re, .inl (cA 0, 40, .inr (.inl rs)))] := hD
        refine lv_iinc (v := xi + 1) (lv' := [(5, .int (xi + 1)), (0, .ref t), (2, .int ou), (3, .long (f_g_reach rs sz nu))]) hx hb d_t_learn_61 hl (k := 3) rfl rfl (by decide) rfl (fun ls hl => ?_)
        refine lv_goto (tgt := 30) hx hb d_t_learn_64 (by decide) ?_
        rw [show (L_t_learn_30 fp fq an wt rs sz bu nu ou (n + 1) xi wq) = L_t_learn_30 fp fq an wt rs sz bu nu ou n (xi + 1) (vp_updL wq xi.toNatClampNeg ((wq xi.toNatClampNeg) * (f_t_likelihood fp fq ou (f_x_contains (f_g_reach rs sz nu) xi)))) from (by rw [L_t_learn_30_s, if_neg c1])]
        exact ih (k + 1) (xi + 1) (vp_updL wq xi.toNatClampNeg ((wq xi.toNatClampNeg) * (f_t_likelihood fp fq ou (f_x_contains (f_g_reach rs sz nu) xi)))) ls H locs (by omega) (by omega) (by rw [hxi]; exact nI_1 _)  hP hD hS (lv_sub hl [1, 2, 3, 0] rfl)
  rw [show (f_t_learn fp fq an wt rs sz bu nu ou) = L_t_learn_30 fp fq an wt rs sz bu nu ou 41 0 wt from (by rw [f_t_learn])]
  exact loop 41 0 0 wt ls H locs rfl (Nat.zero_le _) rfl  hP hD hS (lv_sub hl [2, 4, 1, 0] rfl)
