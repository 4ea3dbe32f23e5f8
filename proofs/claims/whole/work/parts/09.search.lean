theorem d_x_init_0 : decode b_x_init 0 = .ok (.aload_n 0, 1) := by decide +kernel
theorem d_x_init_1 : decode b_x_init 1 = .ok (.invokespecial 1, 3) := by decide +kernel
theorem d_x_init_4 : decode b_x_init 4 = .ok (.aload_n 0, 1) := by decide +kernel
theorem d_x_init_5 : decode b_x_init 5 = .ok (.new 7, 3) := by decide +kernel
theorem d_x_init_8 : decode b_x_init 8 = .ok (.dup, 1) := by decide +kernel
theorem d_x_init_9 : decode b_x_init 9 = .ok (.invokespecial 9, 3) := by decide +kernel
theorem d_x_init_12 : decode b_x_init 12 = .ok (.putfield 10, 3) := by decide +kernel
theorem d_x_init_15 : decode b_x_init 15 = .ok (.aload_n 0, 1) := by decide +kernel
theorem d_x_init_16 : decode b_x_init 16 = .ok (.iconst 4, 1) := by decide +kernel
theorem d_x_init_17 : decode b_x_init 17 = .ok (.anewarray 16, 3) := by decide +kernel
theorem d_x_init_20 : decode b_x_init 20 = .ok (.putfield 18, 3) := by decide +kernel
theorem d_x_init_23 : decode b_x_init 23 = .ok (.aload_n 0, 1) := by decide +kernel
theorem d_x_init_24 : decode b_x_init 24 = .ok (.iconst 0, 1) := by decide +kernel
theorem d_x_init_25 : decode b_x_init 25 = .ok (.putfield 22, 3) := by decide +kernel
theorem d_x_init_28 : decode b_x_init 28 = .ok (.return_, 1) := by decide +kernel
set_option maxHeartbeats 4000000 in
set_option maxRecDepth 100000 in
theorem c_x_init (l : Launch) (D : va_G) (cA : Nat → ClassId) (x : Nat) (sz : Nat) : Met l y_x_init (.code y_x_init b_x_init 1 none :: tb) (rma 2 4 89) (Pro D cA [.ref x] (fun H0 => H0.size = sz ∧ va_P D classes [(x, .inr (0, [.null, .null, .int 0]))] H0 ∧ va_D (fun _ => True) [(x, .inr (0, [.null, .null, .int 0]))])) (Qmu (va_A [(x, .inr (0, [.null, .null, .int 0]))] sz) (fun v0 H0 => v0 = none ∧ ∃ n0 n1 n2 n3 : Nat, va_P D classes [(x, .inr (0, [.ref n1, .ref n0, .int 0])), (n0, .inl (cA 1, 4, .inr (.inr (.inr (.inr (fun _ => none)))))), (n1, .inr (1, [.ref n2, .ref n3, .int 0, .long 0, .long 0])), (n2, .inl (cA 0, 40, .inr (.inl (fun _ => 0)))), (n3, .inl (cA 0, 40, .inr (.inl (fun _ => 0))))] H0 ∧ va_D (va_A [(x, .inr (0, [.null, .null, .int 0]))] sz) [(x, .inr (0, [.ref n1, .ref n0, .int 0])), (n0, .inl (cA 1, 4, .inr (.inr (.inr (.inr (fun _ => none)))))), (n1, .inr (1, [.ref n2, .ref n3, .int 0, .long 0, .long 0])), (n2, .inl (cA 0, 40, .inr (.inl (fun _ => 0)))), (n3, .inl (cA 0, 40, .inr (.inl (fun _ => 0))))])) 4 89 (va_A [(x, .inr (0, [.null, .null, .int 0]))] sz) := by
  refine ro_in (by decide) (Nat.le_of_ble_eq_true rfl) (fun p e s m below meth c ls FX hnm hK hP hl => ?_)
  have hl : lv_has ls 1 [(0, .ref x)] := hl
  obtain ⟨hsz, hP, hD0⟩ := hP
  subst hsz
  have hP : va_P D classes [(x, .inr (0, [.null, .null, .int 0]))] s.heap := hP
  have hD := hD0.self (sz := s.heap.size)
  generalize hAe : va_A [(x, .inr (0, [.null, .null, .int 0]))] s.heap.size = A at hD ⊢
  have hA : ∀ q : Nat, s.heap.size ≤ q → A q := fun q h => by rw [← hAe]; exact Or.inr h
  have hS : va_S A s.heap s.heap [] := va_S.rf
  generalize ([.ref x] : List Value).toArray = args at FX ⊢
  obtain ⟨hx, hb, hml, hown, hts, hr, hlk⟩ := id FX
  have hin : meth.name = "<init>" := hnm
  refine lv_aload_n hx hb d_x_init_0 rfl (lv_at hl 0 rfl) ?_
  refine W.objInit hx hb hown (hts _ km_x_1) (hts _ ks_objInit) (hts _ kc_objInit) rfl (by rw [hml]; exact hl.1) rfl d_x_init_1 (Nat.le_of_ble_eq_true rfl) (Nat.le_of_ble_eq_true rfl) ?_
  refine W.eq (g2 := F0 m 4 ls []) rfl ?_
  refine lv_aload_n hx hb d_x_init_4 rfl (lv_at hl 0 rfl) ?_
  refine va_new (ci := 1) (fs := [.null, .null, .int 0, .long 0, .long 0]) hx hb hts i_g t_g t_g_ok hown (hts _ kk_x_7) (hts _ kz_g) (hts _ ki_g) hK.1 hP hD hS hA rfl (fun j hj => by rcases (show j = 0 ∨ j = 1 ∨ j = 2 ∨ j = 3 ∨ j = 4 by omega) with rfl | rfl | rfl | rfl | rfl <;> rfl) (Nat.le_of_ble_eq_true rfl) (Nat.le_of_ble_eq_true rfl) d_x_init_5 (fun q1 H hP hD hS => ?_)
  have hP : va_P D classes [(x, .inr (0, [.null, .null, .int 0])), (q1, .inr (1, [.null, .null, .int 0, .long 0, .long 0]))] H := hP
  have hD : va_D A [(x, .inr (0, [.null, .null, .int 0])), (q1, .inr (1, [.null, .null, .int 0, .long 0, .long 0]))] := hD
  refine lv_dup hx hb d_x_init_8 rfl ?_
  have hFc := va_free (wc := [(q1, .inr (1, [.null, .null, .int 0, .long 0, .long 0]))]) hD hS hA [1] rfl
  refine al_I (As := []) (rest := [.ref q1, .ref x]) FX hK (c_g_init l D cA q1 H.size) (hP.sub [1] rfl) (hD.sub [1] (by decide) rfl) kc_g_init km_x_9 ki_g ks_g_init rfl rfl ok_g_init ⟨Nat.le_of_ble_eq_true rfl, Nat.le_of_ble_eq_true rfl⟩ ⟨Nat.le_of_ble_eq_true rfl, Nat.le_of_ble_eq_true rfl⟩ hl.1 rfl (Nat.le_of_ble_eq_true rfl) d_x_init_9 hS hFc (fun v0 H1 locs hv0 hz0 hk0 hS => ?_)
  obtain ⟨rfl, q2, q3, hP1, hD1⟩ := hv0
  obtain ⟨hP, hD⟩ := va_join (wr := [(x, .inr (0, [.null, .null, .int 0]))]) (w1 := [(q1, .inr (1, [.ref q2, .ref q3, .int 0, .long 0, .long 0])), (q2, .inl (cA 0, 40, .inr (.inl (fun _ => 0)))), (q3, .inl (cA 0, 40, .inr (.inl (fun _ => 0))))]) hP hD [1] [0] rfl rfl (by decide) (by decide) hk0 hFc hP1 hD1
  have hP : va_P D classes [(x, .inr (0, [.null, .null, .int 0])), (q1, .inr (1, [.ref q2, .ref q3, .int 0, .long 0, .long 0])), (q2, .inl (cA 0, 40, .inr (.inl (fun _ => 0)))), (q3, .inl (cA 0, 40, .inr (.inl (fun _ => 0))))] H1 := hP
  have hD : va_D A [(x, .inr (0, [.null, .null, .int 0])), (q1, .inr (1, [.ref q2, .ref q3, .int 0, .long 0, .long 0])), (q2, .inl (cA 0, 40, .inr (.inl (fun _ => 0)))), (q3, .inl (cA 0, 40, .inr (.inl (fun _ => 0))))] := hD
  generalize H1 = H at hP hS ⊢
  refine W.eq (g2 := F0 m 12 ls [.ref q1, .ref x]) rfl ?_
  refine va_putF (D := D) (v := .ref q1) (ty := (.object "CulpritSearch$Graph")) hx hb hts i_x t_x t_x_ok n_x hown hK.1 hP hD hS 0 rfl rfl 0 (by decide) (hts _ kf_x_10) (fun _ h9 => h9) rfl hin rfl (by decide +kernel) rfl rfl (Nat.le_of_ble_eq_true rfl) d_x_init_12 (fun H locs hP hD hS => ?_)
  have hP : va_P D classes [(x, .inr (0, [.ref q1, .null, .int 0])), (q1, .inr (1, [.ref q2, .ref q3, .int 0, .long 0, .long 0])), (q2, .inl (cA 0, 40, .inr (.inl (fun _ => 0)))), (q3, .inl (cA 0, 40, .inr (.inl (fun _ => 0))))] H := hP
  have hD : va_D A [(x, .inr (0, [.ref q1, .null, .int 0])), (q1, .inr (1, [.ref q2, .ref q3, .int 0, .long 0, .long 0])), (q2, .inl (cA 0, 40, .inr (.inl (fun _ => 0)))), (q3, .inl (cA 0, 40, .inr (.inl (fun _ => 0))))] := hD
  refine lv_aload_n hx hb d_x_init_15 rfl (lv_at hl 0 rfl) ?_
  refine lv_iconst (v := 4) hx hb d_x_init_16 (by decide) ?_
  refine va_newq hx hb hown (hts _ kk_x_16) (hK.2.2 "CulpritSearch$Target" (by decide)) hK.1 hP hD hS hA (n := 4) (N' := 4) (by decide) rfl (by decide) (Nat.le_of_ble_eq_true rfl) (Nat.le_of_ble_eq_true rfl) d_x_init_17 (fun q4 cL H hKK hP hD hS => ?_)
  obtain rfl := arr_same 1 rfl hK hKK (fun _ _ => ra_obj)
  have hP : va_P D classes [(x, .inr (0, [.ref q1, .null, .int 0])), (q1, .inr (1, [.ref q2, .ref q3, .int 0, .long 0, .long 0])), (q2, .inl (cA 0, 40, .inr (.inl (fun _ => 0)))), (q3, .inl (cA 0, 40, .inr (.inl (fun _ => 0)))), (q4, .inl (cA 1, 4, .inr (.inr (.inr (.inr (fun _ => none))))))] H := hP
  have hD : va_D A [(x, .inr (0, [.ref q1, .null, .int 0])), (q1, .inr (1, [.ref q2, .ref q3, .int 0, .long 0, .long 0])), (q2, .inl (cA 0, 40, .inr (.inl (fun _ => 0)))), (q3, .inl (cA 0, 40, .inr (.inl (fun _ => 0)))), (q4, .inl (cA 1, 4, .inr (.inr (.inr (.inr (fun _ => none))))))] := hD
  refine va_putF (D := D) (v := .ref q4) (ty := (.array (.object "CulpritSearch$Target"))) hx hb hts i_x t_x t_x_ok n_x hown hK.1 hP hD hS 0 rfl rfl 1 (by decide) (hts _ kf_x_18) (fun _ h9 => h9) rfl hin rfl (by decide +kernel) rfl rfl (Nat.le_of_ble_eq_true rfl) d_x_init_20 (fun H locs hP hD hS => ?_)
  have hP : va_P D classes [(x, .inr (0, [.ref q1, .ref q4, .int 0])), (q1, .inr (1, [.ref q2, .ref q3, .int 0, .long 0, .long 0])), (q2, .inl (cA 0, 40, .inr (.inl (fun _ => 0)))), (q3, .inl (cA 0, 40, .inr (.inl (fun _ => 0)))), (q4, .inl (cA 1, 4, .inr (.inr (.inr (.inr (fun _ => none))))))] H := hP
  have hD : va_D A [(x, .inr (0, [.ref q1, .ref q4, .int 0])), (q1, .inr (1, [.ref q2, .ref q3, .int 0, .long 0, .long 0])), (q2, .inl (cA 0, 40, .inr (.inl (fun _ => 0)))), (q3, .inl (cA 0, 40, .inr (.inl (fun _ => 0)))), (q4, .inl (cA 1, 4, .inr (.inr (.inr (.inr (fun _ => none))))))] := hD
  refine lv_aload_n hx hb d_x_init_23 rfl (lv_at hl 0 rfl) ?_
  refine lv_iconst (v := 0) hx hb d_x_init_24 (by decide) ?_
  refine va_put (D := D) (v := .int 0) (ty := .int) hx hb hts i_x t_x t_x_ok n_x hown hK.1 hP hD hS 0 rfl rfl 2 (by decide) (hts _ kf_x_22) (fun _ h9 => h9) rfl (by decide +kernel) rfl rfl (Nat.le_of_ble_eq_true rfl) d_x_init_25 (fun H locs hP hD hS => ?_)
  have hP : va_P D classes [(x, .inr (0, [.ref q1, .ref q4, .int 0])), (q1, .inr (1, [.ref q2, .ref q3, .int 0, .long 0, .long 0])), (q2, .inl (cA 0, 40, .inr (.inl (fun _ => 0)))), (q3, .inl (cA 0, 40, .inr (.inl (fun _ => 0)))), (q4, .inl (cA 1, 4, .inr (.inr (.inr (.inr (fun _ => none))))))] H := hP
  have hD : va_D A [(x, .inr (0, [.ref q1, .ref q4, .int 0])), (q1, .inr (1, [.ref q2, .ref q3, .int 0, .long 0, .long 0])), (q2, .inl (cA 0, 40, .inr (.inl (fun _ => 0)))), (q3, .inl (cA 0, 40, .inr (.inl (fun _ => 0)))), (q4, .inl (cA 1, 4, .inr (.inr (.inr (.inr (fun _ => none))))))] := hD
  have hP : va_P D classes [(x, .inr (0, [.ref q1, .ref q4, .int 0])), (q4, .inl (cA 1, 4, .inr (.inr (.inr (.inr (fun _ => none)))))), (q1, .inr (1, [.ref q2, .ref q3, .int 0, .long 0, .long 0])), (q2, .inl (cA 0, 40, .inr (.inl (fun _ => 0)))), (q3, .inl (cA 0, 40, .inr (.inl (fun _ => 0))))] H := hP.sub [0, 4, 1, 2, 3] rfl
  have hD : va_D A [(x, .inr (0, [.ref q1, .ref q4, .int 0])), (q4, .inl (cA 1, 4, .inr (.inr (.inr (.inr (fun _ => none)))))), (q1, .inr (1, [.ref q2, .ref q3, .int 0, .long 0, .long 0])), (q2, .inl (cA 0, 40, .inr (.inl (fun _ => 0)))), (q3, .inl (cA 0, 40, .inr (.inl (fun _ => 0))))] := hD.sub [0, 4, 1, 2, 3] (by decide) rfl
  exact mu_vret FX hS ⟨rfl, q4, q1, q2, q3, hP, hD⟩ d_x_init_28
theorem d_x_targetAt_0 : decode b_x_targetAt 0 = .ok (.iload_n 1, 1) := by decide +kernel
theorem d_x_targetAt_1 : decode b_x_targetAt 1 = .ok (.ifCond .lt 20, 3) := by decide +kernel
theorem d_x_targetAt_4 : decode b_x_targetAt 4 = .ok (.iload_n 1, 1) := by decide +kernel
theorem d_x_targetAt_5 : decode b_x_targetAt 5 = .ok (.aload_n 0, 1) := by decide +kernel
theorem d_x_targetAt_6 : decode b_x_targetAt 6 = .ok (.getfield 22, 3) := by decide +kernel
theorem d_x_targetAt_9 : decode b_x_targetAt 9 = .ok (.if_icmp .ge 12, 3) := by decide +kernel
theorem d_x_targetAt_12 : decode b_x_targetAt 12 = .ok (.iload_n 1, 1) := by decide +kernel
theorem d_x_targetAt_13 : decode b_x_targetAt 13 = .ok (.aload_n 0, 1) := by decide +kernel
theorem d_x_targetAt_14 : decode b_x_targetAt 14 = .ok (.getfield 18, 3) := by decide +kernel
theorem d_x_targetAt_17 : decode b_x_targetAt 17 = .ok (.arraylength, 1) := by decide +kernel
theorem d_x_targetAt_18 : decode b_x_targetAt 18 = .ok (.if_icmp .lt 5, 3) := by decide +kernel
theorem d_x_targetAt_21 : decode b_x_targetAt 21 = .ok (.aconst_null, 1) := by decide +kernel
theorem d_x_targetAt_22 : decode b_x_targetAt 22 = .ok (.areturn, 1) := by decide +kernel
theorem d_x_targetAt_23 : decode b_x_targetAt 23 = .ok (.aload_n 0, 1) := by decide +kernel
theorem d_x_targetAt_24 : decode b_x_targetAt 24 = .ok (.getfield 18, 3) := by decide +kernel
theorem d_x_targetAt_27 : decode b_x_targetAt 27 = .ok (.iload_n 1, 1) := by decide +kernel
theorem d_x_targetAt_28 : decode b_x_targetAt 28 = .ok (.aaload, 1) := by decide +kernel
theorem d_x_targetAt_29 : decode b_x_targetAt 29 = .ok (.areturn, 1) := by decide +kernel
def f_x_targetAt (nt : Nat) (nu : Int32) : Option Nat := if nu < 0 then
    (none)
  else
    (if (nI nt) ≤ nu then
      (none)
    else
      (if nu < 4 then
        (some nu.toNatClampNeg)
      else
        (none)))
set_option maxHeartbeats 4000000 in
set_option maxRecDepth 100000 in
theorem c_x_targetAt (l : Launch) (D : va_G) (cA : Nat → ClassId) (ad : Nat → Nat) (nt : Nat) (G : GS) (TT : Nat → TS) (nu : Int32) (hnt : nt ≤ 4) (S : Nat) (hS40 : S ≤ 40) (hsz : G.2.2.1 = nI S) : Met l y_x_targetAt (.code y_x_targetAt b_x_targetAt 2 (some (.object "CulpritSearch$Target")) :: tb) (rmd 0) (Pro D cA [.ref (ad 0), .int nu] (WX D cA ad nt G TT)) (Qro (va_rf ((f_x_targetAt nt nu).map (fun j => ad (5 + 2 * j))))) 0 0 nof := by
  refine ro_in (by decide) (Nat.le_of_ble_eq_true rfl) (fun p e s m below meth c ls FX hnm hK hW hl => ?_)
  have hl : lv_has ls 2 [(0, .ref (ad 0)), (1, .int nu)] := hl
  have hP : va_P D classes [(ad 0, .inr (0, [.ref (ad 2), .ref (ad 1), .int (nI nt)])), (ad 1, .inl (cA 1, 4, .inr (.inr (.inr (.inr (tvf ad nt)))))), (ad 2, .inr (1, [.ref (ad 3), .ref (ad 4), .int G.2.2.1, .long G.2.2.2.1, .long G.2.2.2.2])), (ad 3, .inl (cA 0, 40, .inr (.inl G.1))), (ad 4, .inl (cA 0, 40, .inr (.inl G.2.1)))] s.heap := hW.1
  generalize ([.ref (ad 0), .int nu] : List Value).toArray = args at FX ⊢
  obtain ⟨hx, hb, hml, hown, hts, hr, hlk⟩ := id FX
  refine lv_iload_n hx hb d_x_targetAt_0 rfl (lv_at hl 1 rfl) ?_
  refine lv_if_lt (tgt := 21) hx hb d_x_targetAt_1 (by decide) (fun c1 => ?_) (fun c1 => ?_)
  · have c1 := c1
    refine lv_null hx hb d_x_targetAt_21 ?_
    exact ro_aret FX (by rw [f_x_targetAt, if_pos c1] <;> rfl) d_x_targetAt_22
  · have c1 := c1
    refine lv_iload_n hx hb d_x_targetAt_4 rfl (lv_at hl 1 rfl) ?_
    refine lv_aload_n hx hb d_x_targetAt_5 rfl (lv_at hl 0 rfl) ?_
    refine ro_get (v := .int (nI nt)) FX hK hP 0 2 rfl rfl rfl i_x (by decide) kf_x_22 d_x_targetAt_6 ?_
    refine lv_icmp_ge (tgt := 21) hx hb d_x_targetAt_9 (by decide) (fun c2 => ?_) (fun c2 => ?_)
    · have c2 := c2
      refine lv_null hx hb d_x_targetAt_21 ?_
      exact ro_aret FX (by rw [f_x_targetAt, if_neg c1, if_pos c2] <;> rfl) d_x_targetAt_22
    · have c2 := c2
      refine lv_iload_n hx hb d_x_targetAt_12 rfl (lv_at hl 1 rfl) ?_
      refine lv_aload_n hx hb d_x_targetAt_13 rfl (lv_at hl 0 rfl) ?_
      refine ro_get (v := .ref (ad 1)) FX hK hP 0 1 rfl rfl rfl i_x (by decide) kf_x_18 d_x_targetAt_14 ?_
      refine va_alen (v := 4) hx hb hK.1 hP 1 1 rfl rfl rfl d_x_targetAt_17 ?_
      refine lv_icmp_lt (tgt := 23) hx hb d_x_targetAt_18 (by decide) (fun c3 => ?_) (fun c3 => ?_)
      · have c3 := c3
        refine lv_aload_n hx hb d_x_targetAt_23 rfl (lv_at hl 0 rfl) ?_
        refine ro_get (v := .ref (ad 1)) FX hK hP 0 1 rfl rfl rfl i_x (by decide) kf_x_18 d_x_targetAt_24 ?_
        refine lv_iload_n hx hb d_x_targetAt_27 rfl (lv_at hl 1 rfl) ?_
        refine va_aldq hx hb hK.1 hP 1 1 rfl rfl (vin3 c1 c3) d_x_targetAt_28 ?_
        exact ro_aret FX (by rw [f_x_targetAt, if_neg c1, if_neg c2, if_pos c3, tvf_at hnt c1 c2] <;> rfl) d_x_targetAt_29
      · have c3 := c3
        refine lv_null hx hb d_x_targetAt_21 ?_
        exact ro_aret FX (by rw [f_x_targetAt, if_neg c1, if_neg c2, if_neg c3] <;> rfl) d_x_targetAt_22
theorem ta_lt {nt j : Nat} {nu : Int32} (hnt : nt ≤ 4) (h : f_x_targetAt nt nu = some j) : j < nt := by
  unfold f_x_targetAt at h
  by_cases h0 : nu < 0
  · rw [if_pos h0] at h; cases h
  · rw [if_neg h0] at h
    by_cases h1 : nI nt ≤ nu
    · rw [if_pos h1] at h; cases h
    · rw [if_neg h1] at h
      by_cases h2 : nu < 4
      · rw [if_pos h2] at h
        obtain ⟨i, hi, e⟩ := nI_of h0
        have h3 : i < nt := k_lt e rfl h1 hi
        subst e
        rw [nI_clamp hi] at h
        cases h
        exact h3
      · rw [if_neg h2] at h; cases h
theorem d_x_searchAt_0 : decode b_x_searchAt 0 = .ok (.aload_n 0, 1) := by decide +kernel
theorem d_x_searchAt_1 : decode b_x_searchAt 1 = .ok (.iload_n 1, 1) := by decide +kernel
theorem d_x_searchAt_2 : decode b_x_searchAt 2 = .ok (.invokevirtual 51, 3) := by decide +kernel
theorem d_x_searchAt_5 : decode b_x_searchAt 5 = .ok (.astore_n 2, 1) := by decide +kernel
theorem d_x_searchAt_6 : decode b_x_searchAt 6 = .ok (.aload_n 2, 1) := by decide +kernel
theorem d_x_searchAt_7 : decode b_x_searchAt 7 = .ok (.ifnull 14, 3) := by decide +kernel
theorem d_x_searchAt_10 : decode b_x_searchAt 10 = .ok (.aload_n 2, 1) := by decide +kernel
theorem d_x_searchAt_11 : decode b_x_searchAt 11 = .ok (.invokevirtual 55, 3) := by decide +kernel
theorem d_x_searchAt_14 : decode b_x_searchAt 14 = .ok (.ifCond .eq 7, 3) := by decide +kernel
theorem d_x_searchAt_17 : decode b_x_searchAt 17 = .ok (.aload_n 2, 1) := by decide +kernel
theorem d_x_searchAt_18 : decode b_x_searchAt 18 = .ok (.goto 4, 3) := by decide +kernel
theorem d_x_searchAt_21 : decode b_x_searchAt 21 = .ok (.aconst_null, 1) := by decide +kernel
theorem d_x_searchAt_22 : decode b_x_searchAt 22 = .ok (.areturn, 1) := by decide +kernel
def f_x_searchAt (nt : Nat) (TT : Nat → TS) (nu : Int32) : Option Nat := om (f_x_targetAt nt nu)
    (none)
    (fun j => if (f_t_isSearched ((TT j).2.2.1)) = true then
      (some j)
    else
      (none))
set_option maxHeartbeats 4000000 in
set_option maxRecDepth 100000 in
theorem c_x_searchAt (l : Launch) (D : va_G) (cA : Nat → ClassId) (ad : Nat → Nat) (nt : Nat) (G : GS) (TT : Nat → TS) (nu : Int32) (hnt : nt ≤ 4) (S : Nat) (hS40 : S ≤ 40) (hsz : G.2.2.1 = nI S) : Met l y_x_searchAt (.code y_x_searchAt b_x_searchAt 3 (some (.object "CulpritSearch$Target")) :: tb) (rmd 1) (Pro D cA [.ref (ad 0), .int nu] (WX D cA ad nt G TT)) (Qro (va_rf ((f_x_searchAt nt TT nu).map (fun j => ad (5 + 2 * j))))) 0 0 nof := by
  refine ro_in (by decide) (Nat.le_of_ble_eq_true rfl) (fun p e s m below meth c ls FX hnm hK hW hl => ?_)
  have hl : lv_has ls 3 [(0, .ref (ad 0)), (1, .int nu)] := hl
  have hP : va_P D classes [(ad 0, .inr (0, [.ref (ad 2), .ref (ad 1), .int (nI nt)])), (ad 1, .inl (cA 1, 4, .inr (.inr (.inr (.inr (tvf ad nt)))))), (ad 2, .inr (1, [.ref (ad 3), .ref (ad 4), .int G.2.2.1, .long G.2.2.2.1, .long G.2.2.2.2])), (ad 3, .inl (cA 0, 40, .inr (.inl G.1))), (ad 4, .inl (cA 0, 40, .inr (.inl G.2.1)))] s.heap := hW.1
  generalize ([.ref (ad 0), .int nu] : List Value).toArray = args at FX ⊢
  obtain ⟨hx, hb, hml, hown, hts, hr, hlk⟩ := id FX
  refine lv_aload_n hx hb d_x_searchAt_0 rfl (lv_at hl 0 rfl) ?_
  refine lv_iload_n hx hb d_x_searchAt_1 rfl (lv_at hl 1 rfl) ?_
  refine ro_V (v := va_rf ((f_x_targetAt nt nu).map (fun j => ad (5 + 2 * j)))) (As := [.int nu]) (rest := []) (q0 := 0) FX hK (c_x_targetAt l D cA ad nt G TT nu hnt S hS40 hsz) hW hP rfl rfl rfl kc_x_targetAt km_x_51 ki_x ks_x_targetAt ke_x_targetAt rfl ok_x_targetAt ⟨Nat.le_of_ble_eq_true rfl, Nat.le_of_ble_eq_true rfl⟩ ⟨Nat.zero_le _, Nat.zero_le _⟩ hl.1 rfl (Nat.le_of_ble_eq_true rfl) d_x_searchAt_2 ?_
  cases hq1 : (f_x_targetAt nt nu) with
  | none =>
    refine W.eq (g2 := F0 m 5 ls [.null]) rfl ?_
    refine lv_astore_nN (lv' := [(2, .null), (0, .ref (ad 0)), (1, .int nu)]) hx hb d_x_searchAt_5 rfl hl (by decide) rfl (fun ls hl => ?_)
    refine lv_aload_nN hx hb d_x_searchAt_6 rfl (lv_at hl 0 rfl) ?_
    refine lv_ifnullN (tgt := 21) hx hb d_x_searchAt_7 (by decide) ?_
    refine lv_null hx hb d_x_searchAt_21 ?_
    exact ro_aret FX (by rw [f_x_searchAt, om_none hq1] <;> rfl) d_x_searchAt_22
  | some j =>
    have hj : j < nt := ta_lt hnt hq1
    have hP : va_P D classes [(ad (5 + 2 * j), .inr (2, [.ref (ad 2), .ref (ad (6 + 2 * j)), .long ((TT j).1), .long ((TT j).2.1), .int (bz (TT j).2.2.1), .int ((TT j).2.2.2.1), .int ((TT j).2.2.2.2.1), .int ((TT j).2.2.2.2.2.1), .int ((TT j).2.2.2.2.2.2.1), .int ((TT j).2.2.2.2.2.2.2.1), .int ((TT j).2.2.2.2.2.2.2.2.1)])), (ad (6 + 2 * j), .inl (cA 0, 40, .inr (.inl ((TT j).2.2.2.2.2.2.2.2.2)))), (ad 0, .inr (0, [.ref (ad 2), .ref (ad 1), .int (nI nt)])), (ad 1, .inl (cA 1, 4, .inr (.inr (.inr (.inr (tvf ad nt)))))), (ad 2, .inr (1, [.ref (ad 3), .ref (ad 4), .int G.2.2.1, .long G.2.2.2.1, .long G.2.2.2.2])), (ad 3, .inl (cA 0, 40, .inr (.inl G.1))), (ad 4, .inl (cA 0, 40, .inr (.inl G.2.1)))] s.heap := (hW.2 j hj).app hP
    refine W.eq (g2 := F0 m 5 ls [.ref (ad (5 + 2 * j))]) rfl ?_
    refine lv_astore_n (lv' := [(2, .ref (ad (5 + 2 * j))), (0, .ref (ad 0)), (1, .int nu)]) hx hb d_x_searchAt_5 rfl hl (by decide) rfl (fun ls hl => ?_)
    refine lv_aload_n hx hb d_x_searchAt_6 rfl (lv_at hl 0 rfl) ?_
    refine lv_ifnull hx hb d_x_searchAt_7 ?_
    refine lv_aload_n hx hb d_x_searchAt_10 rfl (lv_at hl 0 rfl) ?_
    refine ro_V (v := .int (bz (f_t_isSearched ((TT j).2.2.1)))) (As := []) (rest := []) (q0 := 0) FX hK (c_t_isSearched l D cA (ad (5 + 2 * j)) (ad (6 + 2 * j)) ((TT j).1) ((TT j).2.1) ((TT j).2.2.1) ((TT j).2.2.2.1) ((TT j).2.2.2.2.1) ((TT j).2.2.2.2.2.1) ((TT j).2.2.2.2.2.2.1) ((TT j).2.2.2.2.2.2.2.1) ((TT j).2.2.2.2.2.2.2.2.1) ((TT j).2.2.2.2.2.2.2.2.2) (ad 2) (ad 3) (ad 4) G.1 G.2.1 G.2.2.1 G.2.2.2.1 G.2.2.2.2) (hP.sub [0, 1, 4, 5, 6] rfl) hP rfl rfl rfl kc_t_isSearched km_x_55 ki_t ks_t_isSearched ke_t_isSearched rfl ok_t_isSearched ⟨Nat.le_of_ble_eq_true rfl, Nat.le_of_ble_eq_true rfl⟩ ⟨Nat.zero_le _, Nat.zero_le _⟩ hl.1 rfl (Nat.le_of_ble_eq_true rfl) d_x_searchAt_11 ?_
    refine lv_if_eq (tgt := 21) hx hb d_x_searchAt_14 (by decide) (fun c2 => ?_) (fun c2 => ?_)
    · have c2 := bz_f c2
      refine lv_null hx hb d_x_searchAt_21 ?_
      exact ro_aret FX (by rw [f_x_searchAt, om_some hq1, if_neg c2] <;> rfl) d_x_searchAt_22
    · have c2 := bz_t c2
      refine lv_aload_n hx hb d_x_searchAt_17 rfl (lv_at hl 0 rfl) ?_
      refine lv_goto (tgt := 22) hx hb d_x_searchAt_18 (by decide) ?_
      exact ro_aret FX (by rw [f_x_searchAt, om_some hq1, if_pos c2] <;> rfl) d_x_searchAt_22
theorem sa_lt {nt j : Nat} {TT : Nat → TS} {nu : Int32} (hnt : nt ≤ 4) (h : f_x_searchAt nt TT nu = some j) : j < nt := by
  unfold f_x_searchAt at h
  cases hq : f_x_targetAt nt nu with
  | none => rw [om_none hq] at h; cases h
  | some i =>
    rw [om_some hq] at h
    by_cases h1 : f_t_isSearched (TT i).2.2.1 = true
    · rw [if_pos h1] at h
      cases h
      exact ta_lt hnt hq
    · rw [if_neg h1] at h; cases h
theorem d_x_has_0 : decode b_x_has 0 = .ok (.aload_n 0, 1) := by decide +kernel
theorem d_x_has_1 : decode b_x_has 1 = .ok (.getfield 10, 3) := by decide +kernel
theorem d_x_has_4 : decode b_x_has 4 = .ok (.iload_n 2, 1) := by decide +kernel
theorem d_x_has_5 : decode b_x_has 5 = .ok (.invokevirtual 38, 3) := by decide +kernel
theorem d_x_has_8 : decode b_x_has 8 = .ok (.ifCond .eq 22, 3) := by decide +kernel
theorem d_x_has_11 : decode b_x_has 11 = .ok (.aload_n 0, 1) := by decide +kernel
theorem d_x_has_12 : decode b_x_has 12 = .ok (.getfield 10, 3) := by decide +kernel
theorem d_x_has_15 : decode b_x_has 15 = .ok (.iload_n 1, 1) := by decide +kernel
theorem d_x_has_16 : decode b_x_has 16 = .ok (.invokevirtual 41, 3) := by decide +kernel
theorem d_x_has_19 : decode b_x_has 19 = .ok (.iload_n 2, 1) := by decide +kernel
theorem d_x_has_20 : decode b_x_has 20 = .ok (.invokestatic 44, 3) := by decide +kernel
theorem d_x_has_23 : decode b_x_has 23 = .ok (.ifCond .eq 7, 3) := by decide +kernel
theorem d_x_has_26 : decode b_x_has 26 = .ok (.iconst 1, 1) := by decide +kernel
theorem d_x_has_27 : decode b_x_has 27 = .ok (.goto 4, 3) := by decide +kernel
theorem d_x_has_30 : decode b_x_has 30 = .ok (.iconst 0, 1) := by decide +kernel
theorem d_x_has_31 : decode b_x_has 31 = .ok (.ireturn, 1) := by decide +kernel
def f_x_has (G : GS) (ch : Int32) (ot : Int32) : Bool := if (f_g_holds G.2.2.1 ot) = true then
    (if (f_x_contains (f_g_reach G.2.1 G.2.2.1 ch) ot) = true then
      (true)
    else
      (false))
  else
    (false)
set_option maxHeartbeats 4000000 in
set_option maxRecDepth 100000 in
theorem c_x_has (l : Launch) (D : va_G) (cA : Nat → ClassId) (ad : Nat → Nat) (nt : Nat) (G : GS) (TT : Nat → TS) (ch : Int32) (ot : Int32) (hnt : nt ≤ 4) (S : Nat) (hS40 : S ≤ 40) (hsz : G.2.2.1 = nI S) : Met l y_x_has (.code y_x_has b_x_has 3 (some .boolean) :: tb) (rmd 3) (Pro D cA [.ref (ad 0), .int ch, .int ot] (WX D cA ad nt G TT)) (Qro (.int (bz (f_x_has G ch ot)))) 0 0 nof := by
  refine ro_in (by decide) (Nat.le_of_ble_eq_true rfl) (fun p e s m below meth c ls FX hnm hK hW hl => ?_)
  have hl : lv_has ls 3 [(0, .ref (ad 0)), (1, .int ch), (2, .int ot)] := hl
  have hP : va_P D classes [(ad 0, .inr (0, [.ref (ad 2), .ref (ad 1), .int (nI nt)])), (ad 1, .inl (cA 1, 4, .inr (.inr (.inr (.inr (tvf ad nt)))))), (ad 2, .inr (1, [.ref (ad 3), .ref (ad 4), .int G.2.2.1, .long G.2.2.2.1, .long G.2.2.2.2])), (ad 3, .inl (cA 0, 40, .inr (.inl G.1))), (ad 4, .inl (cA 0, 40, .inr (.inl G.2.1)))] s.heap := hW.1
  generalize ([.ref (ad 0), .int ch, .int ot] : List Value).toArray = args at FX ⊢
  obtain ⟨hx, hb, hml, hown, hts, hr, hlk⟩ := id FX
  refine lv_aload_n hx hb d_x_has_0 rfl (lv_at hl 0 rfl) ?_
  refine ro_get (v := .ref (ad 2)) FX hK hP 0 0 rfl rfl rfl i_x (by decide) kf_x_10 d_x_has_1 ?_
  refine lv_iload_n hx hb d_x_has_4 rfl (lv_at hl 2 rfl) ?_
  refine ro_V (v := .int (bz (f_g_holds G.2.2.1 ot))) (As := [.int ot]) (rest := []) (q0 := 2) FX hK (c_g_holds l D cA (ad 2) (ad 3) (ad 4) G.1 G.2.1 G.2.2.1 G.2.2.2.1 G.2.2.2.2 ot) (hP.sub [2, 3, 4] rfl) hP rfl rfl rfl kc_g_holds km_x_38 ki_g ks_g_holds ke_g_holds rfl ok_g_holds ⟨Nat.le_of_ble_eq_true rfl, Nat.le_of_ble_eq_true rfl⟩ ⟨Nat.zero_le _, Nat.zero_le _⟩ hl.1 rfl (Nat.le_of_ble_eq_true rfl) d_x_has_5 ?_
  refine lv_if_eq (tgt := 30) hx hb d_x_has_8 (by decide) (fun c1 => ?_) (fun c1 => ?_)
  · have c1 := bz_f c1
    refine lv_iconst (v := 0) hx hb d_x_has_30 (by decide) ?_
    exact ro_zret FX (by rw [f_x_has, if_neg c1] <;> rfl) d_x_has_31
  · have c1 := bz_t c1
    refine lv_aload_n hx hb d_x_has_11 rfl (lv_at hl 0 rfl) ?_
    refine ro_get (v := .ref (ad 2)) FX hK hP 0 0 rfl rfl rfl i_x (by decide) kf_x_10 d_x_has_12 ?_
    refine lv_iload_n hx hb d_x_has_15 rfl (lv_at hl 1 rfl) ?_
    refine ro_V (v := .long (f_g_reach G.2.1 G.2.2.1 ch)) (As := [.int ch]) (rest := []) (q0 := 2) FX hK (c_g_reach l D cA (ad 2) (ad 3) (ad 4) G.1 G.2.1 G.2.2.1 G.2.2.2.1 G.2.2.2.2 ch) (hP.sub [2, 3, 4] rfl) hP rfl rfl rfl kc_g_reach km_x_41 ki_g ks_g_reach ke_g_reach rfl ok_g_reach ⟨Nat.le_of_ble_eq_true rfl, Nat.le_of_ble_eq_true rfl⟩ ⟨Nat.zero_le _, Nat.zero_le _⟩ hl.1 rfl (Nat.le_of_ble_eq_true rfl) d_x_has_16 ?_
    refine lv_iload_n hx hb d_x_has_19 rfl (lv_at hl 2 rfl) ?_
    refine ro_S (v := .int (bz (f_x_contains (f_g_reach G.2.1 G.2.2.1 ch) ot))) (As := [.long (f_g_reach G.2.1 G.2.2.1 ch), .int ot]) (rest := []) FX hK (c_x_contains l D cA (f_g_reach G.2.1 G.2.2.1 ch) ot) trivial kc_x_contains km_x_44 ki_x ks_x_contains rfl ok_x_contains ⟨Nat.le_of_ble_eq_true rfl, Nat.le_of_ble_eq_true rfl⟩ ⟨Nat.zero_le _, Nat.zero_le _⟩ hl.1 rfl (Nat.le_of_ble_eq_true rfl) d_x_has_20 ?_
    refine lv_if_eq (tgt := 30) hx hb d_x_has_23 (by decide) (fun c2 => ?_) (fun c2 => ?_)
    · have c2 := bz_f c2
      refine lv_iconst (v := 0) hx hb d_x_has_30 (by decide) ?_
      exact ro_zret FX (by rw [f_x_has, if_pos c1, if_neg c2] <;> rfl) d_x_has_31
    · have c2 := bz_t c2
      refine lv_iconst (v := 1) hx hb d_x_has_26 (by decide) ?_
      refine lv_goto (tgt := 31) hx hb d_x_has_27 (by decide) ?_
      exact ro_zret FX (by rw [f_x_has, if_pos c1, if_pos c2] <;> rfl) d_x_has_31
theorem d_x_state_0 : decode b_x_state 0 = .ok (.aload_n 0, 1) := by decide +kernel
theorem d_x_state_1 : decode b_x_state 1 = .ok (.iload_n 1, 1) := by decide +kernel
theorem d_x_state_2 : decode b_x_state 2 = .ok (.invokevirtual 76, 3) := by decide +kernel
theorem d_x_state_5 : decode b_x_state 5 = .ok (.astore_n 2, 1) := by decide +kernel
theorem d_x_state_6 : decode b_x_state 6 = .ok (.aload_n 2, 1) := by decide +kernel
theorem d_x_state_7 : decode b_x_state 7 = .ok (.ifnonnull 7, 3) := by decide +kernel
theorem d_x_state_10 : decode b_x_state 10 = .ok (.iconst (-1), 1) := by decide +kernel
theorem d_x_state_11 : decode b_x_state 11 = .ok (.goto 7, 3) := by decide +kernel
theorem d_x_state_14 : decode b_x_state 14 = .ok (.aload_n 2, 1) := by decide +kernel
theorem d_x_state_15 : decode b_x_state 15 = .ok (.invokevirtual 82, 3) := by decide +kernel
theorem d_x_state_18 : decode b_x_state 18 = .ok (.ireturn, 1) := by decide +kernel
def f_x_state (nt : Nat) (G : GS) (TT : Nat → TS) (ta : Int32) : Int32 := om (f_x_searchAt nt TT ta)
    ((-1))
    (fun j => f_t_standing ((TT j).2.2.2.2.2.2.1) ((TT j).2.2.2.2.2.2.2.1) ((TT j).2.2.2.2.2.2.2.2.2) G.2.1 G.2.2.1 G.2.2.2.1 G.2.2.2.2)
set_option maxHeartbeats 4000000 in
set_option maxRecDepth 100000 in
theorem c_x_state (l : Launch) (D : va_G) (cA : Nat → ClassId) (ad : Nat → Nat) (nt : Nat) (G : GS) (TT : Nat → TS) (ta : Int32) (hnt : nt ≤ 4) (S : Nat) (hS40 : S ≤ 40) (hsz : G.2.2.1 = nI S) : Met l y_x_state (.code y_x_state b_x_state 3 (some .int) :: tb) (rmd 5) (Pro D cA [.ref (ad 0), .int ta] (WX D cA ad nt G TT)) (Qro (.int (f_x_state nt G TT ta))) 0 0 nof := by
  refine ro_in (by decide) (Nat.le_of_ble_eq_true rfl) (fun p e s m below meth c ls FX hnm hK hW hl => ?_)
  have hl : lv_has ls 3 [(0, .ref (ad 0)), (1, .int ta)] := hl
  have hP : va_P D classes [(ad 0, .inr (0, [.ref (ad 2), .ref (ad 1), .int (nI nt)])), (ad 1, .inl (cA 1, 4, .inr (.inr (.inr (.inr (tvf ad nt)))))), (ad 2, .inr (1, [.ref (ad 3), .ref (ad 4), .int G.2.2.1, .long G.2.2.2.1, .long G.2.2.2.2])), (ad 3, .inl (cA 0, 40, .inr (.inl G.1))), (ad 4, .inl (cA 0, 40, .inr (.inl G.2.1)))] s.heap := hW.1
  generalize ([.ref (ad 0), .int ta] : List Value).toArray = args at FX ⊢
  obtain ⟨hx, hb, hml, hown, hts, hr, hlk⟩ := id FX
  refine lv_aload_n hx hb d_x_state_0 rfl (lv_at hl 0 rfl) ?_
  refine lv_iload_n hx hb d_x_state_1 rfl (lv_at hl 1 rfl) ?_
  refine ro_V (v := va_rf ((f_x_searchAt nt TT ta).map (fun j => ad (5 + 2 * j)))) (As := [.int ta]) (rest := []) (q0 := 0) FX hK (c_x_searchAt l D cA ad nt G TT ta hnt S hS40 hsz) hW hP rfl rfl rfl kc_x_searchAt km_x_76 ki_x ks_x_searchAt ke_x_searchAt rfl ok_x_searchAt ⟨Nat.le_of_ble_eq_true rfl, Nat.le_of_ble_eq_true rfl⟩ ⟨Nat.zero_le _, Nat.zero_le _⟩ hl.1 rfl (Nat.le_of_ble_eq_true rfl) d_x_state_2 ?_
  cases hq1 : (f_x_searchAt nt TT ta) with
  | none =>
    refine W.eq (g2 := F0 m 5 ls [.null]) rfl ?_
    refine lv_astore_nN (lv' := [(2, .null), (0, .ref (ad 0)), (1, .int ta)]) hx hb d_x_state_5 rfl hl (by decide) rfl (fun ls hl => ?_)
    refine lv_aload_nN hx hb d_x_state_6 rfl (lv_at hl 0 rfl) ?_
    refine lv_ifnonnullN hx hb d_x_state_7 ?_
    refine lv_iconst (v := (-1)) hx hb d_x_state_10 (by decide) ?_
    refine lv_goto (tgt := 18) hx hb d_x_state_11 (by decide) ?_
    exact ro_iret FX (by rw [f_x_state, om_none hq1]) d_x_state_18
  | some j =>
    have hj : j < nt := sa_lt hnt hq1
    have hP : va_P D classes [(ad (5 + 2 * j), .inr (2, [.ref (ad 2), .ref (ad (6 + 2 * j)), .long ((TT j).1), .long ((TT j).2.1), .int (bz (TT j).2.2.1), .int ((TT j).2.2.2.1), .int ((TT j).2.2.2.2.1), .int ((TT j).2.2.2.2.2.1), .int ((TT j).2.2.2.2.2.2.1), .int ((TT j).2.2.2.2.2.2.2.1), .int ((TT j).2.2.2.2.2.2.2.2.1)])), (ad (6 + 2 * j), .inl (cA 0, 40, .inr (.inl ((TT j).2.2.2.2.2.2.2.2.2)))), (ad 0, .inr (0, [.ref (ad 2), .ref (ad 1), .int (nI nt)])), (ad 1, .inl (cA 1, 4, .inr (.inr (.inr (.inr (tvf ad nt)))))), (ad 2, .inr (1, [.ref (ad 3), .ref (ad 4), .int G.2.2.1, .long G.2.2.2.1, .long G.2.2.2.2])), (ad 3, .inl (cA 0, 40, .inr (.inl G.1))), (ad 4, .inl (cA 0, 40, .inr (.inl G.2.1)))] s.heap := (hW.2 j hj).app hP
    refine W.eq (g2 := F0 m 5 ls [.ref (ad (5 + 2 * j))]) rfl ?_
    refine lv_astore_n (lv' := [(2, .ref (ad (5 + 2 * j))), (0, .ref (ad 0)), (1, .int ta)]) hx hb d_x_state_5 rfl hl (by decide) rfl (fun ls hl => ?_)
    refine lv_aload_n hx hb d_x_state_6 rfl (lv_at hl 0 rfl) ?_
    refine lv_ifnonnull (tgt := 14) hx hb d_x_state_7 (by decide) ?_
    refine lv_aload_n hx hb d_x_state_14 rfl (lv_at hl 0 rfl) ?_
    refine ro_V (v := .int (f_t_standing ((TT j).2.2.2.2.2.2.1) ((TT j).2.2.2.2.2.2.2.1) ((TT j).2.2.2.2.2.2.2.2.2) G.2.1 G.2.2.1 G.2.2.2.1 G.2.2.2.2)) (As := []) (rest := []) (q0 := 0) FX hK (c_t_standing l D cA (ad (5 + 2 * j)) (ad (6 + 2 * j)) ((TT j).1) ((TT j).2.1) ((TT j).2.2.1) ((TT j).2.2.2.1) ((TT j).2.2.2.2.1) ((TT j).2.2.2.2.2.1) ((TT j).2.2.2.2.2.2.1) ((TT j).2.2.2.2.2.2.2.1) ((TT j).2.2.2.2.2.2.2.2.1) ((TT j).2.2.2.2.2.2.2.2.2) (ad 2) (ad 3) (ad 4) G.1 G.2.1 G.2.2.1 G.2.2.2.1 G.2.2.2.2 S hS40 hsz) (hP.sub [0, 1, 4, 5, 6] rfl) hP rfl rfl rfl kc_t_standing km_x_82 ki_t ks_t_standing ke_t_standing rfl ok_t_standing ⟨Nat.le_of_ble_eq_true rfl, Nat.le_of_ble_eq_true rfl⟩ ⟨Nat.zero_le _, Nat.zero_le _⟩ hl.1 rfl (Nat.le_of_ble_eq_true rfl) d_x_state_15 ?_
    exact ro_iret FX (by rw [f_x_state, om_some hq1]) d_x_state_18
theorem d_x_next_0 : decode b_x_next 0 = .ok (.aload_n 0, 1) := by decide +kernel
theorem d_x_next_1 : decode b_x_next 1 = .ok (.iload_n 1, 1) := by decide +kernel
theorem d_x_next_2 : decode b_x_next 2 = .ok (.invokevirtual 76, 3) := by decide +kernel
theorem d_x_next_5 : decode b_x_next 5 = .ok (.astore_n 2, 1) := by decide +kernel
theorem d_x_next_6 : decode b_x_next 6 = .ok (.aload_n 2, 1) := by decide +kernel
theorem d_x_next_7 : decode b_x_next 7 = .ok (.ifnonnull 7, 3) := by decide +kernel
theorem d_x_next_10 : decode b_x_next 10 = .ok (.iconst (-1), 1) := by decide +kernel
theorem d_x_next_11 : decode b_x_next 11 = .ok (.goto 7, 3) := by decide +kernel
theorem d_x_next_14 : decode b_x_next 14 = .ok (.aload_n 2, 1) := by decide +kernel
theorem d_x_next_15 : decode b_x_next 15 = .ok (.invokevirtual 86, 3) := by decide +kernel
theorem d_x_next_18 : decode b_x_next 18 = .ok (.ireturn, 1) := by decide +kernel
def f_x_next (nt : Nat) (G : GS) (TT : Nat → TS) (ta : Int32) : Int32 := om (f_x_searchAt nt TT ta)
    ((-1))
    (fun j => f_t_asked ((TT j).2.2.2.2.2.2.1) ((TT j).2.2.2.2.2.2.2.1) ((TT j).2.2.2.2.2.2.2.2.2) G.2.1 G.2.2.1 G.2.2.2.1 G.2.2.2.2)
set_option maxHeartbeats 4000000 in
set_option maxRecDepth 100000 in
theorem c_x_next (l : Launch) (D : va_G) (cA : Nat → ClassId) (ad : Nat → Nat) (nt : Nat) (G : GS) (TT : Nat → TS) (ta : Int32) (hnt : nt ≤ 4) (S : Nat) (hS40 : S ≤ 40) (hsz : G.2.2.1 = nI S) : Met l y_x_next (.code y_x_next b_x_next 3 (some .int) :: tb) (rmd 6) (Pro D cA [.ref (ad 0), .int ta] (WX D cA ad nt G TT)) (Qro (.int (f_x_next nt G TT ta))) 0 0 nof := by
  refine ro_in (by decide) (Nat.le_of_ble_eq_true rfl) (fun p e s m below meth c ls FX hnm hK hW hl => ?_)
  have hl : lv_has ls 3 [(0, .ref (ad 0)), (1, .int ta)] := hl
  have hP : va_P D classes [(ad 0, .inr (0, [.ref (ad 2), .ref (ad 1), .int (nI nt)])), (ad 1, .inl (cA 1, 4, .inr (.inr (.inr (.inr (tvf ad nt)))))), (ad 2, .inr (1, [.ref (ad 3), .ref (ad 4), .int G.2.2.1, .long G.2.2.2.1, .long G.2.2.2.2])), (ad 3, .inl (cA 0, 40, .inr (.inl G.1))), (ad 4, .inl (cA 0, 40, .inr (.inl G.2.1)))] s.heap := hW.1
  generalize ([.ref (ad 0), .int ta] : List Value).toArray = args at FX ⊢
  obtain ⟨hx, hb, hml, hown, hts, hr, hlk⟩ := id FX
  refine lv_aload_n hx hb d_x_next_0 rfl (lv_at hl 0 rfl) ?_
  refine lv_iload_n hx hb d_x_next_1 rfl (lv_at hl 1 rfl) ?_
  refine ro_V (v := va_rf ((f_x_searchAt nt TT ta).map (fun j => ad (5 + 2 * j)))) (As := [.int ta]) (rest := []) (q0 := 0) FX hK (c_x_searchAt l D cA ad nt G TT ta hnt S hS40 hsz) hW hP rfl rfl rfl kc_x_searchAt km_x_76 ki_x ks_x_searchAt ke_x_searchAt rfl ok_x_searchAt ⟨Nat.le_of_ble_eq_true rfl, Nat.le_of_ble_eq_true rfl⟩ ⟨Nat.zero_le _, Nat.zero_le _⟩ hl.1 rfl (Nat.le_of_ble_eq_true rfl) d_x_next_2 ?_
  cases hq1 : (f_x_searchAt nt TT ta) with
  | none =>
    refine W.eq (g2 := F0 m 5 ls [.null]) rfl ?_
    refine lv_astore_nN (lv' := [(2, .null), (0, .ref (ad 0)), (1, .int ta)]) hx hb d_x_next_5 rfl hl (by decide) rfl (fun ls hl => ?_)
    refine lv_aload_nN hx hb d_x_next_6 rfl (lv_at hl 0 rfl) ?_
    refine lv_ifnonnullN hx hb d_x_next_7 ?_
    refine lv_iconst (v := (-1)) hx hb d_x_next_10 (by decide) ?_
    refine lv_goto (tgt := 18) hx hb d_x_next_11 (by decide) ?_
    exact ro_iret FX (by rw [f_x_next, om_none hq1]) d_x_next_18
  | some j =>
    have hj : j < nt := sa_lt hnt hq1
    have hP : va_P D classes [(ad (5 + 2 * j), .inr (2, [.ref (ad 2), .ref (ad (6 + 2 * j)), .long ((TT j).1), .long ((TT j).2.1), .int (bz (TT j).2.2.1), .int ((TT j).2.2.2.1), .int ((TT j).2.2.2.2.1), .int ((TT j).2.2.2.2.2.1), .int ((TT j).2.2.2.2.2.2.1), .int ((TT j).2.2.2.2.2.2.2.1), .int ((TT j).2.2.2.2.2.2.2.2.1)])), (ad (6 + 2 * j), .inl (cA 0, 40, .inr (.inl ((TT j).2.2.2.2.2.2.2.2.2)))), (ad 0, .inr (0, [.ref (ad 2), .ref (ad 1), .int (nI nt)])), (ad 1, .inl (cA 1, 4, .inr (.inr (.inr (.inr (tvf ad nt)))))), (ad 2, .inr (1, [.ref (ad 3), .ref (ad 4), .int G.2.2.1, .long G.2.2.2.1, .long G.2.2.2.2])), (ad 3, .inl (cA 0, 40, .inr (.inl G.1))), (ad 4, .inl (cA 0, 40, .inr (.inl G.2.1)))] s.heap := (hW.2 j hj).app hP
    refine W.eq (g2 := F0 m 5 ls [.ref (ad (5 + 2 * j))]) rfl ?_
    refine lv_astore_n (lv' := [(2, .ref (ad (5 + 2 * j))), (0, .ref (ad 0)), (1, .int ta)]) hx hb d_x_next_5 rfl hl (by decide) rfl (fun ls hl => ?_)
    refine lv_aload_n hx hb d_x_next_6 rfl (lv_at hl 0 rfl) ?_
    refine lv_ifnonnull (tgt := 14) hx hb d_x_next_7 (by decide) ?_
    refine lv_aload_n hx hb d_x_next_14 rfl (lv_at hl 0 rfl) ?_
    refine ro_V (v := .int (f_t_asked ((TT j).2.2.2.2.2.2.1) ((TT j).2.2.2.2.2.2.2.1) ((TT j).2.2.2.2.2.2.2.2.2) G.2.1 G.2.2.1 G.2.2.2.1 G.2.2.2.2)) (As := []) (rest := []) (q0 := 0) FX hK (c_t_asked l D cA (ad (5 + 2 * j)) (ad (6 + 2 * j)) ((TT j).1) ((TT j).2.1) ((TT j).2.2.1) ((TT j).2.2.2.1) ((TT j).2.2.2.2.1) ((TT j).2.2.2.2.2.1) ((TT j).2.2.2.2.2.2.1) ((TT j).2.2.2.2.2.2.2.1) ((TT j).2.2.2.2.2.2.2.2.1) ((TT j).2.2.2.2.2.2.2.2.2) (ad 2) (ad 3) (ad 4) G.1 G.2.1 G.2.2.1 G.2.2.2.1 G.2.2.2.2 S hS40 hsz) (hP.sub [0, 1, 4, 5, 6] rfl) hP rfl rfl rfl kc_t_asked km_x_86 ki_t ks_t_asked ke_t_asked rfl ok_t_asked ⟨Nat.le_of_ble_eq_true rfl, Nat.le_of_ble_eq_true rfl⟩ ⟨Nat.zero_le _, Nat.zero_le _⟩ hl.1 rfl (Nat.le_of_ble_eq_true rfl) d_x_next_15 ?_
    exact ro_iret FX (by rw [f_x_next, om_some hq1]) d_x_next_18
theorem d_x_weight_0 : decode b_x_weight 0 = .ok (.aload_n 0, 1) := by decide +kernel
theorem d_x_weight_1 : decode b_x_weight 1 = .ok (.iload_n 1, 1) := by decide +kernel
theorem d_x_weight_2 : decode b_x_weight 2 = .ok (.invokevirtual 76, 3) := by decide +kernel
theorem d_x_weight_5 : decode b_x_weight 5 = .ok (.astore_n 3, 1) := by decide +kernel
theorem d_x_weight_6 : decode b_x_weight 6 = .ok (.aload_n 3, 1) := by decide +kernel
theorem d_x_weight_7 : decode b_x_weight 7 = .ok (.ifnonnull 7, 3) := by decide +kernel
theorem d_x_weight_10 : decode b_x_weight 10 = .ok (.lconst 0, 1) := by decide +kernel
theorem d_x_weight_11 : decode b_x_weight 11 = .ok (.goto 8, 3) := by decide +kernel
theorem d_x_weight_14 : decode b_x_weight 14 = .ok (.aload_n 3, 1) := by decide +kernel
theorem d_x_weight_15 : decode b_x_weight 15 = .ok (.iload_n 2, 1) := by decide +kernel
theorem d_x_weight_16 : decode b_x_weight 16 = .ok (.invokevirtual 97, 3) := by decide +kernel
theorem d_x_weight_19 : decode b_x_weight 19 = .ok (.lreturn, 1) := by decide +kernel
def f_x_weight (nt : Nat) (TT : Nat → TS) (ta : Int32) (ch : Int32) : Int64 := om (f_x_searchAt nt TT ta)
    (0)
    (fun j => f_t_weightOf ((TT j).2.2.2.2.2.2.2.2.2) ch)
set_option maxHeartbeats 4000000 in
set_option maxRecDepth 100000 in
theorem c_x_weight (l : Launch) (D : va_G) (cA : Nat → ClassId) (ad : Nat → Nat) (nt : Nat) (G : GS) (TT : Nat → TS) (ta : Int32) (ch : Int32) (hnt : nt ≤ 4) (S : Nat) (hS40 : S ≤ 40) (hsz : G.2.2.1 = nI S) : Met l y_x_weight (.code y_x_weight b_x_weight 4 (some .long) :: tb) (rmd 2) (Pro D cA [.ref (ad 0), .int ta, .int ch] (WX D cA ad nt G TT)) (Qro (.long (f_x_weight nt TT ta ch))) 0 0 nof := by
  refine ro_in (by decide) (Nat.le_of_ble_eq_true rfl) (fun p e s m below meth c ls FX hnm hK hW hl => ?_)
  have hl : lv_has ls 4 [(0, .ref (ad 0)), (1, .int ta), (2, .int ch)] := hl
  have hP : va_P D classes [(ad 0, .inr (0, [.ref (ad 2), .ref (ad 1), .int (nI nt)])), (ad 1, .inl (cA 1, 4, .inr (.inr (.inr (.inr (tvf ad nt)))))), (ad 2, .inr (1, [.ref (ad 3), .ref (ad 4), .int G.2.2.1, .long G.2.2.2.1, .long G.2.2.2.2])), (ad 3, .inl (cA 0, 40, .inr (.inl G.1))), (ad 4, .inl (cA 0, 40, .inr (.inl G.2.1)))] s.heap := hW.1
  generalize ([.ref (ad 0), .int ta, .int ch] : List Value).toArray = args at FX ⊢
  obtain ⟨hx, hb, hml, hown, hts, hr, hlk⟩ := id FX
  refine lv_aload_n hx hb d_x_weight_0 rfl (lv_at hl 0 rfl) ?_
  refine lv_iload_n hx hb d_x_weight_1 rfl (lv_at hl 1 rfl) ?_
  refine ro_V (v := va_rf ((f_x_searchAt nt TT ta).map (fun j => ad (5 + 2 * j)))) (As := [.int ta]) (rest := []) (q0 := 0) FX hK (c_x_searchAt l D cA ad nt G TT ta hnt S hS40 hsz) hW hP rfl rfl rfl kc_x_searchAt km_x_76 ki_x ks_x_searchAt ke_x_searchAt rfl ok_x_searchAt ⟨Nat.le_of_ble_eq_true rfl, Nat.le_of_ble_eq_true rfl⟩ ⟨Nat.zero_le _, Nat.zero_le _⟩ hl.1 rfl (Nat.le_of_ble_eq_true rfl) d_x_weight_2 ?_
  cases hq1 : (f_x_searchAt nt TT ta) with
  | none =>
    refine W.eq (g2 := F0 m 5 ls [.null]) rfl ?_
    refine lv_astore_nN (lv' := [(3, .null), (0, .ref (ad 0)), (1, .int ta), (2, .int ch)]) hx hb d_x_weight_5 rfl hl (by decide) rfl (fun ls hl => ?_)
    refine lv_aload_nN hx hb d_x_weight_6 rfl (lv_at hl 0 rfl) ?_
    refine lv_ifnonnullN hx hb d_x_weight_7 ?_
    refine lv_lconst (v := 0) hx hb d_x_weight_10 (by decide) ?_
    refine lv_goto (tgt := 19) hx hb d_x_weight_11 (by decide) ?_
    exact ro_lret FX (by rw [f_x_weight, om_none hq1]) d_x_weight_19
  | some j =>
    have hj : j < nt := sa_lt hnt hq1
    have hP : va_P D classes [(ad (5 + 2 * j), .inr (2, [.ref (ad 2), .ref (ad (6 + 2 * j)), .long ((TT j).1), .long ((TT j).2.1), .int (bz (TT j).2.2.1), .int ((TT j).2.2.2.1), .int ((TT j).2.2.2.2.1), .int ((TT j).2.2.2.2.2.1), .int ((TT j).2.2.2.2.2.2.1), .int ((TT j).2.2.2.2.2.2.2.1), .int ((TT j).2.2.2.2.2.2.2.2.1)])), (ad (6 + 2 * j), .inl (cA 0, 40, .inr (.inl ((TT j).2.2.2.2.2.2.2.2.2)))), (ad 0, .inr (0, [.ref (ad 2), .ref (ad 1), .int (nI nt)])), (ad 1, .inl (cA 1, 4, .inr (.inr (.inr (.inr (tvf ad nt)))))), (ad 2, .inr (1, [.ref (ad 3), .ref (ad 4), .int G.2.2.1, .long G.2.2.2.1, .long G.2.2.2.2])), (ad 3, .inl (cA 0, 40, .inr (.inl G.1))), (ad 4, .inl (cA 0, 40, .inr (.inl G.2.1)))] s.heap := (hW.2 j hj).app hP
    refine W.eq (g2 := F0 m 5 ls [.ref (ad (5 + 2 * j))]) rfl ?_
    refine lv_astore_n (lv' := [(3, .ref (ad (5 + 2 * j))), (0, .ref (ad 0)), (1, .int ta), (2, .int ch)]) hx hb d_x_weight_5 rfl hl (by decide) rfl (fun ls hl => ?_)
    refine lv_aload_n hx hb d_x_weight_6 rfl (lv_at hl 0 rfl) ?_
    refine lv_ifnonnull (tgt := 14) hx hb d_x_weight_7 (by decide) ?_
    refine lv_aload_n hx hb d_x_weight_14 rfl (lv_at hl 0 rfl) ?_
    refine lv_iload_n hx hb d_x_weight_15 rfl (lv_at hl 3 rfl) ?_
    refine ro_V (v := .long (f_t_weightOf ((TT j).2.2.2.2.2.2.2.2.2) ch)) (As := [.int ch]) (rest := []) (q0 := 0) FX hK (c_t_weightOf l D cA (ad (5 + 2 * j)) (ad (6 + 2 * j)) ((TT j).1) ((TT j).2.1) ((TT j).2.2.1) ((TT j).2.2.2.1) ((TT j).2.2.2.2.1) ((TT j).2.2.2.2.2.1) ((TT j).2.2.2.2.2.2.1) ((TT j).2.2.2.2.2.2.2.1) ((TT j).2.2.2.2.2.2.2.2.1) ((TT j).2.2.2.2.2.2.2.2.2) (ad 2) (ad 3) (ad 4) G.1 G.2.1 G.2.2.1 G.2.2.2.1 G.2.2.2.2 ch) (hP.sub [0, 1, 4, 5, 6] rfl) hP rfl rfl rfl kc_t_weightOf km_x_97 ki_t ks_t_weightOf ke_t_weightOf rfl ok_t_weightOf ⟨Nat.le_of_ble_eq_true rfl, Nat.le_of_ble_eq_true rfl⟩ ⟨Nat.zero_le _, Nat.zero_le _⟩ hl.1 rfl (Nat.le_of_ble_eq_true rfl) d_x_weight_16 ?_
    exact ro_lret FX (by rw [f_x_weight, om_some hq1]) d_x_weight_19
theorem d_x_part_0 : decode b_x_part 0 = .ok (.aload_n 0, 1) := by decide +kernel
theorem d_x_part_1 : decode b_x_part 1 = .ok (.iload_n 1, 1) := by decide +kernel
theorem d_x_part_2 : decode b_x_part 2 = .ok (.invokevirtual 76, 3) := by decide +kernel
theorem d_x_part_5 : decode b_x_part 5 = .ok (.astore_n 3, 1) := by decide +kernel
theorem d_x_part_6 : decode b_x_part 6 = .ok (.aload_n 3, 1) := by decide +kernel
theorem d_x_part_7 : decode b_x_part 7 = .ok (.ifnonnull 7, 3) := by decide +kernel
theorem d_x_part_10 : decode b_x_part 10 = .ok (.lconst 0, 1) := by decide +kernel
theorem d_x_part_11 : decode b_x_part 11 = .ok (.goto 15, 3) := by decide +kernel
theorem d_x_part_14 : decode b_x_part 14 = .ok (.aload_n 3, 1) := by decide +kernel
theorem d_x_part_15 : decode b_x_part 15 = .ok (.aload_n 0, 1) := by decide +kernel
theorem d_x_part_16 : decode b_x_part 16 = .ok (.getfield 10, 3) := by decide +kernel
theorem d_x_part_19 : decode b_x_part 19 = .ok (.iload_n 2, 1) := by decide +kernel
theorem d_x_part_20 : decode b_x_part 20 = .ok (.invokevirtual 41, 3) := by decide +kernel
theorem d_x_part_23 : decode b_x_part 23 = .ok (.invokevirtual 100, 3) := by decide +kernel
theorem d_x_part_26 : decode b_x_part 26 = .ok (.lreturn, 1) := by decide +kernel
def f_x_part (nt : Nat) (G : GS) (TT : Nat → TS) (ta : Int32) (ch : Int32) : Int64 := om (f_x_searchAt nt TT ta)
    (0)
    (fun j => f_t_weightWithin ((TT j).2.2.2.2.2.2.2.2.2) (f_g_reach G.2.1 G.2.2.1 ch))
set_option maxHeartbeats 4000000 in
set_option maxRecDepth 100000 in
theorem c_x_part (l : Launch) (D : va_G) (cA : Nat → ClassId) (ad : Nat → Nat) (nt : Nat) (G : GS) (TT : Nat → TS) (ta : Int32) (ch : Int32) (hnt : nt ≤ 4) (S : Nat) (hS40 : S ≤ 40) (hsz : G.2.2.1 = nI S) : Met l y_x_part (.code y_x_part b_x_part 4 (some .long) :: tb) (rmd 3) (Pro D cA [.ref (ad 0), .int ta, .int ch] (WX D cA ad nt G TT)) (Qro (.long (f_x_part nt G TT ta ch))) 0 0 nof := by
  refine ro_in (by decide) (Nat.le_of_ble_eq_true rfl) (fun p e s m below meth c ls FX hnm hK hW hl => ?_)
  have hl : lv_has ls 4 [(0, .ref (ad 0)), (1, .int ta), (2, .int ch)] := hl
  have hP : va_P D classes [(ad 0, .inr (0, [.ref (ad 2), .ref (ad 1), .int (nI nt)])), (ad 1, .inl (cA 1, 4, .inr (.inr (.inr (.inr (tvf ad nt)))))), (ad 2, .inr (1, [.ref (ad 3), .ref (ad 4), .int G.2.2.1, .long G.2.2.2.1, .long G.2.2.2.2])), (ad 3, .inl (cA 0, 40, .inr (.inl G.1))), (ad 4, .inl (cA 0, 40, .inr (.inl G.2.1)))] s.heap := hW.1
  generalize ([.ref (ad 0), .int ta, .int ch] : List Value).toArray = args at FX ⊢
  obtain ⟨hx, hb, hml, hown, hts, hr, hlk⟩ := id FX
  refine lv_aload_n hx hb d_x_part_0 rfl (lv_at hl 0 rfl) ?_
  refine lv_iload_n hx hb d_x_part_1 rfl (lv_at hl 1 rfl) ?_
  refine ro_V (v := va_rf ((f_x_searchAt nt TT ta).map (fun j => ad (5 + 2 * j)))) (As := [.int ta]) (rest := []) (q0 := 0) FX hK (c_x_searchAt l D cA ad nt G TT ta hnt S hS40 hsz) hW hP rfl rfl rfl kc_x_searchAt km_x_76 ki_x ks_x_searchAt ke_x_searchAt rfl ok_x_searchAt ⟨Nat.le_of_ble_eq_true rfl, Nat.le_of_ble_eq_true rfl⟩ ⟨Nat.zero_le _, Nat.zero_le _⟩ hl.1 rfl (Nat.le_of_ble_eq_true rfl) d_x_part_2 ?_
  cases hq1 : (f_x_searchAt nt TT ta) with
  | none =>
    refine W.eq (g2 := F0 m 5 ls [.null]) rfl ?_
    refine lv_astore_nN (lv' := [(3, .null), (0, .ref (ad 0)), (1, .int ta), (2, .int ch)]) hx hb d_x_part_5 rfl hl (by decide) rfl (fun ls hl => ?_)
    refine lv_aload_nN hx hb d_x_part_6 rfl (lv_at hl 0 rfl) ?_
    refine lv_ifnonnullN hx hb d_x_part_7 ?_
    refine lv_lconst (v := 0) hx hb d_x_part_10 (by decide) ?_
    refine lv_goto (tgt := 26) hx hb d_x_part_11 (by decide) ?_
    exact ro_lret FX (by rw [f_x_part, om_none hq1]) d_x_part_26
  | some j =>
    have hj : j < nt := sa_lt hnt hq1
    have hP : va_P D classes [(ad (5 + 2 * j), .inr (2, [.ref (ad 2), .ref (ad (6 + 2 * j)), .long ((TT j).1), .long ((TT j).2.1), .int (bz (TT j).2.2.1), .int ((TT j).2.2.2.1), .int ((TT j).2.2.2.2.1), .int ((TT j).2.2.2.2.2.1), .int ((TT j).2.2.2.2.2.2.1), .int ((TT j).2.2.2.2.2.2.2.1), .int ((TT j).2.2.2.2.2.2.2.2.1)])), (ad (6 + 2 * j), .inl (cA 0, 40, .inr (.inl ((TT j).2.2.2.2.2.2.2.2.2)))), (ad 0, .inr (0, [.ref (ad 2), .ref (ad 1), .int (nI nt)])), (ad 1, .inl (cA 1, 4, .inr (.inr (.inr (.inr (tvf ad nt)))))), (ad 2, .inr (1, [.ref (ad 3), .ref (ad 4), .int G.2.2.1, .long G.2.2.2.1, .long G.2.2.2.2])), (ad 3, .inl (cA 0, 40, .inr (.inl G.1))), (ad 4, .inl (cA 0, 40, .inr (.inl G.2.1)))] s.heap := (hW.2 j hj).app hP
    refine W.eq (g2 := F0 m 5 ls [.ref (ad (5 + 2 * j))]) rfl ?_
    refine lv_astore_n (lv' := [(3, .ref (ad (5 + 2 * j))), (0, .ref (ad 0)), (1, .int ta), (2, .int ch)]) hx hb d_x_part_5 rfl hl (by decide) rfl (fun ls hl => ?_)
    refine lv_aload_n hx hb d_x_part_6 rfl (lv_at hl 0 rfl) ?_
    refine lv_ifnonnull (tgt := 14) hx hb d_x_part_7 (by decide) ?_
    refine lv_aload_n hx hb d_x_part_14 rfl (lv_at hl 0 rfl) ?_
    refine lv_aload_n hx hb d_x_part_15 rfl (lv_at hl 1 rfl) ?_
    refine ro_get (v := .ref (ad 2)) FX hK hP 2 0 rfl rfl rfl i_x (by decide) kf_x_10 d_x_part_16 ?_
    refine lv_iload_n hx hb d_x_part_19 rfl (lv_at hl 3 rfl) ?_
    refine ro_V (v := .long (f_g_reach G.2.1 G.2.2.1 ch)) (As := [.int ch]) (rest := [.ref (ad (5 + 2 * j))]) (q0 := 4) FX hK (c_g_reach l D cA (ad 2) (ad 3) (ad 4) G.1 G.2.1 G.2.2.1 G.2.2.2.1 G.2.2.2.2 ch) (hP.sub [4, 5, 6] rfl) hP rfl rfl rfl kc_g_reach km_x_41 ki_g ks_g_reach ke_g_reach rfl ok_g_reach ⟨Nat.le_of_ble_eq_true rfl, Nat.le_of_ble_eq_true rfl⟩ ⟨Nat.zero_le _, Nat.zero_le _⟩ hl.1 rfl (Nat.le_of_ble_eq_true rfl) d_x_part_20 ?_
    refine ro_V (v := .long (f_t_weightWithin ((TT j).2.2.2.2.2.2.2.2.2) (f_g_reach G.2.1 G.2.2.1 ch))) (As := [.long (f_g_reach G.2.1 G.2.2.1 ch)]) (rest := []) (q0 := 0) FX hK (c_t_weightWithin l D cA (ad (5 + 2 * j)) (ad (6 + 2 * j)) ((TT j).1) ((TT j).2.1) ((TT j).2.2.1) ((TT j).2.2.2.1) ((TT j).2.2.2.2.1) ((TT j).2.2.2.2.2.1) ((TT j).2.2.2.2.2.2.1) ((TT j).2.2.2.2.2.2.2.1) ((TT j).2.2.2.2.2.2.2.2.1) ((TT j).2.2.2.2.2.2.2.2.2) (ad 2) (ad 3) (ad 4) G.1 G.2.1 G.2.2.1 G.2.2.2.1 G.2.2.2.2 (f_g_reach G.2.1 G.2.2.1 ch)) (hP.sub [0, 1, 4, 5, 6] rfl) hP rfl rfl rfl kc_t_weightWithin km_x_100 ki_t ks_t_weightWithin ke_t_weightWithin rfl ok_t_weightWithin ⟨Nat.le_of_ble_eq_true rfl, Nat.le_of_ble_eq_true rfl⟩ ⟨Nat.zero_le _, Nat.zero_le _⟩ hl.1 rfl (Nat.le_of_ble_eq_true rfl) d_x_part_23 ?_
    exact ro_lret FX (by rw [f_x_part, om_some hq1]) d_x_part_26
theorem d_x_total_0 : decode b_x_total 0 = .ok (.aload_n 0, 1) := by decide +kernel
theorem d_x_total_1 : decode b_x_total 1 = .ok (.iload_n 1, 1) := by decide +kernel
theorem d_x_total_2 : decode b_x_total 2 = .ok (.invokevirtual 76, 3) := by decide +kernel
theorem d_x_total_5 : decode b_x_total 5 = .ok (.astore_n 2, 1) := by decide +kernel
theorem d_x_total_6 : decode b_x_total 6 = .ok (.aload_n 2, 1) := by decide +kernel
theorem d_x_total_7 : decode b_x_total 7 = .ok (.ifnonnull 7, 3) := by decide +kernel
theorem d_x_total_10 : decode b_x_total 10 = .ok (.lconst 0, 1) := by decide +kernel
theorem d_x_total_11 : decode b_x_total 11 = .ok (.goto 7, 3) := by decide +kernel
theorem d_x_total_14 : decode b_x_total 14 = .ok (.aload_n 2, 1) := by decide +kernel
theorem d_x_total_15 : decode b_x_total 15 = .ok (.invokevirtual 104, 3) := by decide +kernel
theorem d_x_total_18 : decode b_x_total 18 = .ok (.lreturn, 1) := by decide +kernel
def f_x_total (nt : Nat) (TT : Nat → TS) (ta : Int32) : Int64 := om (f_x_searchAt nt TT ta)
    (0)
    (fun j => f_t_weightOfAll ((TT j).2.2.2.2.2.2.2.2.2))
set_option maxHeartbeats 4000000 in
set_option maxRecDepth 100000 in
theorem c_x_total (l : Launch) (D : va_G) (cA : Nat → ClassId) (ad : Nat → Nat) (nt : Nat) (G : GS) (TT : Nat → TS) (ta : Int32) (hnt : nt ≤ 4) (S : Nat) (hS40 : S ≤ 40) (hsz : G.2.2.1 = nI S) : Met l y_x_total (.code y_x_total b_x_total 3 (some .long) :: tb) (rmd 2) (Pro D cA [.ref (ad 0), .int ta] (WX D cA ad nt G TT)) (Qro (.long (f_x_total nt TT ta))) 0 0 nof := by
  refine ro_in (by decide) (Nat.le_of_ble_eq_true rfl) (fun p e s m below meth c ls FX hnm hK hW hl => ?_)
  have hl : lv_has ls 3 [(0, .ref (ad 0)), (1, .int ta)] := hl
  have hP : va_P D classes [(ad 0, .inr (0, [.ref (ad 2), .ref (ad 1), .int (nI nt)])), (ad 1, .inl (cA 1, 4, .inr (.inr (.inr (.inr (tvf ad nt)))))), (ad 2, .inr (1, [.ref (ad 3), .ref (ad 4), .int G.2.2.1, .long G.2.2.2.1, .long G.2.2.2.2])), (ad 3, .inl (cA 0, 40, .inr (.inl G.1))), (ad 4, .inl (cA 0, 40, .inr (.inl G.2.1)))] s.heap := hW.1
  generalize ([.ref (ad 0), .int ta] : List Value).toArray = args at FX ⊢
  obtain ⟨hx, hb, hml, hown, hts, hr, hlk⟩ := id FX
  refine lv_aload_n hx hb d_x_total_0 rfl (lv_at hl 0 rfl) ?_
  refine lv_iload_n hx hb d_x_total_1 rfl (lv_at hl 1 rfl) ?_
  refine ro_V (v := va_rf ((f_x_searchAt nt TT ta).map (fun j => ad (5 + 2 * j)))) (As := [.int ta]) (rest := []) (q0 := 0) FX hK (c_x_searchAt l D cA ad nt G TT ta hnt S hS40 hsz) hW hP rfl rfl rfl kc_x_searchAt km_x_76 ki_x ks_x_searchAt ke_x_searchAt rfl ok_x_searchAt ⟨Nat.le_of_ble_eq_true rfl, Nat.le_of_ble_eq_true rfl⟩ ⟨Nat.zero_le _, Nat.zero_le _⟩ hl.1 rfl (Nat.le_of_ble_eq_true rfl) d_x_total_2 ?_
  cases hq1 : (f_x_searchAt nt TT ta) with
  | none =>
    refine W.eq (g2 := F0 m 5 ls [.null]) rfl ?_
    refine lv_astore_nN (lv' := [(2, .null), (0, .ref (ad 0)), (1, .int ta)]) hx hb d_x_total_5 rfl hl (by decide) rfl (fun ls hl => ?_)
    refine lv_aload_nN hx hb d_x_total_6 rfl (lv_at hl 0 rfl) ?_
    refine lv_ifnonnullN hx hb d_x_total_7 ?_
    refine lv_lconst (v := 0) hx hb d_x_total_10 (by decide) ?_
    refine lv_goto (tgt := 18) hx hb d_x_total_11 (by decide) ?_
    exact ro_lret FX (by rw [f_x_total, om_none hq1]) d_x_total_18
  | some j =>
    have hj : j < nt := sa_lt hnt hq1
    have hP : va_P D classes [(ad (5 + 2 * j), .inr (2, [.ref (ad 2), .ref (ad (6 + 2 * j)), .long ((TT j).1), .long ((TT j).2.1), .int (bz (TT j).2.2.1), .int ((TT j).2.2.2.1), .int ((TT j).2.2.2.2.1), .int ((TT j).2.2.2.2.2.1), .int ((TT j).2.2.2.2.2.2.1), .int ((TT j).2.2.2.2.2.2.2.1), .int ((TT j).2.2.2.2.2.2.2.2.1)])), (ad (6 + 2 * j), .inl (cA 0, 40, .inr (.inl ((TT j).2.2.2.2.2.2.2.2.2)))), (ad 0, .inr (0, [.ref (ad 2), .ref (ad 1), .int (nI nt)])), (ad 1, .inl (cA 1, 4, .inr (.inr (.inr (.inr (tvf ad nt)))))), (ad 2, .inr (1, [.ref (ad 3), .ref (ad 4), .int G.2.2.1, .long G.2.2.2.1, .long G.2.2.2.2])), (ad 3, .inl (cA 0, 40, .inr (.inl G.1))), (ad 4, .inl (cA 0, 40, .inr (.inl G.2.1)))] s.heap := (hW.2 j hj).app hP
    refine W.eq (g2 := F0 m 5 ls [.ref (ad (5 + 2 * j))]) rfl ?_
    refine lv_astore_n (lv' := [(2, .ref (ad (5 + 2 * j))), (0, .ref (ad 0)), (1, .int ta)]) hx hb d_x_total_5 rfl hl (by decide) rfl (fun ls hl => ?_)
    refine lv_aload_n hx hb d_x_total_6 rfl (lv_at hl 0 rfl) ?_
    refine lv_ifnonnull (tgt := 14) hx hb d_x_total_7 (by decide) ?_
    refine lv_aload_n hx hb d_x_total_14 rfl (lv_at hl 0 rfl) ?_
    refine ro_V (v := .long (f_t_weightOfAll ((TT j).2.2.2.2.2.2.2.2.2))) (As := []) (rest := []) (q0 := 0) FX hK (c_t_weightOfAll l D cA (ad (5 + 2 * j)) (ad (6 + 2 * j)) ((TT j).1) ((TT j).2.1) ((TT j).2.2.1) ((TT j).2.2.2.1) ((TT j).2.2.2.2.1) ((TT j).2.2.2.2.2.1) ((TT j).2.2.2.2.2.2.1) ((TT j).2.2.2.2.2.2.2.1) ((TT j).2.2.2.2.2.2.2.2.1) ((TT j).2.2.2.2.2.2.2.2.2) (ad 2) (ad 3) (ad 4) G.1 G.2.1 G.2.2.1 G.2.2.2.1 G.2.2.2.2) (hP.sub [0, 1, 4, 5, 6] rfl) hP rfl rfl rfl kc_t_weightOfAll km_x_104 ki_t ks_t_weightOfAll ke_t_weightOfAll rfl ok_t_weightOfAll ⟨Nat.le_of_ble_eq_true rfl, Nat.le_of_ble_eq_true rfl⟩ ⟨Nat.zero_le _, Nat.zero_le _⟩ hl.1 rfl (Nat.le_of_ble_eq_true rfl) d_x_total_15 ?_
    exact ro_lret FX (by rw [f_x_total, om_some hq1]) d_x_total_18
theorem d_x_found_0 : decode b_x_found 0 = .ok (.aload_n 0, 1) := by decide +kernel
theorem d_x_found_1 : decode b_x_found 1 = .ok (.iload_n 1, 1) := by decide +kernel
theorem d_x_found_2 : decode b_x_found 2 = .ok (.invokevirtual 76, 3) := by decide +kernel
theorem d_x_found_5 : decode b_x_found 5 = .ok (.astore_n 2, 1) := by decide +kernel
theorem d_x_found_6 : decode b_x_found 6 = .ok (.aload_n 2, 1) := by decide +kernel
theorem d_x_found_7 : decode b_x_found 7 = .ok (.ifnonnull 7, 3) := by decide +kernel
theorem d_x_found_10 : decode b_x_found 10 = .ok (.iconst (-1), 1) := by decide +kernel
theorem d_x_found_11 : decode b_x_found 11 = .ok (.goto 7, 3) := by decide +kernel
theorem d_x_found_14 : decode b_x_found 14 = .ok (.aload_n 2, 1) := by decide +kernel
theorem d_x_found_15 : decode b_x_found 15 = .ok (.invokevirtual 108, 3) := by decide +kernel
theorem d_x_found_18 : decode b_x_found 18 = .ok (.ireturn, 1) := by decide +kernel
def f_x_found (nt : Nat) (TT : Nat → TS) (ta : Int32) : Int32 := om (f_x_searchAt nt TT ta)
    ((-1))
    (fun j => f_t_culprit ((TT j).2.2.2.2.2.2.1) ((TT j).2.2.2.2.2.2.2.2.2))
set_option maxHeartbeats 4000000 in
set_option maxRecDepth 100000 in
theorem c_x_found (l : Launch) (D : va_G) (cA : Nat → ClassId) (ad : Nat → Nat) (nt : Nat) (G : GS) (TT : Nat → TS) (ta : Int32) (hnt : nt ≤ 4) (S : Nat) (hS40 : S ≤ 40) (hsz : G.2.2.1 = nI S) : Met l y_x_found (.code y_x_found b_x_found 3 (some .int) :: tb) (rmd 2) (Pro D cA [.ref (ad 0), .int ta] (WX D cA ad nt G TT)) (Qro (.int (f_x_found nt TT ta))) 0 0 nof := by
  refine ro_in (by decide) (Nat.le_of_ble_eq_true rfl) (fun p e s m below meth c ls FX hnm hK hW hl => ?_)
  have hl : lv_has ls 3 [(0, .ref (ad 0)), (1, .int ta)] := hl
  have hP : va_P D classes [(ad 0, .inr (0, [.ref (ad 2), .ref (ad 1), .int (nI nt)])), (ad 1, .inl (cA 1, 4, .inr (.inr (.inr (.inr (tvf ad nt)))))), (ad 2, .inr (1, [.ref (ad 3), .ref (ad 4), .int G.2.2.1, .long G.2.2.2.1, .long G.2.2.2.2])), (ad 3, .inl (cA 0, 40, .inr (.inl G.1))), (ad 4, .inl (cA 0, 40, .inr (.inl G.2.1)))] s.heap := hW.1
  generalize ([.ref (ad 0), .int ta] : List Value).toArray = args at FX ⊢
  obtain ⟨hx, hb, hml, hown, hts, hr, hlk⟩ := id FX
  refine lv_aload_n hx hb d_x_found_0 rfl (lv_at hl 0 rfl) ?_
  refine lv_iload_n hx hb d_x_found_1 rfl (lv_at hl 1 rfl) ?_
  refine ro_V (v := va_rf ((f_x_searchAt nt TT ta).map (fun j => ad (5 + 2 * j)))) (As := [.int ta]) (rest := []) (q0 := 0) FX hK (c_x_searchAt l D cA ad nt G TT ta hnt S hS40 hsz) hW hP rfl rfl rfl kc_x_searchAt km_x_76 ki_x ks_x_searchAt ke_x_searchAt rfl ok_x_searchAt ⟨Nat.le_of_ble_eq_true rfl, Nat.le_of_ble_eq_true rfl⟩ ⟨Nat.zero_le _, Nat.zero_le _⟩ hl.1 rfl (Nat.le_of_ble_eq_true rfl) d_x_found_2 ?_
  cases hq1 : (f_x_searchAt nt TT ta) with
  | none =>
    refine W.eq (g2 := F0 m 5 ls [.null]) rfl ?_
    refine lv_astore_nN (lv' := [(2, .null), (0, .ref (ad 0)), (1, .int ta)]) hx hb d_x_found_5 rfl hl (by decide) rfl (fun ls hl => ?_)
    refine lv_aload_nN hx hb d_x_found_6 rfl (lv_at hl 0 rfl) ?_
    refine lv_ifnonnullN hx hb d_x_found_7 ?_
    refine lv_iconst (v := (-1)) hx hb d_x_found_10 (by decide) ?_
    refine lv_goto (tgt := 18) hx hb d_x_found_11 (by decide) ?_
    exact ro_iret FX (by rw [f_x_found, om_none hq1]) d_x_found_18
  | some j =>
    have hj : j < nt := sa_lt hnt hq1
    have hP : va_P D classes [(ad (5 + 2 * j), .inr (2, [.ref (ad 2), .ref (ad (6 + 2 * j)), .long ((TT j).1), .long ((TT j).2.1), .int (bz (TT j).2.2.1), .int ((TT j).2.2.2.1), .int ((TT j).2.2.2.2.1), .int ((TT j).2.2.2.2.2.1), .int ((TT j).2.2.2.2.2.2.1), .int ((TT j).2.2.2.2.2.2.2.1), .int ((TT j).2.2.2.2.2.2.2.2.1)])), (ad (6 + 2 * j), .inl (cA 0, 40, .inr (.inl ((TT j).2.2.2.2.2.2.2.2.2)))), (ad 0, .inr (0, [.ref (ad 2), .ref (ad 1), .int (nI nt)])), (ad 1, .inl (cA 1, 4, .inr (.inr (.inr (.inr (tvf ad nt)))))), (ad 2, .inr (1, [.ref (ad 3), .ref (ad 4), .int G.2.2.1, .long G.2.2.2.1, .long G.2.2.2.2])), (ad 3, .inl (cA 0, 40, .inr (.inl G.1))), (ad 4, .inl (cA 0, 40, .inr (.inl G.2.1)))] s.heap := (hW.2 j hj).app hP
    refine W.eq (g2 := F0 m 5 ls [.ref (ad (5 + 2 * j))]) rfl ?_
    refine lv_astore_n (lv' := [(2, .ref (ad (5 + 2 * j))), (0, .ref (ad 0)), (1, .int ta)]) hx hb d_x_found_5 rfl hl (by decide) rfl (fun ls hl => ?_)
    refine lv_aload_n hx hb d_x_found_6 rfl (lv_at hl 0 rfl) ?_
    refine lv_ifnonnull (tgt := 14) hx hb d_x_found_7 (by decide) ?_
    refine lv_aload_n hx hb d_x_found_14 rfl (lv_at hl 0 rfl) ?_
    refine ro_V (v := .int (f_t_culprit ((TT j).2.2.2.2.2.2.1) ((TT j).2.2.2.2.2.2.2.2.2))) (As := []) (rest := []) (q0 := 0) FX hK (c_t_culprit l D cA (ad (5 + 2 * j)) (ad (6 + 2 * j)) ((TT j).1) ((TT j).2.1) ((TT j).2.2.1) ((TT j).2.2.2.1) ((TT j).2.2.2.2.1) ((TT j).2.2.2.2.2.1) ((TT j).2.2.2.2.2.2.1) ((TT j).2.2.2.2.2.2.2.1) ((TT j).2.2.2.2.2.2.2.2.1) ((TT j).2.2.2.2.2.2.2.2.2) (ad 2) (ad 3) (ad 4) G.1 G.2.1 G.2.2.1 G.2.2.2.1 G.2.2.2.2) (hP.sub [0, 1, 4, 5, 6] rfl) hP rfl rfl rfl kc_t_culprit km_x_108 ki_t ks_t_culprit ke_t_culprit rfl ok_t_culprit ⟨Nat.le_of_ble_eq_true rfl, Nat.le_of_ble_eq_true rfl⟩ ⟨Nat.zero_le _, Nat.zero_le _⟩ hl.1 rfl (Nat.le_of_ble_eq_true rfl) d_x_found_15 ?_
    exact ro_iret FX (by rw [f_x_found, om_some hq1]) d_x_found_18
theorem d_x_told_0 : decode b_x_told 0 = .ok (.aload_n 0, 1) := by decide +kernel
theorem d_x_told_1 : decode b_x_told 1 = .ok (.iload_n 1, 1) := by decide +kernel
theorem d_x_told_2 : decode b_x_told 2 = .ok (.invokevirtual 76, 3) := by decide +kernel
theorem d_x_told_5 : decode b_x_told 5 = .ok (.astore_n 3, 1) := by decide +kernel
theorem d_x_told_6 : decode b_x_told 6 = .ok (.aload_n 3, 1) := by decide +kernel
theorem d_x_told_7 : decode b_x_told 7 = .ok (.ifnonnull 7, 3) := by decide +kernel
theorem d_x_told_10 : decode b_x_told 10 = .ok (.iconst (-1), 1) := by decide +kernel
theorem d_x_told_11 : decode b_x_told 11 = .ok (.goto 8, 3) := by decide +kernel
theorem d_x_told_14 : decode b_x_told 14 = .ok (.aload_n 3, 1) := by decide +kernel
theorem d_x_told_15 : decode b_x_told 15 = .ok (.iload_n 2, 1) := by decide +kernel
theorem d_x_told_16 : decode b_x_told 16 = .ok (.invokevirtual 111, 3) := by decide +kernel
theorem d_x_told_19 : decode b_x_told 19 = .ok (.ireturn, 1) := by decide +kernel
def f_x_told (nt : Nat) (TT : Nat → TS) (ta : Int32) (kk : Int32) : Int32 := om (f_x_searchAt nt TT ta)
    ((-1))
    (fun j => f_t_ranked ((TT j).2.2.2.2.2.2.2.2.2) kk)
set_option maxHeartbeats 4000000 in
set_option maxRecDepth 100000 in
theorem c_x_told (l : Launch) (D : va_G) (cA : Nat → ClassId) (ad : Nat → Nat) (nt : Nat) (G : GS) (TT : Nat → TS) (ta : Int32) (kk : Int32) (hnt : nt ≤ 4) (S : Nat) (hS40 : S ≤ 40) (hsz : G.2.2.1 = nI S) : Met l y_x_told (.code y_x_told b_x_told 4 (some .int) :: tb) (rmd 3) (Pro D cA [.ref (ad 0), .int ta, .int kk] (WX D cA ad nt G TT)) (Qro (.int (f_x_told nt TT ta kk))) 0 0 nof := by
  refine ro_in (by decide) (Nat.le_of_ble_eq_true rfl) (fun p e s m below meth c ls FX hnm hK hW hl => ?_)
  have hl : lv_has ls 4 [(0, .ref (ad 0)), (1, .int ta), (2, .int kk)] := hl
  have hP : va_P D classes [(ad 0, .inr (0, [.ref (ad 2), .ref (ad 1), .int (nI nt)])), (ad 1, .inl (cA 1, 4, .inr (.inr (.inr (.inr (tvf ad nt)))))), (ad 2, .inr (1, [.ref (ad 3), .ref (ad 4), .int G.2.2.1, .long G.2.2.2.1, .long G.2.2.2.2])), (ad 3, .inl (cA 0, 40, .inr (.inl G.1))), (ad 4, .inl (cA 0, 40, .inr (.inl G.2.1)))] s.heap := hW.1
  generalize ([.ref (ad 0), .int ta, .int kk] : List Value).toArray = args at FX ⊢
  obtain ⟨hx, hb, hml, hown, hts, hr, hlk⟩ := id FX
  refine lv_aload_n hx hb d_x_told_0 rfl (lv_at hl 0 rfl) ?_
  refine lv_iload_n hx hb d_x_told_1 rfl (lv_at hl 1 rfl) ?_
  refine ro_V (v := va_rf ((f_x_searchAt nt TT ta).map (fun j => ad (5 + 2 * j)))) (As := [.int ta]) (rest := []) (q0 := 0) FX hK (c_x_searchAt l D cA ad nt G TT ta hnt S hS40 hsz) hW hP rfl rfl rfl kc_x_searchAt km_x_76 ki_x ks_x_searchAt ke_x_searchAt rfl ok_x_searchAt ⟨Nat.le_of_ble_eq_true rfl, Nat.le_of_ble_eq_true rfl⟩ ⟨Nat.zero_le _, Nat.zero_le _⟩ hl.1 rfl (Nat.le_of_ble_eq_true rfl) d_x_told_2 ?_
  cases hq1 : (f_x_searchAt nt TT ta) with
  | none =>
    refine W.eq (g2 := F0 m 5 ls [.null]) rfl ?_
    refine lv_astore_nN (lv' := [(3, .null), (0, .ref (ad 0)), (1, .int ta), (2, .int kk)]) hx hb d_x_told_5 rfl hl (by decide) rfl (fun ls hl => ?_)
    refine lv_aload_nN hx hb d_x_told_6 rfl (lv_at hl 0 rfl) ?_
    refine lv_ifnonnullN hx hb d_x_told_7 ?_
    refine lv_iconst (v := (-1)) hx hb d_x_told_10 (by decide) ?_
    refine lv_goto (tgt := 19) hx hb d_x_told_11 (by decide) ?_
    exact ro_iret FX (by rw [f_x_told, om_none hq1]) d_x_told_19
  | some j =>
    have hj : j < nt := sa_lt hnt hq1
    have hP : va_P D classes [(ad (5 + 2 * j), .inr (2, [.ref (ad 2), .ref (ad (6 + 2 * j)), .long ((TT j).1), .long ((TT j).2.1), .int (bz (TT j).2.2.1), .int ((TT j).2.2.2.1), .int ((TT j).2.2.2.2.1), .int ((TT j).2.2.2.2.2.1), .int ((TT j).2.2.2.2.2.2.1), .int ((TT j).2.2.2.2.2.2.2.1), .int ((TT j).2.2.2.2.2.2.2.2.1)])), (ad (6 + 2 * j), .inl (cA 0, 40, .inr (.inl ((TT j).2.2.2.2.2.2.2.2.2)))), (ad 0, .inr (0, [.ref (ad 2), .ref (ad 1), .int (nI nt)])), (ad 1, .inl (cA 1, 4, .inr (.inr (.inr (.inr (tvf ad nt)))))), (ad 2, .inr (1, [.ref (ad 3), .ref (ad 4), .int G.2.2.1, .long G.2.2.2.1, .long G.2.2.2.2])), (ad 3, .inl (cA 0, 40, .inr (.inl G.1))), (ad 4, .inl (cA 0, 40, .inr (.inl G.2.1)))] s.heap := (hW.2 j hj).app hP
    refine W.eq (g2 := F0 m 5 ls [.ref (ad (5 + 2 * j))]) rfl ?_
    refine lv_astore_n (lv' := [(3, .ref (ad (5 + 2 * j))), (0, .ref (ad 0)), (1, .int ta), (2, .int kk)]) hx hb d_x_told_5 rfl hl (by decide) rfl (fun ls hl => ?_)
    refine lv_aload_n hx hb d_x_told_6 rfl (lv_at hl 0 rfl) ?_
    refine lv_ifnonnull (tgt := 14) hx hb d_x_told_7 (by decide) ?_
    refine lv_aload_n hx hb d_x_told_14 rfl (lv_at hl 0 rfl) ?_
    refine lv_iload_n hx hb d_x_told_15 rfl (lv_at hl 3 rfl) ?_
    refine ro_V (v := .int (f_t_ranked ((TT j).2.2.2.2.2.2.2.2.2) kk)) (As := [.int kk]) (rest := []) (q0 := 0) FX hK (c_t_ranked l D cA (ad (5 + 2 * j)) (ad (6 + 2 * j)) ((TT j).1) ((TT j).2.1) ((TT j).2.2.1) ((TT j).2.2.2.1) ((TT j).2.2.2.2.1) ((TT j).2.2.2.2.2.1) ((TT j).2.2.2.2.2.2.1) ((TT j).2.2.2.2.2.2.2.1) ((TT j).2.2.2.2.2.2.2.2.1) ((TT j).2.2.2.2.2.2.2.2.2) (ad 2) (ad 3) (ad 4) G.1 G.2.1 G.2.2.1 G.2.2.2.1 G.2.2.2.2 kk) (hP.sub [0, 1, 4, 5, 6] rfl) hP rfl rfl rfl kc_t_ranked km_x_111 ki_t ks_t_ranked ke_t_ranked rfl ok_t_ranked ⟨Nat.le_of_ble_eq_true rfl, Nat.le_of_ble_eq_true rfl⟩ ⟨Nat.zero_le _, Nat.zero_le _⟩ hl.1 rfl (Nat.le_of_ble_eq_true rfl) d_x_told_16 ?_
    exact ro_iret FX (by rw [f_x_told, om_some hq1]) d_x_told_19
theorem d_x_way_0 : decode b_x_way 0 = .ok (.aload_n 0, 1) := by decide +kernel
theorem d_x_way_1 : decode b_x_way 1 = .ok (.iload_n 1, 1) := by decide +kernel
theorem d_x_way_2 : decode b_x_way 2 = .ok (.invokevirtual 76, 3) := by decide +kernel
theorem d_x_way_5 : decode b_x_way 5 = .ok (.astore_n 3, 1) := by decide +kernel
theorem d_x_way_6 : decode b_x_way 6 = .ok (.aload_n 3, 1) := by decide +kernel
theorem d_x_way_7 : decode b_x_way 7 = .ok (.ifnonnull 7, 3) := by decide +kernel
theorem d_x_way_10 : decode b_x_way 10 = .ok (.iconst (-1), 1) := by decide +kernel
theorem d_x_way_11 : decode b_x_way 11 = .ok (.goto 8, 3) := by decide +kernel
theorem d_x_way_14 : decode b_x_way 14 = .ok (.aload_n 3, 1) := by decide +kernel
theorem d_x_way_15 : decode b_x_way 15 = .ok (.iload_n 2, 1) := by decide +kernel
theorem d_x_way_16 : decode b_x_way 16 = .ok (.invokevirtual 115, 3) := by decide +kernel
theorem d_x_way_19 : decode b_x_way 19 = .ok (.ireturn, 1) := by decide +kernel
def f_x_way (nt : Nat) (G : GS) (TT : Nat → TS) (ta : Int32) (kk : Int32) : Int32 := om (f_x_searchAt nt TT ta)
    ((-1))
    (fun j => f_t_onWay ((TT j).2.2.2.1) ((TT j).2.2.2.2.2.2.1) ((TT j).2.2.2.2.2.2.2.2.2) G.1 G.2.1 G.2.2.1 kk)
set_option maxHeartbeats 4000000 in
set_option maxRecDepth 100000 in
theorem c_x_way (l : Launch) (D : va_G) (cA : Nat → ClassId) (ad : Nat → Nat) (nt : Nat) (G : GS) (TT : Nat → TS) (ta : Int32) (kk : Int32) (hnt : nt ≤ 4) (S : Nat) (hS40 : S ≤ 40) (hsz : G.2.2.1 = nI S) : Met l y_x_way (.code y_x_way b_x_way 4 (some .int) :: tb) (rmd 4) (Pro D cA [.ref (ad 0), .int ta, .int kk] (WX D cA ad nt G TT)) (Qro (.int (f_x_way nt G TT ta kk))) 0 0 nof := by
  refine ro_in (by decide) (Nat.le_of_ble_eq_true rfl) (fun p e s m below meth c ls FX hnm hK hW hl => ?_)
  have hl : lv_has ls 4 [(0, .ref (ad 0)), (1, .int ta), (2, .int kk)] := hl
  have hP : va_P D classes [(ad 0, .inr (0, [.ref (ad 2), .ref (ad 1), .int (nI nt)])), (ad 1, .inl (cA 1, 4, .inr (.inr (.inr (.inr (tvf ad nt)))))), (ad 2, .inr (1, [.ref (ad 3), .ref (ad 4), .int G.2.2.1, .long G.2.2.2.1, .long G.2.2.2.2])), (ad 3, .inl (cA 0, 40, .inr (.inl G.1))), (ad 4, .inl (cA 0, 40, .inr (.inl G.2.1)))] s.heap := hW.1
  generalize ([.ref (ad 0), .int ta, .int kk] : List Value).toArray = args at FX ⊢
  obtain ⟨hx, hb, hml, hown, hts, hr, hlk⟩ := id FX
  refine lv_aload_n hx hb d_x_way_0 rfl (lv_at hl 0 rfl) ?_
  refine lv_iload_n hx hb d_x_way_1 rfl (lv_at hl 1 rfl) ?_
  refine ro_V (v := va_rf ((f_x_searchAt nt TT ta).map (fun j => ad (5 + 2 * j)))) (As := [.int ta]) (rest := []) (q0 := 0) FX hK (c_x_searchAt l D cA ad nt G TT ta hnt S hS40 hsz) hW hP rfl rfl rfl kc_x_searchAt km_x_76 ki_x ks_x_searchAt ke_x_searchAt rfl ok_x_searchAt ⟨Nat.le_of_ble_eq_true rfl, Nat.le_of_ble_eq_true rfl⟩ ⟨Nat.zero_le _, Nat.zero_le _⟩ hl.1 rfl (Nat.le_of_ble_eq_true rfl) d_x_way_2 ?_
  cases hq1 : (f_x_searchAt nt TT ta) with
  | none =>
    refine W.eq (g2 := F0 m 5 ls [.null]) rfl ?_
    refine lv_astore_nN (lv' := [(3, .null), (0, .ref (ad 0)), (1, .int ta), (2, .int kk)]) hx hb d_x_way_5 rfl hl (by decide) rfl (fun ls hl => ?_)
    refine lv_aload_nN hx hb d_x_way_6 rfl (lv_at hl 0 rfl) ?_
    refine lv_ifnonnullN hx hb d_x_way_7 ?_
    refine lv_iconst (v := (-1)) hx hb d_x_way_10 (by decide) ?_
    refine lv_goto (tgt := 19) hx hb d_x_way_11 (by decide) ?_
    exact ro_iret FX (by rw [f_x_way, om_none hq1]) d_x_way_19
  | some j =>
    have hj : j < nt := sa_lt hnt hq1
    have hP : va_P D classes [(ad (5 + 2 * j), .inr (2, [.ref (ad 2), .ref (ad (6 + 2 * j)), .long ((TT j).1), .long ((TT j).2.1), .int (bz (TT j).2.2.1), .int ((TT j).2.2.2.1), .int ((TT j).2.2.2.2.1), .int ((TT j).2.2.2.2.2.1), .int ((TT j).2.2.2.2.2.2.1), .int ((TT j).2.2.2.2.2.2.2.1), .int ((TT j).2.2.2.2.2.2.2.2.1)])), (ad (6 + 2 * j), .inl (cA 0, 40, .inr (.inl ((TT j).2.2.2.2.2.2.2.2.2)))), (ad 0, .inr (0, [.ref (ad 2), .ref (ad 1), .int (nI nt)])), (ad 1, .inl (cA 1, 4, .inr (.inr (.inr (.inr (tvf ad nt)))))), (ad 2, .inr (1, [.ref (ad 3), .ref (ad 4), .int G.2.2.1, .long G.2.2.2.1, .long G.2.2.2.2])), (ad 3, .inl (cA 0, 40, .inr (.inl G.1))), (ad 4, .inl (cA 0, 40, .inr (.inl G.2.1)))] s.heap := (hW.2 j hj).app hP
    refine W.eq (g2 := F0 m 5 ls [.ref (ad (5 + 2 * j))]) rfl ?_
    refine lv_astore_n (lv' := [(3, .ref (ad (5 + 2 * j))), (0, .ref (ad 0)), (1, .int ta), (2, .int kk)]) hx hb d_x_way_5 rfl hl (by decide) rfl (fun ls hl => ?_)
    refine lv_aload_n hx hb d_x_way_6 rfl (lv_at hl 0 rfl) ?_
    refine lv_ifnonnull (tgt := 14) hx hb d_x_way_7 (by decide) ?_
    refine lv_aload_n hx hb d_x_way_14 rfl (lv_at hl 0 rfl) ?_
    refine lv_iload_n hx hb d_x_way_15 rfl (lv_at hl 3 rfl) ?_
    refine ro_V (v := .int (f_t_onWay ((TT j).2.2.2.1) ((TT j).2.2.2.2.2.2.1) ((TT j).2.2.2.2.2.2.2.2.2) G.1 G.2.1 G.2.2.1 kk)) (As := [.int kk]) (rest := []) (q0 := 0) FX hK (c_t_onWay l D cA (ad (5 + 2 * j)) (ad (6 + 2 * j)) ((TT j).1) ((TT j).2.1) ((TT j).2.2.1) ((TT j).2.2.2.1) ((TT j).2.2.2.2.1) ((TT j).2.2.2.2.2.1) ((TT j).2.2.2.2.2.2.1) ((TT j).2.2.2.2.2.2.2.1) ((TT j).2.2.2.2.2.2.2.2.1) ((TT j).2.2.2.2.2.2.2.2.2) (ad 2) (ad 3) (ad 4) G.1 G.2.1 G.2.2.1 G.2.2.2.1 G.2.2.2.2 kk) (hP.sub [0, 1, 4, 5, 6] rfl) hP rfl rfl rfl kc_t_onWay km_x_115 ki_t ks_t_onWay ke_t_onWay rfl ok_t_onWay ⟨Nat.le_of_ble_eq_true rfl, Nat.le_of_ble_eq_true rfl⟩ ⟨Nat.zero_le _, Nat.zero_le _⟩ hl.1 rfl (Nat.le_of_ble_eq_true rfl) d_x_way_16 ?_
    exact ro_iret FX (by rw [f_x_way, om_some hq1]) d_x_way_19
theorem d_x_counted_0 : decode b_x_counted 0 = .ok (.iload_n 2, 1) := by decide +kernel
theorem d_x_counted_1 : decode b_x_counted 1 = .ok (.iconst 2, 1) := by decide +kernel
theorem d_x_counted_2 : decode b_x_counted 2 = .ok (.if_icmp .ne 11, 3) := by decide +kernel
theorem d_x_counted_5 : decode b_x_counted 5 = .ok (.aload_n 0, 1) := by decide +kernel
theorem d_x_counted_6 : decode b_x_counted 6 = .ok (.getfield 10, 3) := by decide +kernel
theorem d_x_counted_9 : decode b_x_counted 9 = .ok (.invokevirtual 118, 3) := by decide +kernel
theorem d_x_counted_12 : decode b_x_counted 12 = .ok (.ireturn, 1) := by decide +kernel
theorem d_x_counted_13 : decode b_x_counted 13 = .ok (.aload_n 0, 1) := by decide +kernel
theorem d_x_counted_14 : decode b_x_counted 14 = .ok (.iload_n 1, 1) := by decide +kernel
theorem d_x_counted_15 : decode b_x_counted 15 = .ok (.invokevirtual 51, 3) := by decide +kernel
theorem d_x_counted_18 : decode b_x_counted 18 = .ok (.astore_n 3, 1) := by decide +kernel
theorem d_x_counted_19 : decode b_x_counted 19 = .ok (.aload_n 3, 1) := by decide +kernel
theorem d_x_counted_20 : decode b_x_counted 20 = .ok (.ifnonnull 5, 3) := by decide +kernel
theorem d_x_counted_23 : decode b_x_counted 23 = .ok (.iconst (-1), 1) := by decide +kernel
theorem d_x_counted_24 : decode b_x_counted 24 = .ok (.ireturn, 1) := by decide +kernel
theorem d_x_counted_25 : decode b_x_counted 25 = .ok (.iload_n 2, 1) := by decide +kernel
theorem d_x_counted_26 : decode b_x_counted 26 = .ok (.iconst 1, 1) := by decide +kernel
theorem d_x_counted_27 : decode b_x_counted 27 = .ok (.if_icmp .ne 8, 3) := by decide +kernel
theorem d_x_counted_30 : decode b_x_counted 30 = .ok (.aload_n 3, 1) := by decide +kernel
theorem d_x_counted_31 : decode b_x_counted 31 = .ok (.getfield 121, 3) := by decide +kernel
theorem d_x_counted_34 : decode b_x_counted 34 = .ok (.ireturn, 1) := by decide +kernel
theorem d_x_counted_35 : decode b_x_counted 35 = .ok (.aload_n 3, 1) := by decide +kernel
theorem d_x_counted_36 : decode b_x_counted 36 = .ok (.invokevirtual 55, 3) := by decide +kernel
theorem d_x_counted_39 : decode b_x_counted 39 = .ok (.ifCond .ne 5, 3) := by decide +kernel
theorem d_x_counted_42 : decode b_x_counted 42 = .ok (.iconst (-1), 1) := by decide +kernel
theorem d_x_counted_43 : decode b_x_counted 43 = .ok (.ireturn, 1) := by decide +kernel
theorem d_x_counted_44 : decode b_x_counted 44 = .ok (.iload_n 2, 1) := by decide +kernel
theorem d_x_counted_45 : decode b_x_counted 45 = .ok (.ifCond .ne 8, 3) := by decide +kernel
theorem d_x_counted_48 : decode b_x_counted 48 = .ok (.aload_n 3, 1) := by decide +kernel
theorem d_x_counted_49 : decode b_x_counted 49 = .ok (.getfield 124, 3) := by decide +kernel
theorem d_x_counted_52 : decode b_x_counted 52 = .ok (.ireturn, 1) := by decide +kernel
theorem d_x_counted_53 : decode b_x_counted 53 = .ok (.iload_n 2, 1) := by decide +kernel
theorem d_x_counted_54 : decode b_x_counted 54 = .ok (.iconst 3, 1) := by decide +kernel
theorem d_x_counted_55 : decode b_x_counted 55 = .ok (.if_icmp .ne 10, 3) := by decide +kernel
theorem d_x_counted_58 : decode b_x_counted 58 = .ok (.aload_n 3, 1) := by decide +kernel
theorem d_x_counted_59 : decode b_x_counted 59 = .ok (.getfield 127, 3) := by decide +kernel
theorem d_x_counted_62 : decode b_x_counted 62 = .ok (.goto 4, 3) := by decide +kernel
theorem d_x_counted_65 : decode b_x_counted 65 = .ok (.iconst (-1), 1) := by decide +kernel
theorem d_x_counted_66 : decode b_x_counted 66 = .ok (.ireturn, 1) := by decide +kernel
def f_x_counted (nt : Nat) (G : GS) (TT : Nat → TS) (ta : Int32) (wh : Int32) : Int32 := if wh = 2 then
    (f_g_builtCount G.2.2.2.1)
  else
    (om (f_x_targetAt nt ta)
      ((-1))
      (fun j => if wh = 1 then
        ((TT j).2.2.2.2.2.2.2.2.1)
      else
        (if (f_t_isSearched ((TT j).2.2.1)) = true then
          (if wh = 0 then
            ((TT j).2.2.2.2.2.2.2.1)
          else
            (if wh = 3 then
              ((TT j).2.2.2.1)
            else
              ((-1))))
        else
          ((-1)))))
set_option maxHeartbeats 4000000 in
set_option maxRecDepth 100000 in
theorem c_x_counted (l : Launch) (D : va_G) (cA : Nat → ClassId) (ad : Nat → Nat) (nt : Nat) (G : GS) (TT : Nat → TS) (ta : Int32) (wh : Int32) (hnt : nt ≤ 4) (S : Nat) (hS40 : S ≤ 40) (hsz : G.2.2.1 = nI S) : Met l y_x_counted (.code y_x_counted b_x_counted 4 (some .int) :: tb) (rmd 2) (Pro D cA [.ref (ad 0), .int ta, .int wh] (WX D cA ad nt G TT)) (Qro (.int (f_x_counted nt G TT ta wh))) 0 0 nof := by
  refine ro_in (by decide) (Nat.le_of_ble_eq_true rfl) (fun p e s m below meth c ls FX hnm hK hW hl => ?_)
  have hl : lv_has ls 4 [(0, .ref (ad 0)), (1, .int ta), (2, .int wh)] := hl
  have hP : va_P D classes [(ad 0, .inr (0, [.ref (ad 2), .ref (ad 1), .int (nI nt)])), (ad 1, .inl (cA 1, 4, .inr (.inr (.inr (.inr (tvf ad nt)))))), (ad 2, .inr (1, [.ref (ad 3), .ref (ad 4), .int G.2.2.1, .long G.2.2.2.1, .long G.2.2.2.2])), (ad 3, .inl (cA 0, 40, .inr (.inl G.1))), (ad 4, .inl (cA 0, 40, .inr (.inl G.2.1)))] s.heap := hW.1
  generalize ([.ref (ad 0), .int ta, .int wh] : List Value).toArray = args at FX ⊢
  obtain ⟨hx, hb, hml, hown, hts, hr, hlk⟩ := id FX
  refine lv_iload_n hx hb d_x_counted_0 rfl (lv_at hl 2 rfl) ?_
  refine lv_iconst (v := 2) hx hb d_x_counted_1 (by decide) ?_
  refine lv_icmp_ne (tgt := 13) hx hb d_x_counted_2 (by decide) (fun c1 => ?_) (fun c1 => ?_)
  · have c1 := c1
    refine lv_aload_n hx hb d_x_counted_13 rfl (lv_at hl 0 rfl) ?_
    refine lv_iload_n hx hb d_x_counted_14 rfl (lv_at hl 1 rfl) ?_
    refine ro_V (v := va_rf ((f_x_targetAt nt ta).map (fun j => ad (5 + 2 * j)))) (As := [.int ta]) (rest := []) (q0 := 0) FX hK (c_x_targetAt l D cA ad nt G TT ta hnt S hS40 hsz) hW hP rfl rfl rfl kc_x_targetAt km_x_51 ki_x ks_x_targetAt ke_x_targetAt rfl ok_x_targetAt ⟨Nat.le_of_ble_eq_true rfl, Nat.le_of_ble_eq_true rfl⟩ ⟨Nat.zero_le _, Nat.zero_le _⟩ hl.1 rfl (Nat.le_of_ble_eq_true rfl) d_x_counted_15 ?_
    cases hq2 : (f_x_targetAt nt ta) with
    | none =>
      refine W.eq (g2 := F0 m 18 ls [.null]) rfl ?_
      refine lv_astore_nN (lv' := [(3, .null), (0, .ref (ad 0)), (1, .int ta), (2, .int wh)]) hx hb d_x_counted_18 rfl hl (by decide) rfl (fun ls hl => ?_)
      refine lv_aload_nN hx hb d_x_counted_19 rfl (lv_at hl 0 rfl) ?_
      refine lv_ifnonnullN hx hb d_x_counted_20 ?_
      refine lv_iconst (v := (-1)) hx hb d_x_counted_23 (by decide) ?_
      exact ro_iret FX (by rw [f_x_counted, if_neg c1, om_none hq2]) d_x_counted_24
    | some j =>
      have hj : j < nt := ta_lt hnt hq2
      have hP : va_P D classes [(ad (5 + 2 * j), .inr (2, [.ref (ad 2), .ref (ad (6 + 2 * j)), .long ((TT j).1), .long ((TT j).2.1), .int (bz (TT j).2.2.1), .int ((TT j).2.2.2.1), .int ((TT j).2.2.2.2.1), .int ((TT j).2.2.2.2.2.1), .int ((TT j).2.2.2.2.2.2.1), .int ((TT j).2.2.2.2.2.2.2.1), .int ((TT j).2.2.2.2.2.2.2.2.1)])), (ad (6 + 2 * j), .inl (cA 0, 40, .inr (.inl ((TT j).2.2.2.2.2.2.2.2.2)))), (ad 0, .inr (0, [.ref (ad 2), .ref (ad 1), .int (nI nt)])), (ad 1, .inl (cA 1, 4, .inr (.inr (.inr (.inr (tvf ad nt)))))), (ad 2, .inr (1, [.ref (ad 3), .ref (ad 4), .int G.2.2.1, .long G.2.2.2.1, .long G.2.2.2.2])), (ad 3, .inl (cA 0, 40, .inr (.inl G.1))), (ad 4, .inl (cA 0, 40, .inr (.inl G.2.1)))] s.heap := (hW.2 j hj).app hP
      refine W.eq (g2 := F0 m 18 ls [.ref (ad (5 + 2 * j))]) rfl ?_
      refine lv_astore_n (lv' := [(3, .ref (ad (5 + 2 * j))), (0, .ref (ad 0)), (1, .int ta), (2, .int wh)]) hx hb d_x_counted_18 rfl hl (by decide) rfl (fun ls hl => ?_)
      refine lv_aload_n hx hb d_x_counted_19 rfl (lv_at hl 0 rfl) ?_
      refine lv_ifnonnull (tgt := 25) hx hb d_x_counted_20 (by decide) ?_
      refine lv_iload_n hx hb d_x_counted_25 rfl (lv_at hl 3 rfl) ?_
      refine lv_iconst (v := 1) hx hb d_x_counted_26 (by decide) ?_
      refine lv_icmp_ne (tgt := 35) hx hb d_x_counted_27 (by decide) (fun c3 => ?_) (fun c3 => ?_)
      · have c3 := c3
        refine lv_aload_n hx hb d_x_counted_35 rfl (lv_at hl 0 rfl) ?_
        refine ro_V (v := .int (bz (f_t_isSearched ((TT j).2.2.1)))) (As := []) (rest := []) (q0 := 0) FX hK (c_t_isSearched l D cA (ad (5 + 2 * j)) (ad (6 + 2 * j)) ((TT j).1) ((TT j).2.1) ((TT j).2.2.1) ((TT j).2.2.2.1) ((TT j).2.2.2.2.1) ((TT j).2.2.2.2.2.1) ((TT j).2.2.2.2.2.2.1) ((TT j).2.2.2.2.2.2.2.1) ((TT j).2.2.2.2.2.2.2.2.1) ((TT j).2.2.2.2.2.2.2.2.2) (ad 2) (ad 3) (ad 4) G.1 G.2.1 G.2.2.1 G.2.2.2.1 G.2.2.2.2) (hP.sub [0, 1, 4, 5, 6] rfl) hP rfl rfl rfl kc_t_isSearched km_x_55 ki_t ks_t_isSearched ke_t_isSearched rfl ok_t_isSearched ⟨Nat.le_of_ble_eq_true rfl, Nat.le_of_ble_eq_true rfl⟩ ⟨Nat.zero_le _, Nat.zero_le _⟩ hl.1 rfl (Nat.le_of_ble_eq_true rfl) d_x_counted_36 ?_
        refine lv_if_ne (tgt := 44) hx hb d_x_counted_39 (by decide) (fun c4 => ?_) (fun c4 => ?_)
        · have c4 := bz_t c4
          refine lv_iload_n hx hb d_x_counted_44 rfl (lv_at hl 3 rfl) ?_
          refine lv_if_ne (tgt := 53) hx hb d_x_counted_45 (by decide) (fun c5 => ?_) (fun c5 => ?_)
          · have c5 := c5
            refine lv_iload_n hx hb d_x_counted_53 rfl (lv_at hl 3 rfl) ?_
            refine lv_iconst (v := 3) hx hb d_x_counted_54 (by decide) ?_
            refine lv_icmp_ne (tgt := 65) hx hb d_x_counted_55 (by decide) (fun c6 => ?_) (fun c6 => ?_)
            · have c6 := c6
              refine lv_iconst (v := (-1)) hx hb d_x_counted_65 (by decide) ?_
              exact ro_iret FX (by rw [f_x_counted, if_neg c1, om_some hq2, if_neg c3, if_pos c4, if_neg c5, if_neg c6]) d_x_counted_66
            · have c6 := c6
              refine lv_aload_n hx hb d_x_counted_58 rfl (lv_at hl 0 rfl) ?_
              refine ro_getN (v := .int ((TT j).2.2.2.1)) FX hK hP 0 5 rfl rfl rfl i_t (by decide) kf_x_127 d_x_counted_59 ?_
              refine lv_goto (tgt := 66) hx hb d_x_counted_62 (by decide) ?_
              exact ro_iret FX (by rw [f_x_counted, if_neg c1, om_some hq2, if_neg c3, if_pos c4, if_neg c5, if_pos c6]) d_x_counted_66
          · have c5 := c5
            refine lv_aload_n hx hb d_x_counted_48 rfl (lv_at hl 0 rfl) ?_
            refine ro_getN (v := .int ((TT j).2.2.2.2.2.2.2.1)) FX hK hP 0 9 rfl rfl rfl i_t (by decide) kf_x_124 d_x_counted_49 ?_
            exact ro_iret FX (by rw [f_x_counted, if_neg c1, om_some hq2, if_neg c3, if_pos c4, if_pos c5]) d_x_counted_52
        · have c4 := bz_f c4
          refine lv_iconst (v := (-1)) hx hb d_x_counted_42 (by decide) ?_
          exact ro_iret FX (by rw [f_x_counted, if_neg c1, om_some hq2, if_neg c3, if_neg c4]) d_x_counted_43
      · have c3 := c3
        refine lv_aload_n hx hb d_x_counted_30 rfl (lv_at hl 0 rfl) ?_
        refine ro_getN (v := .int ((TT j).2.2.2.2.2.2.2.2.1)) FX hK hP 0 10 rfl rfl rfl i_t (by decide) kf_x_121 d_x_counted_31 ?_
        exact ro_iret FX (by rw [f_x_counted, if_neg c1, om_some hq2, if_pos c3]) d_x_counted_34
  · have c1 := c1
    refine lv_aload_n hx hb d_x_counted_5 rfl (lv_at hl 0 rfl) ?_
    refine ro_get (v := .ref (ad 2)) FX hK hP 0 0 rfl rfl rfl i_x (by decide) kf_x_10 d_x_counted_6 ?_
    refine ro_V (v := .int (f_g_builtCount G.2.2.2.1)) (As := []) (rest := []) (q0 := 2) FX hK (c_g_builtCount l D cA (ad 2) (ad 3) (ad 4) G.1 G.2.1 G.2.2.1 G.2.2.2.1 G.2.2.2.2) (hP.sub [2, 3, 4] rfl) hP rfl rfl rfl kc_g_builtCount km_x_118 ki_g ks_g_builtCount ke_g_builtCount rfl ok_g_builtCount ⟨Nat.le_of_ble_eq_true rfl, Nat.le_of_ble_eq_true rfl⟩ ⟨Nat.zero_le _, Nat.zero_le _⟩ hl.1 rfl (Nat.le_of_ble_eq_true rfl) d_x_counted_9 ?_
    exact ro_iret FX (by rw [f_x_counted, if_pos c1]) d_x_counted_12
