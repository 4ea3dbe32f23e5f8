theorem d_g_init_0 : decode b_g_init 0 = .ok (.aload_n 0, 1) := by decide +kernel
theorem d_g_init_1 : decode b_g_init 1 = .ok (.invokespecial 3, 3) := by decide +kernel
theorem d_g_init_4 : decode b_g_init 4 = .ok (.aload_n 0, 1) := by decide +kernel
theorem d_g_init_5 : decode b_g_init 5 = .ok (.bipush 40, 2) := by decide +kernel
theorem d_g_init_7 : decode b_g_init 7 = .ok (.newarray .long, 2) := by decide +kernel
theorem d_g_init_9 : decode b_g_init 9 = .ok (.putfield 9, 3) := by decide +kernel
theorem d_g_init_12 : decode b_g_init 12 = .ok (.aload_n 0, 1) := by decide +kernel
theorem d_g_init_13 : decode b_g_init 13 = .ok (.bipush 40, 2) := by decide +kernel
theorem d_g_init_15 : decode b_g_init 15 = .ok (.newarray .long, 2) := by decide +kernel
theorem d_g_init_17 : decode b_g_init 17 = .ok (.putfield 15, 3) := by decide +kernel
theorem d_g_init_20 : decode b_g_init 20 = .ok (.aload_n 0, 1) := by decide +kernel
theorem d_g_init_21 : decode b_g_init 21 = .ok (.iconst 0, 1) := by decide +kernel
theorem d_g_init_22 : decode b_g_init 22 = .ok (.putfield 18, 3) := by decide +kernel
theorem d_g_init_25 : decode b_g_init 25 = .ok (.aload_n 0, 1) := by decide +kernel
theorem d_g_init_26 : decode b_g_init 26 = .ok (.lconst 0, 1) := by decide +kernel
theorem d_g_init_27 : decode b_g_init 27 = .ok (.putfield 22, 3) := by decide +kernel
theorem d_g_init_30 : decode b_g_init 30 = .ok (.aload_n 0, 1) := by decide +kernel
theorem d_g_init_31 : decode b_g_init 31 = .ok (.lconst 0, 1) := by decide +kernel
theorem d_g_init_32 : decode b_g_init 32 = .ok (.putfield 26, 3) := by decide +kernel
theorem d_g_init_35 : decode b_g_init 35 = .ok (.return_, 1) := by decide +kernel
set_option maxHeartbeats 4000000 in
set_option maxRecDepth 100000 in
theorem c_g_init (l : Launch) (D : va_G) (cA : Nat → ClassId) (g : Nat) (sz : Nat) : Met l y_g_init (.code y_g_init b_g_init 1 none :: tb) (rma 1 2 80) (Pro D cA [.ref g] (fun H0 => H0.size = sz ∧ va_P D classes [(g, .inr (1, [.null, .null, .int 0, .long 0, .long 0]))] H0 ∧ va_D (fun _ => True) [(g, .inr (1, [.null, .null, .int 0, .long 0, .long 0]))])) (Qmu (va_A [(g, .inr (1, [.null, .null, .int 0, .long 0, .long 0]))] sz) (fun v0 H0 => v0 = none ∧ ∃ n0 n1 : Nat, va_P D classes [(g, .inr (1, [.ref n0, .ref n1, .int 0, .long 0, .long 0])), (n0, .inl (cA 0, 40, .inr (.inl (fun _ => 0)))), (n1, .inl (cA 0, 40, .inr (.inl (fun _ => 0))))] H0 ∧ va_D (va_A [(g, .inr (1, [.null, .null, .int 0, .long 0, .long 0]))] sz) [(g, .inr (1, [.ref n0, .ref n1, .int 0, .long 0, .long 0])), (n0, .inl (cA 0, 40, .inr (.inl (fun _ => 0)))), (n1, .inl (cA 0, 40, .inr (.inl (fun _ => 0))))])) 2 80 (va_A [(g, .inr (1, [.null, .null, .int 0, .long 0, .long 0]))] sz) := by
  refine ro_in (by decide) (Nat.le_of_ble_eq_true rfl) (fun p e s m below meth c ls FX hnm hK hP hl => ?_)
  have hl : lv_has ls 1 [(0, .ref g)] := hl
  obtain ⟨hsz, hP, hD0⟩ := hP
  subst hsz
  have hP : va_P D classes [(g, .inr (1, [.null, .null, .int 0, .long 0, .long 0]))] s.heap := hP
  have hD := hD0.self (sz := s.heap.size)
  generalize hAe : va_A [(g, .inr (1, [.null, .null, .int 0, .long 0, .long 0]))] s.heap.size = A at hD ⊢
  have hA : ∀ q : Nat, s.heap.size ≤ q → A q := fun q h => by rw [← hAe]; exact Or.inr h
  have hS : va_S A s.heap s.heap [] := va_S.rf
  generalize ([.ref g] : List Value).toArray = args at FX ⊢
  obtain ⟨hx, hb, hml, hown, hts, hr, hlk⟩ := id FX
  have hin : meth.name = "<init>" := hnm
  refine lv_aload_n hx hb d_g_init_0 rfl (lv_at hl 0 rfl) ?_
  refine W.objInit hx hb hown (hts _ km_g_3) (hts _ ks_objInit) (hts _ kc_objInit) rfl (by rw [hml]; exact hl.1) rfl d_g_init_1 (Nat.le_of_ble_eq_true rfl) (Nat.le_of_ble_eq_true rfl) ?_
  refine W.eq (g2 := F0 m 4 ls []) rfl ?_
  refine lv_aload_n hx hb d_g_init_4 rfl (lv_at hl 0 rfl) ?_
  refine lv_bipush (v := 40) hx hb d_g_init_5 (by decide) ?_
  refine va_newa (atype := .long) (ty := .long) (a0 := (40, .inr (.inl (fun _ => 0)))) hx hb (hts _ ka_long) rfl hK.1 hP hD hS hA (fun _ => rfl) (by decide) rfl (by decide) (Nat.le_of_ble_eq_true rfl) (Nat.le_of_ble_eq_true rfl) d_g_init_7 (fun q1 cL H hKK hP hD hS => ?_)
  obtain rfl := arr_same 0 rfl hK hKK (fun _ _ => ra_prim (fun _ h => by cases h))
  have hP : va_P D classes [(g, .inr (1, [.null, .null, .int 0, .long 0, .long 0])), (q1, .inl (cA 0, 40, .inr (.inl (fun _ => 0))))] H := hP
  have hD : va_D A [(g, .inr (1, [.null, .null, .int 0, .long 0, .long 0])), (q1, .inl (cA 0, 40, .inr (.inl (fun _ => 0))))] := hD
  refine va_putF (D := D) (v := .ref q1) (ty := (.array .long)) hx hb hts i_g t_g t_g_ok n_g hown hK.1 hP hD hS 0 rfl rfl 0 (by decide) (hts _ kf_g_9) (fun _ h9 => h9) rfl hin rfl (by decide +kernel) rfl rfl (Nat.le_of_ble_eq_true rfl) d_g_init_9 (fun H locs hP hD hS => ?_)
  have hP : va_P D classes [(g, .inr (1, [.ref q1, .null, .int 0, .long 0, .long 0])), (q1, .inl (cA 0, 40, .inr (.inl (fun _ => 0))))] H := hP
  have hD : va_D A [(g, .inr (1, [.ref q1, .null, .int 0, .long 0, .long 0])), (q1, .inl (cA 0, 40, .inr (.inl (fun _ => 0))))] := hD
  refine lv_aload_n hx hb d_g_init_12 rfl (lv_at hl 0 rfl) ?_
  refine lv_bipush (v := 40) hx hb d_g_init_13 (by decide) ?_
  refine va_newa (atype := .long) (ty := .long) (a0 := (40, .inr (.inl (fun _ => 0)))) hx hb (hts _ ka_long) rfl hK.1 hP hD hS hA (fun _ => rfl) (by decide) rfl (by decide) (Nat.le_of_ble_eq_true rfl) (Nat.le_of_ble_eq_true rfl) d_g_init_15 (fun q2 cL H hKK hP hD hS => ?_)
  obtain rfl := arr_same 0 rfl hK hKK (fun _ _ => ra_prim (fun _ h => by cases h))
  have hP : va_P D classes [(g, .inr (1, [.ref q1, .null, .int 0, .long 0, .long 0])), (q1, .inl (cA 0, 40, .inr (.inl (fun _ => 0)))), (q2, .inl (cA 0, 40, .inr (.inl (fun _ => 0))))] H := hP
  have hD : va_D A [(g, .inr (1, [.ref q1, .null, .int 0, .long 0, .long 0])), (q1, .inl (cA 0, 40, .inr (.inl (fun _ => 0)))), (q2, .inl (cA 0, 40, .inr (.inl (fun _ => 0))))] := hD
  refine va_putF (D := D) (v := .ref q2) (ty := (.array .long)) hx hb hts i_g t_g t_g_ok n_g hown hK.1 hP hD hS 0 rfl rfl 1 (by decide) (hts _ kf_g_15) (fun _ h9 => h9) rfl hin rfl (by decide +kernel) rfl rfl (Nat.le_of_ble_eq_true rfl) d_g_init_17 (fun H locs hP hD hS => ?_)
  have hP : va_P D classes [(g, .inr (1, [.ref q1, .ref q2, .int 0, .long 0, .long 0])), (q1, .inl (cA 0, 40, .inr (.inl (fun _ => 0)))), (q2, .inl (cA 0, 40, .inr (.inl (fun _ => 0))))] H := hP
  have hD : va_D A [(g, .inr (1, [.ref q1, .ref q2, .int 0, .long 0, .long 0])), (q1, .inl (cA 0, 40, .inr (.inl (fun _ => 0)))), (q2, .inl (cA 0, 40, .inr (.inl (fun _ => 0))))] := hD
  refine lv_aload_n hx hb d_g_init_20 rfl (lv_at hl 0 rfl) ?_
  refine lv_iconst (v := 0) hx hb d_g_init_21 (by decide) ?_
  refine va_put (D := D) (v := .int 0) (ty := .int) hx hb hts i_g t_g t_g_ok n_g hown hK.1 hP hD hS 0 rfl rfl 2 (by decide) (hts _ kf_g_18) (fun _ h9 => h9) rfl (by decide +kernel) rfl rfl (Nat.le_of_ble_eq_true rfl) d_g_init_22 (fun H locs hP hD hS => ?_)
  have hP : va_P D classes [(g, .inr (1, [.ref q1, .ref q2, .int 0, .long 0, .long 0])), (q1, .inl (cA 0, 40, .inr (.inl (fun _ => 0)))), (q2, .inl (cA 0, 40, .inr (.inl (fun _ => 0))))] H := hP
  have hD : va_D A [(g, .inr (1, [.ref q1, .ref q2, .int 0, .long 0, .long 0])), (q1, .inl (cA 0, 40, .inr (.inl (fun _ => 0)))), (q2, .inl (cA 0, 40, .inr (.inl (fun _ => 0))))] := hD
  refine lv_aload_n hx hb d_g_init_25 rfl (lv_at hl 0 rfl) ?_
  refine lv_lconst (v := 0) hx hb d_g_init_26 (by decide) ?_
  refine va_put (D := D) (v := .long 0) (ty := .long) hx hb hts i_g t_g t_g_ok n_g hown hK.1 hP hD hS 0 rfl rfl 3 (by decide) (hts _ kf_g_22) (fun _ h9 => h9) rfl (by decide +kernel) rfl rfl (Nat.le_of_ble_eq_true rfl) d_g_init_27 (fun H locs hP hD hS => ?_)
  have hP : va_P D classes [(g, .inr (1, [.ref q1, .ref q2, .int 0, .long 0, .long 0])), (q1, .inl (cA 0, 40, .inr (.inl (fun _ => 0)))), (q2, .inl (cA 0, 40, .inr (.inl (fun _ => 0))))] H := hP
  have hD : va_D A [(g, .inr (1, [.ref q1, .ref q2, .int 0, .long 0, .long 0])), (q1, .inl (cA 0, 40, .inr (.inl (fun _ => 0)))), (q2, .inl (cA 0, 40, .inr (.inl (fun _ => 0))))] := hD
  refine lv_aload_n hx hb d_g_init_30 rfl (lv_at hl 0 rfl) ?_
  refine lv_lconst (v := 0) hx hb d_g_init_31 (by decide) ?_
  refine va_put (D := D) (v := .long 0) (ty := .long) hx hb hts i_g t_g t_g_ok n_g hown hK.1 hP hD hS 0 rfl rfl 4 (by decide) (hts _ kf_g_26) (fun _ h9 => h9) rfl (by decide +kernel) rfl rfl (Nat.le_of_ble_eq_true rfl) d_g_init_32 (fun H locs hP hD hS => ?_)
  have hP : va_P D classes [(g, .inr (1, [.ref q1, .ref q2, .int 0, .long 0, .long 0])), (q1, .inl (cA 0, 40, .inr (.inl (fun _ => 0)))), (q2, .inl (cA 0, 40, .inr (.inl (fun _ => 0))))] H := hP
  have hD : va_D A [(g, .inr (1, [.ref q1, .ref q2, .int 0, .long 0, .long 0])), (q1, .inl (cA 0, 40, .inr (.inl (fun _ => 0)))), (q2, .inl (cA 0, 40, .inr (.inl (fun _ => 0))))] := hD
  have hP : va_P D classes [(g, .inr (1, [.ref q1, .ref q2, .int 0, .long 0, .long 0])), (q1, .inl (cA 0, 40, .inr (.inl (fun _ => 0)))), (q2, .inl (cA 0, 40, .inr (.inl (fun _ => 0))))] H := hP.sub [0, 1, 2] rfl
  have hD : va_D A [(g, .inr (1, [.ref q1, .ref q2, .int 0, .long 0, .long 0])), (q1, .inl (cA 0, 40, .inr (.inl (fun _ => 0)))), (q2, .inl (cA 0, 40, .inr (.inl (fun _ => 0))))] := hD.sub [0, 1, 2] (by decide) rfl
  exact mu_vret FX hS ⟨rfl, q1, q2, hP, hD⟩ d_g_init_35
theorem d_g_holds_0 : decode b_g_holds 0 = .ok (.iload_n 1, 1) := by decide +kernel
theorem d_g_holds_1 : decode b_g_holds 1 = .ok (.invokestatic 29, 3) := by decide +kernel
theorem d_g_holds_4 : decode b_g_holds 4 = .ok (.ifCond .eq 15, 3) := by decide +kernel
theorem d_g_holds_7 : decode b_g_holds 7 = .ok (.iload_n 1, 1) := by decide +kernel
theorem d_g_holds_8 : decode b_g_holds 8 = .ok (.aload_n 0, 1) := by decide +kernel
theorem d_g_holds_9 : decode b_g_holds 9 = .ok (.getfield 18, 3) := by decide +kernel
theorem d_g_holds_12 : decode b_g_holds 12 = .ok (.if_icmp .ge 7, 3) := by decide +kernel
theorem d_g_holds_15 : decode b_g_holds 15 = .ok (.iconst 1, 1) := by decide +kernel
theorem d_g_holds_16 : decode b_g_holds 16 = .ok (.goto 4, 3) := by decide +kernel
theorem d_g_holds_19 : decode b_g_holds 19 = .ok (.iconst 0, 1) := by decide +kernel
theorem d_g_holds_20 : decode b_g_holds 20 = .ok (.ireturn, 1) := by decide +kernel
def f_g_holds (sz : Int32) (nu : Int32) : Bool := if (f_x_isNumber nu) = true then
    (if sz ≤ nu then
      (false)
    else
      (true))
  else
    (false)
set_option maxHeartbeats 4000000 in
set_option maxRecDepth 100000 in
theorem c_g_holds (l : Launch) (D : va_G) (cA : Nat → ClassId) (g pa re : Nat) (ps rs : Nat → Int64) (sz : Int32) (bu sk : Int64) (nu : Int32) : Met l y_g_holds (.code y_g_holds b_g_holds 2 (some .boolean) :: tb) (rmd 1) (Pro D cA [.ref g, .int nu] (va_P D classes [(g, .inr (1, [.ref pa, .ref re, .int sz, .long bu, .long sk])), (pa, .inl (cA 0, 40, .inr (.inl ps))), (re, .inl (cA 0, 40, .inr (.inl rs)))])) (Qro (.int (bz (f_g_holds sz nu)))) 0 0 nof := by
  refine ro_in (by decide) (Nat.le_of_ble_eq_true rfl) (fun p e s m below meth c ls FX hnm hK hP hl => ?_)
  have hl : lv_has ls 2 [(0, .ref g), (1, .int nu)] := hl
  have hP : va_P D classes [(g, .inr (1, [.ref pa, .ref re, .int sz, .long bu, .long sk])), (pa, .inl (cA 0, 40, .inr (.inl ps))), (re, .inl (cA 0, 40, .inr (.inl rs)))] s.heap := hP
  generalize ([.ref g, .int nu] : List Value).toArray = args at FX ⊢
  obtain ⟨hx, hb, hml, hown, hts, hr, hlk⟩ := id FX
  refine lv_iload_n hx hb d_g_holds_0 rfl (lv_at hl 1 rfl) ?_
  refine ro_SN (v := .int (bz (f_x_isNumber nu))) (As := [.int nu]) (rest := []) FX hK (c_x_isNumber l D cA nu) trivial kc_x_isNumber km_g_29 ki_x ks_x_isNumber rfl ok_x_isNumber ⟨Nat.le_of_ble_eq_true rfl, Nat.le_of_ble_eq_true rfl⟩ ⟨Nat.zero_le _, Nat.zero_le _⟩ hl.1 rfl (Nat.le_of_ble_eq_true rfl) d_g_holds_1 ?_
  refine lv_if_eq (tgt := 19) hx hb d_g_holds_4 (by decide) (fun c1 => ?_) (fun c1 => ?_)
  · have c1 := bz_f c1
    refine lv_iconst (v := 0) hx hb d_g_holds_19 (by decide) ?_
    exact ro_zret FX (by rw [f_g_holds, if_neg c1] <;> rfl) d_g_holds_20
  · have c1 := bz_t c1
    refine lv_iload_n hx hb d_g_holds_7 rfl (lv_at hl 1 rfl) ?_
    refine lv_aload_n hx hb d_g_holds_8 rfl (lv_at hl 0 rfl) ?_
    refine ro_get (v := .int sz) FX hK hP 0 2 rfl rfl rfl i_g (by decide) kf_g_18 d_g_holds_9 ?_
    refine lv_icmp_ge (tgt := 19) hx hb d_g_holds_12 (by decide) (fun c2 => ?_) (fun c2 => ?_)
    · have c2 := c2
      refine lv_iconst (v := 0) hx hb d_g_holds_19 (by decide) ?_
      exact ro_zret FX (by rw [f_g_holds, if_pos c1, if_pos c2] <;> rfl) d_g_holds_20
    · have c2 := c2
      refine lv_iconst (v := 1) hx hb d_g_holds_15 (by decide) ?_
      refine lv_goto (tgt := 20) hx hb d_g_holds_16 (by decide) ?_
      exact ro_zret FX (by rw [f_g_holds, if_pos c1, if_neg c2] <;> rfl) d_g_holds_20
theorem holds_nI {sz nu : Int32} (h : f_g_holds sz nu = true) : ∃ j : Nat, j < 40 ∧ nu = nI j := by
  unfold f_g_holds at h
  by_cases h0 : f_x_isNumber nu = true
  · exact num_nI h0
  · rw [if_neg h0] at h; cases h
theorem holds_in {sz nu : Int32} (h : f_g_holds sz nu = true) : vp_in nu 40 := by
  obtain ⟨j, hj, e⟩ := holds_nI h
  exact vin e hj (by decide)
theorem d_g_mayBeParent_0 : decode b_g_mayBeParent 0 = .ok (.iload_n 1, 1) := by decide +kernel
theorem d_g_mayBeParent_1 : decode b_g_mayBeParent 1 = .ok (.iconst (-1), 1) := by decide +kernel
theorem d_g_mayBeParent_2 : decode b_g_mayBeParent 2 = .ok (.if_icmp .eq 11, 3) := by decide +kernel
theorem d_g_mayBeParent_5 : decode b_g_mayBeParent 5 = .ok (.aload_n 0, 1) := by decide +kernel
theorem d_g_mayBeParent_6 : decode b_g_mayBeParent 6 = .ok (.iload_n 1, 1) := by decide +kernel
theorem d_g_mayBeParent_7 : decode b_g_mayBeParent 7 = .ok (.invokevirtual 33, 3) := by decide +kernel
theorem d_g_mayBeParent_10 : decode b_g_mayBeParent 10 = .ok (.ifCond .eq 7, 3) := by decide +kernel
theorem d_g_mayBeParent_13 : decode b_g_mayBeParent 13 = .ok (.iconst 1, 1) := by decide +kernel
theorem d_g_mayBeParent_14 : decode b_g_mayBeParent 14 = .ok (.goto 4, 3) := by decide +kernel
theorem d_g_mayBeParent_17 : decode b_g_mayBeParent 17 = .ok (.iconst 0, 1) := by decide +kernel
theorem d_g_mayBeParent_18 : decode b_g_mayBeParent 18 = .ok (.ireturn, 1) := by decide +kernel
def f_g_mayBeParent (sz : Int32) (nu : Int32) : Bool := if nu = (-1) then
    (true)
  else
    (if (f_g_holds sz nu) = true then
      (true)
    else
      (false))
set_option maxHeartbeats 4000000 in
set_option maxRecDepth 100000 in
theorem c_g_mayBeParent (l : Launch) (D : va_G) (cA : Nat → ClassId) (g pa re : Nat) (ps rs : Nat → Int64) (sz : Int32) (bu sk : Int64) (nu : Int32) : Met l y_g_mayBeParent (.code y_g_mayBeParent b_g_mayBeParent 2 (some .boolean) :: tb) (rmd 2) (Pro D cA [.ref g, .int nu] (va_P D classes [(g, .inr (1, [.ref pa, .ref re, .int sz, .long bu, .long sk])), (pa, .inl (cA 0, 40, .inr (.inl ps))), (re, .inl (cA 0, 40, .inr (.inl rs)))])) (Qro (.int (bz (f_g_mayBeParent sz nu)))) 0 0 nof := by
  refine ro_in (by decide) (Nat.le_of_ble_eq_true rfl) (fun p e s m below meth c ls FX hnm hK hP hl => ?_)
  have hl : lv_has ls 2 [(0, .ref g), (1, .int nu)] := hl
  have hP : va_P D classes [(g, .inr (1, [.ref pa, .ref re, .int sz, .long bu, .long sk])), (pa, .inl (cA 0, 40, .inr (.inl ps))), (re, .inl (cA 0, 40, .inr (.inl rs)))] s.heap := hP
  generalize ([.ref g, .int nu] : List Value).toArray = args at FX ⊢
  obtain ⟨hx, hb, hml, hown, hts, hr, hlk⟩ := id FX
  refine lv_iload_n hx hb d_g_mayBeParent_0 rfl (lv_at hl 1 rfl) ?_
  refine lv_iconst (v := (-1)) hx hb d_g_mayBeParent_1 (by decide) ?_
  refine lv_icmp_eq (tgt := 13) hx hb d_g_mayBeParent_2 (by decide) (fun c1 => ?_) (fun c1 => ?_)
  · have c1 := c1
    refine lv_iconst (v := 1) hx hb d_g_mayBeParent_13 (by decide) ?_
    refine lv_goto (tgt := 18) hx hb d_g_mayBeParent_14 (by decide) ?_
    exact ro_zret FX (by rw [f_g_mayBeParent, if_pos c1] <;> rfl) d_g_mayBeParent_18
  · have c1 := c1
    refine lv_aload_n hx hb d_g_mayBeParent_5 rfl (lv_at hl 0 rfl) ?_
    refine lv_iload_n hx hb d_g_mayBeParent_6 rfl (lv_at hl 1 rfl) ?_
    refine ro_V (v := .int (bz (f_g_holds sz nu))) (As := [.int nu]) (rest := []) (q0 := 0) FX hK (c_g_holds l D cA g pa re ps rs sz bu sk nu) hP hP rfl rfl rfl kc_g_holds km_g_33 ki_g ks_g_holds ke_g_holds rfl ok_g_holds ⟨Nat.le_of_ble_eq_true rfl, Nat.le_of_ble_eq_true rfl⟩ ⟨Nat.zero_le _, Nat.zero_le _⟩ hl.1 rfl (Nat.le_of_ble_eq_true rfl) d_g_mayBeParent_7 ?_
    refine lv_if_eq (tgt := 17) hx hb d_g_mayBeParent_10 (by decide) (fun c2 => ?_) (fun c2 => ?_)
    · have c2 := bz_f c2
      refine lv_iconst (v := 0) hx hb d_g_mayBeParent_17 (by decide) ?_
      exact ro_zret FX (by rw [f_g_mayBeParent, if_neg c1, if_neg c2] <;> rfl) d_g_mayBeParent_18
    · have c2 := bz_t c2
      refine lv_iconst (v := 1) hx hb d_g_mayBeParent_13 (by decide) ?_
      refine lv_goto (tgt := 18) hx hb d_g_mayBeParent_14 (by decide) ?_
      exact ro_zret FX (by rw [f_g_mayBeParent, if_neg c1, if_pos c2] <;> rfl) d_g_mayBeParent_18
theorem d_g_reach_0 : decode b_g_reach 0 = .ok (.aload_n 0, 1) := by decide +kernel
theorem d_g_reach_1 : decode b_g_reach 1 = .ok (.iload_n 1, 1) := by decide +kernel
theorem d_g_reach_2 : decode b_g_reach 2 = .ok (.invokevirtual 33, 3) := by decide +kernel
theorem d_g_reach_5 : decode b_g_reach 5 = .ok (.ifCond .eq 12, 3) := by decide +kernel
theorem d_g_reach_8 : decode b_g_reach 8 = .ok (.aload_n 0, 1) := by decide +kernel
theorem d_g_reach_9 : decode b_g_reach 9 = .ok (.getfield 15, 3) := by decide +kernel
theorem d_g_reach_12 : decode b_g_reach 12 = .ok (.iload_n 1, 1) := by decide +kernel
theorem d_g_reach_13 : decode b_g_reach 13 = .ok (.laload, 1) := by decide +kernel
theorem d_g_reach_14 : decode b_g_reach 14 = .ok (.goto 4, 3) := by decide +kernel
theorem d_g_reach_17 : decode b_g_reach 17 = .ok (.lconst 0, 1) := by decide +kernel
theorem d_g_reach_18 : decode b_g_reach 18 = .ok (.lreturn, 1) := by decide +kernel
def f_g_reach (rs : Nat → Int64) (sz : Int32) (nu : Int32) : Int64 := if (f_g_holds sz nu) = true then
    (rs nu.toNatClampNeg)
  else
    (0)
set_option maxHeartbeats 4000000 in
set_option maxRecDepth 100000 in
theorem c_g_reach (l : Launch) (D : va_G) (cA : Nat → ClassId) (g pa re : Nat) (ps rs : Nat → Int64) (sz : Int32) (bu sk : Int64) (nu : Int32) : Met l y_g_reach (.code y_g_reach b_g_reach 2 (some .long) :: tb) (rmd 2) (Pro D cA [.ref g, .int nu] (va_P D classes [(g, .inr (1, [.ref pa, .ref re, .int sz, .long bu, .long sk])), (pa, .inl (cA 0, 40, .inr (.inl ps))), (re, .inl (cA 0, 40, .inr (.inl rs)))])) (Qro (.long (f_g_reach rs sz nu))) 0 0 nof := by
  refine ro_in (by decide) (Nat.le_of_ble_eq_true rfl) (fun p e s m below meth c ls FX hnm hK hP hl => ?_)
  have hl : lv_has ls 2 [(0, .ref g), (1, .int nu)] := hl
  have hP : va_P D classes [(g, .inr (1, [.ref pa, .ref re, .int sz, .long bu, .long sk])), (pa, .inl (cA 0, 40, .inr (.inl ps))), (re, .inl (cA 0, 40, .inr (.inl rs)))] s.heap := hP
  generalize ([.ref g, .int nu] : List Value).toArray = args at FX ⊢
  obtain ⟨hx, hb, hml, hown, hts, hr, hlk⟩ := id FX
  refine lv_aload_n hx hb d_g_reach_0 rfl (lv_at hl 0 rfl) ?_
  refine lv_iload_n hx hb d_g_reach_1 rfl (lv_at hl 1 rfl) ?_
  refine ro_V (v := .int (bz (f_g_holds sz nu))) (As := [.int nu]) (rest := []) (q0 := 0) FX hK (c_g_holds l D cA g pa re ps rs sz bu sk nu) hP hP rfl rfl rfl kc_g_holds km_g_33 ki_g ks_g_holds ke_g_holds rfl ok_g_holds ⟨Nat.le_of_ble_eq_true rfl, Nat.le_of_ble_eq_true rfl⟩ ⟨Nat.zero_le _, Nat.zero_le _⟩ hl.1 rfl (Nat.le_of_ble_eq_true rfl) d_g_reach_2 ?_
  refine lv_if_eq (tgt := 17) hx hb d_g_reach_5 (by decide) (fun c1 => ?_) (fun c1 => ?_)
  · have c1 := bz_f c1
    refine lv_lconst (v := 0) hx hb d_g_reach_17 (by decide) ?_
    exact ro_lret FX (by rw [f_g_reach, if_neg c1]) d_g_reach_18
  · have c1 := bz_t c1
    refine lv_aload_n hx hb d_g_reach_8 rfl (lv_at hl 0 rfl) ?_
    refine ro_get (v := .ref re) FX hK hP 0 1 rfl rfl rfl i_g (by decide) kf_g_15 d_g_reach_9 ?_
    refine lv_iload_n hx hb d_g_reach_12 rfl (lv_at hl 1 rfl) ?_
    refine va_lald hx hb hK.1 hP 2 0 rfl rfl (holds_in c1) d_g_reach_13 ?_
    refine lv_goto (tgt := 18) hx hb d_g_reach_14 (by decide) ?_
    exact ro_lret FX (by rw [f_g_reach, if_pos c1]) d_g_reach_18
theorem d_g_isBuilt_0 : decode b_g_isBuilt 0 = .ok (.aload_n 0, 1) := by decide +kernel
theorem d_g_isBuilt_1 : decode b_g_isBuilt 1 = .ok (.getfield 22, 3) := by decide +kernel
theorem d_g_isBuilt_4 : decode b_g_isBuilt 4 = .ok (.iload_n 1, 1) := by decide +kernel
theorem d_g_isBuilt_5 : decode b_g_isBuilt 5 = .ok (.invokestatic 40, 3) := by decide +kernel
theorem d_g_isBuilt_8 : decode b_g_isBuilt 8 = .ok (.ireturn, 1) := by decide +kernel
def f_g_isBuilt (bu : Int64) (nu : Int32) : Bool := (f_x_contains bu nu)
set_option maxHeartbeats 4000000 in
set_option maxRecDepth 100000 in
theorem c_g_isBuilt (l : Launch) (D : va_G) (cA : Nat → ClassId) (g pa re : Nat) (ps rs : Nat → Int64) (sz : Int32) (bu sk : Int64) (nu : Int32) : Met l y_g_isBuilt (.code y_g_isBuilt b_g_isBuilt 2 (some .boolean) :: tb) (rmd 2) (Pro D cA [.ref g, .int nu] (va_P D classes [(g, .inr (1, [.ref pa, .ref re, .int sz, .long bu, .long sk])), (pa, .inl (cA 0, 40, .inr (.inl ps))), (re, .inl (cA 0, 40, .inr (.inl rs)))])) (Qro (.int (bz (f_g_isBuilt bu nu)))) 0 0 nof := by
  refine ro_in (by decide) (Nat.le_of_ble_eq_true rfl) (fun p e s m below meth c ls FX hnm hK hP hl => ?_)
  have hl : lv_has ls 2 [(0, .ref g), (1, .int nu)] := hl
  have hP : va_P D classes [(g, .inr (1, [.ref pa, .ref re, .int sz, .long bu, .long sk])), (pa, .inl (cA 0, 40, .inr (.inl ps))), (re, .inl (cA 0, 40, .inr (.inl rs)))] s.heap := hP
  generalize ([.ref g, .int nu] : List Value).toArray = args at FX ⊢
  obtain ⟨hx, hb, hml, hown, hts, hr, hlk⟩ := id FX
  refine lv_aload_n hx hb d_g_isBuilt_0 rfl (lv_at hl 0 rfl) ?_
  refine ro_get (v := .long bu) FX hK hP 0 3 rfl rfl rfl i_g (by decide) kf_g_22 d_g_isBuilt_1 ?_
  refine lv_iload_n hx hb d_g_isBuilt_4 rfl (lv_at hl 1 rfl) ?_
  refine ro_SN (v := .int (bz (f_x_contains bu nu))) (As := [.long bu, .int nu]) (rest := []) FX hK (c_x_contains l D cA bu nu) trivial kc_x_contains km_g_40 ki_x ks_x_contains rfl ok_x_contains ⟨Nat.le_of_ble_eq_true rfl, Nat.le_of_ble_eq_true rfl⟩ ⟨Nat.zero_le _, Nat.zero_le _⟩ hl.1 rfl (Nat.le_of_ble_eq_true rfl) d_g_isBuilt_5 ?_
  exact ro_zret FX (by rw [f_g_isBuilt] <;> rfl) d_g_isBuilt_8
theorem d_g_isSkipped_0 : decode b_g_isSkipped 0 = .ok (.aload_n 0, 1) := by decide +kernel
theorem d_g_isSkipped_1 : decode b_g_isSkipped 1 = .ok (.getfield 26, 3) := by decide +kernel
theorem d_g_isSkipped_4 : decode b_g_isSkipped 4 = .ok (.iload_n 1, 1) := by decide +kernel
theorem d_g_isSkipped_5 : decode b_g_isSkipped 5 = .ok (.invokestatic 40, 3) := by decide +kernel
theorem d_g_isSkipped_8 : decode b_g_isSkipped 8 = .ok (.ireturn, 1) := by decide +kernel
def f_g_isSkipped (sk : Int64) (nu : Int32) : Bool := (f_x_contains sk nu)
set_option maxHeartbeats 4000000 in
set_option maxRecDepth 100000 in
theorem c_g_isSkipped (l : Launch) (D : va_G) (cA : Nat → ClassId) (g pa re : Nat) (ps rs : Nat → Int64) (sz : Int32) (bu sk : Int64) (nu : Int32) : Met l y_g_isSkipped (.code y_g_isSkipped b_g_isSkipped 2 (some .boolean) :: tb) (rmd 2) (Pro D cA [.ref g, .int nu] (va_P D classes [(g, .inr (1, [.ref pa, .ref re, .int sz, .long bu, .long sk])), (pa, .inl (cA 0, 40, .inr (.inl ps))), (re, .inl (cA 0, 40, .inr (.inl rs)))])) (Qro (.int (bz (f_g_isSkipped sk nu)))) 0 0 nof := by
  refine ro_in (by decide) (Nat.le_of_ble_eq_true rfl) (fun p e s m below meth c ls FX hnm hK hP hl => ?_)
  have hl : lv_has ls 2 [(0, .ref g), (1, .int nu)] := hl
  have hP : va_P D classes [(g, .inr (1, [.ref pa, .ref re, .int sz, .long bu, .long sk])), (pa, .inl (cA 0, 40, .inr (.inl ps))), (re, .inl (cA 0, 40, .inr (.inl rs)))] s.heap := hP
  generalize ([.ref g, .int nu] : List Value).toArray = args at FX ⊢
  obtain ⟨hx, hb, hml, hown, hts, hr, hlk⟩ := id FX
  refine lv_aload_n hx hb d_g_isSkipped_0 rfl (lv_at hl 0 rfl) ?_
  refine ro_get (v := .long sk) FX hK hP 0 4 rfl rfl rfl i_g (by decide) kf_g_26 d_g_isSkipped_1 ?_
  refine lv_iload_n hx hb d_g_isSkipped_4 rfl (lv_at hl 1 rfl) ?_
  refine ro_SN (v := .int (bz (f_x_contains sk nu))) (As := [.long sk, .int nu]) (rest := []) FX hK (c_x_contains l D cA sk nu) trivial kc_x_contains km_g_40 ki_x ks_x_contains rfl ok_x_contains ⟨Nat.le_of_ble_eq_true rfl, Nat.le_of_ble_eq_true rfl⟩ ⟨Nat.zero_le _, Nat.zero_le _⟩ hl.1 rfl (Nat.le_of_ble_eq_true rfl) d_g_isSkipped_5 ?_
  exact ro_zret FX (by rw [f_g_isSkipped] <;> rfl) d_g_isSkipped_8
theorem d_g_builtCount_0 : decode b_g_builtCount 0 = .ok (.aload_n 0, 1) := by decide +kernel
theorem d_g_builtCount_1 : decode b_g_builtCount 1 = .ok (.getfield 22, 3) := by decide +kernel
theorem d_g_builtCount_4 : decode b_g_builtCount 4 = .ok (.invokestatic 44, 3) := by decide +kernel
theorem d_g_builtCount_7 : decode b_g_builtCount 7 = .ok (.ireturn, 1) := by decide +kernel
def f_g_builtCount (bu : Int64) : Int32 := f_lo_bitCount bu
set_option maxHeartbeats 4000000 in
set_option maxRecDepth 100000 in
theorem c_g_builtCount (l : Launch) (D : va_G) (cA : Nat → ClassId) (g pa re : Nat) (ps rs : Nat → Int64) (sz : Int32) (bu sk : Int64) : Met l y_g_builtCount (.code y_g_builtCount b_g_builtCount 1 (some .int) :: tb) (rmd 1) (Pro D cA [.ref g] (va_P D classes [(g, .inr (1, [.ref pa, .ref re, .int sz, .long bu, .long sk])), (pa, .inl (cA 0, 40, .inr (.inl ps))), (re, .inl (cA 0, 40, .inr (.inl rs)))])) (Qro (.int (f_g_builtCount bu))) 0 0 nof := by
  refine ro_in (by decide) (Nat.le_of_ble_eq_true rfl) (fun p e s m below meth c ls FX hnm hK hP hl => ?_)
  have hl : lv_has ls 1 [(0, .ref g)] := hl
  have hP : va_P D classes [(g, .inr (1, [.ref pa, .ref re, .int sz, .long bu, .long sk])), (pa, .inl (cA 0, 40, .inr (.inl ps))), (re, .inl (cA 0, 40, .inr (.inl rs)))] s.heap := hP
  generalize ([.ref g] : List Value).toArray = args at FX ⊢
  obtain ⟨hx, hb, hml, hown, hts, hr, hlk⟩ := id FX
  refine lv_aload_n hx hb d_g_builtCount_0 rfl (lv_at hl 0 rfl) ?_
  refine ro_get (v := .long bu) FX hK hP 0 3 rfl rfl rfl i_g (by decide) kf_g_22 d_g_builtCount_1 ?_
  refine ro_S (v := .int (f_lo_bitCount bu)) (As := [.long bu]) (rest := []) FX hK (c_lo_bitCount l D cA bu) trivial kc_lo_bitCount km_g_44 ki_lo ks_lo_bitCount rfl ok_lo_bitCount ⟨Nat.le_of_ble_eq_true rfl, Nat.le_of_ble_eq_true rfl⟩ ⟨Nat.zero_le _, Nat.zero_le _⟩ hl.1 rfl (Nat.le_of_ble_eq_true rfl) d_g_builtCount_4 ?_
  exact ro_iret FX (by rw [f_g_builtCount]) d_g_builtCount_7
theorem d_g_stepToward_0 : decode b_g_stepToward 0 = .ok (.aload_n 0, 1) := by decide +kernel
theorem d_g_stepToward_1 : decode b_g_stepToward 1 = .ok (.iload_n 1, 1) := by decide +kernel
theorem d_g_stepToward_2 : decode b_g_stepToward 2 = .ok (.invokevirtual 33, 3) := by decide +kernel
theorem d_g_stepToward_5 : decode b_g_stepToward 5 = .ok (.ifCond .ne 5, 3) := by decide +kernel
theorem d_g_stepToward_8 : decode b_g_stepToward 8 = .ok (.iconst (-1), 1) := by decide +kernel
theorem d_g_stepToward_9 : decode b_g_stepToward 9 = .ok (.ireturn, 1) := by decide +kernel
theorem d_g_stepToward_10 : decode b_g_stepToward 10 = .ok (.iconst 0, 1) := by decide +kernel
theorem d_g_stepToward_11 : decode b_g_stepToward 11 = .ok (.istore_n 3, 1) := by decide +kernel
theorem d_g_stepToward_12 : decode b_g_stepToward 12 = .ok (.iload_n 3, 1) := by decide +kernel
theorem d_g_stepToward_13 : decode b_g_stepToward 13 = .ok (.iload_n 1, 1) := by decide +kernel
theorem d_g_stepToward_14 : decode b_g_stepToward 14 = .ok (.if_icmp .ge 37, 3) := by decide +kernel
theorem d_g_stepToward_17 : decode b_g_stepToward 17 = .ok (.aload_n 0, 1) := by decide +kernel
theorem d_g_stepToward_18 : decode b_g_stepToward 18 = .ok (.getfield 9, 3) := by decide +kernel
theorem d_g_stepToward_21 : decode b_g_stepToward 21 = .ok (.iload_n 1, 1) := by decide +kernel
theorem d_g_stepToward_22 : decode b_g_stepToward 22 = .ok (.laload, 1) := by decide +kernel
theorem d_g_stepToward_23 : decode b_g_stepToward 23 = .ok (.iload_n 3, 1) := by decide +kernel
theorem d_g_stepToward_24 : decode b_g_stepToward 24 = .ok (.invokestatic 40, 3) := by decide +kernel
theorem d_g_stepToward_27 : decode b_g_stepToward 27 = .ok (.ifCond .eq 18, 3) := by decide +kernel
theorem d_g_stepToward_30 : decode b_g_stepToward 30 = .ok (.aload_n 0, 1) := by decide +kernel
theorem d_g_stepToward_31 : decode b_g_stepToward 31 = .ok (.getfield 15, 3) := by decide +kernel
theorem d_g_stepToward_34 : decode b_g_stepToward 34 = .ok (.iload_n 3, 1) := by decide +kernel
theorem d_g_stepToward_35 : decode b_g_stepToward 35 = .ok (.laload, 1) := by decide +kernel
theorem d_g_stepToward_36 : decode b_g_stepToward 36 = .ok (.iload_n 2, 1) := by decide +kernel
theorem d_g_stepToward_37 : decode b_g_stepToward 37 = .ok (.invokestatic 40, 3) := by decide +kernel
theorem d_g_stepToward_40 : decode b_g_stepToward 40 = .ok (.ifCond .eq 5, 3) := by decide +kernel
theorem d_g_stepToward_43 : decode b_g_stepToward 43 = .ok (.iload_n 3, 1) := by decide +kernel
theorem d_g_stepToward_44 : decode b_g_stepToward 44 = .ok (.ireturn, 1) := by decide +kernel
theorem d_g_stepToward_45 : decode b_g_stepToward 45 = .ok (.iinc 3 1, 3) := by decide +kernel
theorem d_g_stepToward_48 : decode b_g_stepToward 48 = .ok (.goto (-36), 3) := by decide +kernel
theorem d_g_stepToward_51 : decode b_g_stepToward 51 = .ok (.iconst (-1), 1) := by decide +kernel
theorem d_g_stepToward_52 : decode b_g_stepToward 52 = .ok (.ireturn, 1) := by decide +kernel
def L_g_stepToward_12 (ps : Nat → Int64) (rs : Nat → Int64) (sz : Int32) (nu : Int32) (cu : Int32) : Nat → Int32 → Int32
  | 0, _ => 0
  | n + 1, xi => if nu ≤ xi then
    ((-1))
  else
    (if (f_x_contains (ps nu.toNatClampNeg) xi) = true then
      (if (f_x_contains (rs xi.toNatClampNeg) cu) = true then
        (xi)
      else
        (L_g_stepToward_12 ps rs sz nu cu n (xi + 1)))
    else
      (L_g_stepToward_12 ps rs sz nu cu n (xi + 1)))
theorem L_g_stepToward_12_s (ps : Nat → Int64) (rs : Nat → Int64) (sz : Int32) (nu : Int32) (cu : Int32) (n : Nat) (xi : Int32) : L_g_stepToward_12 ps rs sz nu cu (n + 1) xi = if nu ≤ xi then
    ((-1))
  else
    (if (f_x_contains (ps nu.toNatClampNeg) xi) = true then
      (if (f_x_contains (rs xi.toNatClampNeg) cu) = true then
        (xi)
      else
        (L_g_stepToward_12 ps rs sz nu cu n (xi + 1)))
    else
      (L_g_stepToward_12 ps rs sz nu cu n (xi + 1))) := rfl
def f_g_stepToward (ps : Nat → Int64) (rs : Nat → Int64) (sz : Int32) (nu : Int32) (cu : Int32) : Int32 := if (f_g_holds sz nu) = true then
    (L_g_stepToward_12 ps rs sz nu cu 41 0)
  else
    ((-1))
set_option maxHeartbeats 4000000 in
set_option maxRecDepth 100000 in
theorem c_g_stepToward (l : Launch) (D : va_G) (cA : Nat → ClassId) (g pa re : Nat) (ps rs : Nat → Int64) (sz : Int32) (bu sk : Int64) (nu : Int32) (cu : Int32) : Met l y_g_stepToward (.code y_g_stepToward b_g_stepToward 4 (some .int) :: tb) (rmd 2) (Pro D cA [.ref g, .int nu, .int cu] (va_P D classes [(g, .inr (1, [.ref pa, .ref re, .int sz, .long bu, .long sk])), (pa, .inl (cA 0, 40, .inr (.inl ps))), (re, .inl (cA 0, 40, .inr (.inl rs)))])) (Qro (.int (f_g_stepToward ps rs sz nu cu))) 0 0 nof := by
  refine ro_in (by decide) (Nat.le_of_ble_eq_true rfl) (fun p e s m below meth c ls FX hnm hK hP hl => ?_)
  have hl : lv_has ls 4 [(0, .ref g), (1, .int nu), (2, .int cu)] := hl
  have hP : va_P D classes [(g, .inr (1, [.ref pa, .ref re, .int sz, .long bu, .long sk])), (pa, .inl (cA 0, 40, .inr (.inl ps))), (re, .inl (cA 0, 40, .inr (.inl rs)))] s.heap := hP
  generalize ([.ref g, .int nu, .int cu] : List Value).toArray = args at FX ⊢
  obtain ⟨hx, hb, hml, hown, hts, hr, hlk⟩ := id FX
  refine lv_aload_n hx hb d_g_stepToward_0 rfl (lv_at hl 0 rfl) ?_
  refine lv_iload_n hx hb d_g_stepToward_1 rfl (lv_at hl 1 rfl) ?_
  refine ro_V (v := .int (bz (f_g_holds sz nu))) (As := [.int nu]) (rest := []) (q0 := 0) FX hK (c_g_holds l D cA g pa re ps rs sz bu sk nu) hP hP rfl rfl rfl kc_g_holds km_g_33 ki_g ks_g_holds ke_g_holds rfl ok_g_holds ⟨Nat.le_of_ble_eq_true rfl, Nat.le_of_ble_eq_true rfl⟩ ⟨Nat.zero_le _, Nat.zero_le _⟩ hl.1 rfl (Nat.le_of_ble_eq_true rfl) d_g_stepToward_2 ?_
  refine lv_if_ne (tgt := 10) hx hb d_g_stepToward_5 (by decide) (fun c1 => ?_) (fun c1 => ?_)
  · have c1 := bz_t c1
    obtain ⟨j, hj, hjs⟩ := holds_nI c1
    refine lv_iconst (v := 0) hx hb d_g_stepToward_10 (by decide) ?_
    refine lv_istore_n (lv' := [(3, .int 0), (0, .ref g), (1, .int nu), (2, .int cu)]) hx hb d_g_stepToward_11 rfl hl (by decide) rfl (fun ls hl => ?_)
    have loop : ∀ (n k : Nat) (xi : Int32) (ls : Array Slot), k + n = 41 → k ≤ 40 → xi = nI k → lv_has ls 4 [(0, .ref g), (1, .int nu), (2, .int cu), (3, .int xi)] → W p l e (rmd 2) s m args below meth c s.heap [] 0 0 (MQ below (Qro (.int (L_g_stepToward_12 ps rs sz nu cu n xi))) args s 0 0 nof) (F0 m 12 ls []) := by
      intro n
      induction n with
      | zero =>
        intro k xi ls h1 h2
        exact absurd h1 (by omega)
      | succ n ih =>
        intro k xi ls hkn hk hxi hl
        refine lv_iload_n hx hb d_g_stepToward_12 rfl (lv_at hl 3 rfl) ?_
        refine lv_iload_n hx hb d_g_stepToward_13 rfl (lv_at hl 1 rfl) ?_
        refine lv_icmp_ge (tgt := 51) hx hb d_g_stepToward_14 (by decide) (fun c2 => ?_) (fun c2 => ?_)
        · have c2 := c2
          refine lv_iconst (v := (-1)) hx hb d_g_stepToward_51 (by decide) ?_
          exact ro_iret FX (by rw [L_g_stepToward_12_s, if_pos c2]) d_g_stepToward_52
        · have c2 := c2
          have hk1 : k < j := k_lt hxi hjs c2 (by omega)
          refine lv_aload_n hx hb d_g_stepToward_17 rfl (lv_at hl 0 rfl) ?_
          refine ro_get (v := .ref pa) FX hK hP 0 0 rfl rfl rfl i_g (by decide) kf_g_9 d_g_stepToward_18 ?_
          refine lv_iload_n hx hb d_g_stepToward_21 rfl (lv_at hl 1 rfl) ?_
          refine va_lald hx hb hK.1 hP 1 0 rfl rfl (vin hjs hj (by decide)) d_g_stepToward_22 ?_
          refine lv_iload_n hx hb d_g_stepToward_23 rfl (lv_at hl 3 rfl) ?_
          refine ro_SN (v := .int (bz (f_x_contains (ps nu.toNatClampNeg) xi))) (As := [.long (ps nu.toNatClampNeg), .int xi]) (rest := []) FX hK (c_x_contains l D cA (ps nu.toNatClampNeg) xi) trivial kc_x_contains km_g_40 ki_x ks_x_contains rfl ok_x_contains ⟨Nat.le_of_ble_eq_true rfl, Nat.le_of_ble_eq_true rfl⟩ ⟨Nat.zero_le _, Nat.zero_le _⟩ hl.1 rfl (Nat.le_of_ble_eq_true rfl) d_g_stepToward_24 ?_
          refine lv_if_eq (tgt := 45) hx hb d_g_stepToward_27 (by decide) (fun c3 => ?_) (fun c3 => ?_)
          · have c3 := bz_f c3
            refine lv_iinc (v := xi + 1) (lv' := [(3, .int (xi + 1)), (0, .ref g), (1, .int nu), (2, .int cu)]) hx hb d_g_stepToward_45 hl (k := 3) rfl rfl (by decide) rfl (fun ls hl => ?_)
            refine lv_goto (tgt := 12) hx hb d_g_stepToward_48 (by decide) ?_
            refine ro_to (by rw [L_g_stepToward_12_s, if_neg c2, if_neg c3]) ?_
            exact ih (k + 1) (xi + 1) ls (by omega) (by omega) (by rw [hxi]; exact nI_1 _)  (lv_sub hl [1, 2, 3, 0] rfl)
          · have c3 := bz_t c3
            refine lv_aload_n hx hb d_g_stepToward_30 rfl (lv_at hl 0 rfl) ?_
            refine ro_get (v := .ref re) FX hK hP 0 1 rfl rfl rfl i_g (by decide) kf_g_15 d_g_stepToward_31 ?_
            refine lv_iload_n hx hb d_g_stepToward_34 rfl (lv_at hl 3 rfl) ?_
            refine va_lald hx hb hK.1 hP 2 0 rfl rfl (vin hxi (Nat.lt_of_lt_of_le hk1 (by omega)) (by decide)) d_g_stepToward_35 ?_
            refine lv_iload_n hx hb d_g_stepToward_36 rfl (lv_at hl 2 rfl) ?_
            refine ro_SN (v := .int (bz (f_x_contains (rs xi.toNatClampNeg) cu))) (As := [.long (rs xi.toNatClampNeg), .int cu]) (rest := []) FX hK (c_x_contains l D cA (rs xi.toNatClampNeg) cu) trivial kc_x_contains km_g_40 ki_x ks_x_contains rfl ok_x_contains ⟨Nat.le_of_ble_eq_true rfl, Nat.le_of_ble_eq_true rfl⟩ ⟨Nat.zero_le _, Nat.zero_le _⟩ hl.1 rfl (Nat.le_of_ble_eq_true rfl) d_g_stepToward_37 ?_
            refine lv_if_eq (tgt := 45) hx hb d_g_stepToward_40 (by decide) (fun c4 => ?_) (fun c4 => ?_)
            · have c4 := bz_f c4
              refine lv_iinc (v := xi + 1) (lv' := [(3, .int (xi + 1)), (0, .ref g), (1, .int nu), (2, .int cu)]) hx hb d_g_stepToward_45 hl (k := 3) rfl rfl (by decide) rfl (fun ls hl => ?_)
              refine lv_goto (tgt := 12) hx hb d_g_stepToward_48 (by decide) ?_
              refine ro_to (by rw [L_g_stepToward_12_s, if_neg c2, if_pos c3, if_neg c4]) ?_
              exact ih (k + 1) (xi + 1) ls (by omega) (by omega) (by rw [hxi]; exact nI_1 _)  (lv_sub hl [1, 2, 3, 0] rfl)
            · have c4 := bz_t c4
              refine lv_iload_n hx hb d_g_stepToward_43 rfl (lv_at hl 3 rfl) ?_
              exact ro_iret FX (by rw [L_g_stepToward_12_s, if_neg c2, if_pos c3, if_pos c4]) d_g_stepToward_44
    refine ro_to (by rw [f_g_stepToward, if_pos c1]) ?_
    exact loop 41 0 0 ls rfl (Nat.zero_le _) rfl  (lv_sub hl [1, 2, 3, 0] rfl)
  · have c1 := bz_f c1
    refine lv_iconst (v := (-1)) hx hb d_g_stepToward_8 (by decide) ?_
    exact ro_iret FX (by rw [f_g_stepToward, if_neg c1]) d_g_stepToward_9
theorem d_g_markBuilt_0 : decode b_g_markBuilt 0 = .ok (.aload_n 0, 1) := by decide +kernel
theorem d_g_markBuilt_1 : decode b_g_markBuilt 1 = .ok (.dup, 1) := by decide +kernel
theorem d_g_markBuilt_2 : decode b_g_markBuilt 2 = .ok (.getfield 22, 3) := by decide +kernel
theorem d_g_markBuilt_5 : decode b_g_markBuilt 5 = .ok (.iload_n 1, 1) := by decide +kernel
theorem d_g_markBuilt_6 : decode b_g_markBuilt 6 = .ok (.invokestatic 36, 3) := by decide +kernel
theorem d_g_markBuilt_9 : decode b_g_markBuilt 9 = .ok (.lor, 1) := by decide +kernel
theorem d_g_markBuilt_10 : decode b_g_markBuilt 10 = .ok (.putfield 22, 3) := by decide +kernel
theorem d_g_markBuilt_13 : decode b_g_markBuilt 13 = .ok (.return_, 1) := by decide +kernel
def f_g_markBuilt (bu : Int64) (nu : Int32) : Int64 := bu ||| (f_x_only nu)
set_option maxHeartbeats 4000000 in
set_option maxRecDepth 100000 in
theorem c_g_markBuilt (l : Launch) (D : va_G) (cA : Nat → ClassId) (g pa re : Nat) (ps rs : Nat → Int64) (sz : Int32) (bu sk : Int64) (nu : Int32) : Met l y_g_markBuilt (.code y_g_markBuilt b_g_markBuilt 2 none :: tb) (rmd 2) (Pro D cA [.ref g, .int nu] (fun H0 => va_P D classes [(g, .inr (1, [.ref pa, .ref re, .int sz, .long bu, .long sk])), (pa, .inl (cA 0, 40, .inr (.inl ps))), (re, .inl (cA 0, 40, .inr (.inl rs)))] H0 ∧ va_D (fun _ => True) [(g, .inr (1, [.ref pa, .ref re, .int sz, .long bu, .long sk])), (pa, .inl (cA 0, 40, .inr (.inl ps))), (re, .inl (cA 0, 40, .inr (.inl rs)))])) (Qmu (aw [(g, .inr (1, [.ref pa, .ref re, .int sz, .long bu, .long sk])), (pa, .inl (cA 0, 40, .inr (.inl ps))), (re, .inl (cA 0, 40, .inr (.inl rs)))]) (fun v0 H0 => v0 = none ∧ va_P D classes [(g, .inr (1, [.ref pa, .ref re, .int sz, .long (f_g_markBuilt bu nu), .long sk])), (pa, .inl (cA 0, 40, .inr (.inl ps))), (re, .inl (cA 0, 40, .inr (.inl rs)))] H0 ∧ va_D (aw [(g, .inr (1, [.ref pa, .ref re, .int sz, .long bu, .long sk])), (pa, .inl (cA 0, 40, .inr (.inl ps))), (re, .inl (cA 0, 40, .inr (.inl rs)))]) [(g, .inr (1, [.ref pa, .ref re, .int sz, .long (f_g_markBuilt bu nu), .long sk])), (pa, .inl (cA 0, 40, .inr (.inl ps))), (re, .inl (cA 0, 40, .inr (.inl rs)))])) 0 0 (aw [(g, .inr (1, [.ref pa, .ref re, .int sz, .long bu, .long sk])), (pa, .inl (cA 0, 40, .inr (.inl ps))), (re, .inl (cA 0, 40, .inr (.inl rs)))]) := by
  refine ro_in (by decide) (Nat.le_of_ble_eq_true rfl) (fun p e s m below meth c ls FX hnm hK hP hl => ?_)
  have hl : lv_has ls 2 [(0, .ref g), (1, .int nu)] := hl
  obtain ⟨hP, hD0⟩ := hP
  have hP : va_P D classes [(g, .inr (1, [.ref pa, .ref re, .int sz, .long bu, .long sk])), (pa, .inl (cA 0, 40, .inr (.inl ps))), (re, .inl (cA 0, 40, .inr (.inl rs)))] s.heap := hP
  have hD : va_D (aw [(g, .inr (1, [.ref pa, .ref re, .int sz, .long bu, .long sk])), (pa, .inl (cA 0, 40, .inr (.inl ps))), (re, .inl (cA 0, 40, .inr (.inl rs)))]) [(g, .inr (1, [.ref pa, .ref re, .int sz, .long bu, .long sk])), (pa, .inl (cA 0, 40, .inr (.inl ps))), (re, .inl (cA 0, 40, .inr (.inl rs)))] := aw_self hD0
  generalize (aw [(g, .inr (1, [.ref pa, .ref re, .int sz, .long bu, .long sk])), (pa, .inl (cA 0, 40, .inr (.inl ps))), (re, .inl (cA 0, 40, .inr (.inl rs)))]) = A at hD ⊢
  have hS : va_S A s.heap s.heap [] := va_S.rf
  generalize ([.ref g, .int nu] : List Value).toArray = args at FX ⊢
  obtain ⟨hx, hb, hml, hown, hts, hr, hlk⟩ := id FX
  refine lv_aload_n hx hb d_g_markBuilt_0 rfl (lv_at hl 0 rfl) ?_
  refine lv_dup hx hb d_g_markBuilt_1 rfl ?_
  refine ro_get (v := .long bu) FX hK hP 0 3 rfl rfl rfl i_g (by decide) kf_g_22 d_g_markBuilt_2 ?_
  refine lv_iload_n hx hb d_g_markBuilt_5 rfl (lv_at hl 1 rfl) ?_
  refine ro_SN (v := .long (f_x_only nu)) (As := [.int nu]) (rest := [.long bu, .ref g]) FX hK (c_x_only l D cA nu) trivial kc_x_only km_g_36 ki_x ks_x_only rfl ok_x_only ⟨Nat.le_of_ble_eq_true rfl, Nat.le_of_ble_eq_true rfl⟩ ⟨Nat.zero_le _, Nat.zero_le _⟩ hl.1 rfl (Nat.le_of_ble_eq_true rfl) d_g_markBuilt_6 ?_
  refine lv_lor hx hb d_g_markBuilt_9 ?_
  refine va_put (D := D) (v := .long (bu ||| (f_x_only nu))) (ty := .long) hx hb hts i_g t_g t_g_ok n_g hown hK.1 hP hD hS 0 rfl rfl 3 (by decide) (hts _ kf_g_22) (fun _ h9 => h9) rfl (by decide +kernel) rfl rfl (Nat.le_of_ble_eq_true rfl) d_g_markBuilt_10 (fun H locs hP hD hS => ?_)
  have hP : va_P D classes [(g, .inr (1, [.ref pa, .ref re, .int sz, .long (bu ||| (f_x_only nu)), .long sk])), (pa, .inl (cA 0, 40, .inr (.inl ps))), (re, .inl (cA 0, 40, .inr (.inl rs)))] H := hP
  have hD : va_D A [(g, .inr (1, [.ref pa, .ref re, .int sz, .long (bu ||| (f_x_only nu)), .long sk])), (pa, .inl (cA 0, 40, .inr (.inl ps))), (re, .inl (cA 0, 40, .inr (.inl rs)))] := hD
  exact mu_vret FX hS (by rw [show (f_g_markBuilt bu nu) = bu ||| (f_x_only nu) from (by rw [f_g_markBuilt])]; exact ⟨rfl, hP, hD⟩) d_g_markBuilt_13
theorem d_g_markSkipped_0 : decode b_g_markSkipped 0 = .ok (.aload_n 0, 1) := by decide +kernel
theorem d_g_markSkipped_1 : decode b_g_markSkipped 1 = .ok (.dup, 1) := by decide +kernel
theorem d_g_markSkipped_2 : decode b_g_markSkipped 2 = .ok (.getfield 26, 3) := by decide +kernel
theorem d_g_markSkipped_5 : decode b_g_markSkipped 5 = .ok (.iload_n 1, 1) := by decide +kernel
theorem d_g_markSkipped_6 : decode b_g_markSkipped 6 = .ok (.invokestatic 36, 3) := by decide +kernel
theorem d_g_markSkipped_9 : decode b_g_markSkipped 9 = .ok (.lor, 1) := by decide +kernel
theorem d_g_markSkipped_10 : decode b_g_markSkipped 10 = .ok (.putfield 26, 3) := by decide +kernel
theorem d_g_markSkipped_13 : decode b_g_markSkipped 13 = .ok (.return_, 1) := by decide +kernel
def f_g_markSkipped (sk : Int64) (nu : Int32) : Int64 := sk ||| (f_x_only nu)
set_option maxHeartbeats 4000000 in
set_option maxRecDepth 100000 in
theorem c_g_markSkipped (l : Launch) (D : va_G) (cA : Nat → ClassId) (g pa re : Nat) (ps rs : Nat → Int64) (sz : Int32) (bu sk : Int64) (nu : Int32) : Met l y_g_markSkipped (.code y_g_markSkipped b_g_markSkipped 2 none :: tb) (rmd 2) (Pro D cA [.ref g, .int nu] (fun H0 => va_P D classes [(g, .inr (1, [.ref pa, .ref re, .int sz, .long bu, .long sk])), (pa, .inl (cA 0, 40, .inr (.inl ps))), (re, .inl (cA 0, 40, .inr (.inl rs)))] H0 ∧ va_D (fun _ => True) [(g, .inr (1, [.ref pa, .ref re, .int sz, .long bu, .long sk])), (pa, .inl (cA 0, 40, .inr (.inl ps))), (re, .inl (cA 0, 40, .inr (.inl rs)))])) (Qmu (aw [(g, .inr (1, [.ref pa, .ref re, .int sz, .long bu, .long sk])), (pa, .inl (cA 0, 40, .inr (.inl ps))), (re, .inl (cA 0, 40, .inr (.inl rs)))]) (fun v0 H0 => v0 = none ∧ va_P D classes [(g, .inr (1, [.ref pa, .ref re, .int sz, .long bu, .long (f_g_markSkipped sk nu)])), (pa, .inl (cA 0, 40, .inr (.inl ps))), (re, .inl (cA 0, 40, .inr (.inl rs)))] H0 ∧ va_D (aw [(g, .inr (1, [.ref pa, .ref re, .int sz, .long bu, .long sk])), (pa, .inl (cA 0, 40, .inr (.inl ps))), (re, .inl (cA 0, 40, .inr (.inl rs)))]) [(g, .inr (1, [.ref pa, .ref re, .int sz, .long bu, .long (f_g_markSkipped sk nu)])), (pa, .inl (cA 0, 40, .inr (.inl ps))), (re, .inl (cA 0, 40, .inr (.inl rs)))])) 0 0 (aw [(g, .inr (1, [.ref pa, .ref re, .int sz, .long bu, .long sk])), (pa, .inl (cA 0, 40, .inr (.inl ps))), (re, .inl (cA 0, 40, .inr (.inl rs)))]) := by
  refine ro_in (by decide) (Nat.le_of_ble_eq_true rfl) (fun p e s m below meth c ls FX hnm hK hP hl => ?_)
  have hl : lv_has ls 2 [(0, .ref g), (1, .int nu)] := hl
  obtain ⟨hP, hD0⟩ := hP
  have hP : va_P D classes [(g, .inr (1, [.ref pa, .ref re, .int sz, .long bu, .long sk])), (pa, .inl (cA 0, 40, .inr (.inl ps))), (re, .inl (cA 0, 40, .inr (.inl rs)))] s.heap := hP
  have hD : va_D (aw [(g, .inr (1, [.ref pa, .ref re, .int sz, .long bu, .long sk])), (pa, .inl (cA 0, 40, .inr (.inl ps))), (re, .inl (cA 0, 40, .inr (.inl rs)))]) [(g, .inr (1, [.ref pa, .ref re, .int sz, .long bu, .long sk])), (pa, .inl (cA 0, 40, .inr (.inl ps))), (re, .inl (cA 0, 40, .inr (.inl rs)))] := aw_self hD0
  generalize (aw [(g, .inr (1, [.ref pa, .ref re, .int sz, .long bu, .long sk])), (pa, .inl (cA 0, 40, .inr (.inl ps))), (re, .inl (cA 0, 40, .inr (.inl rs)))]) = A at hD ⊢
  have hS : va_S A s.heap s.heap [] := va_S.rf
  generalize ([.ref g, .int nu] : List Value).toArray = args at FX ⊢
  obtain ⟨hx, hb, hml, hown, hts, hr, hlk⟩ := id FX
  refine lv_aload_n hx hb d_g_markSkipped_0 rfl (lv_at hl 0 rfl) ?_
  refine lv_dup hx hb d_g_markSkipped_1 rfl ?_
  refine ro_get (v := .long sk) FX hK hP 0 4 rfl rfl rfl i_g (by decide) kf_g_26 d_g_markSkipped_2 ?_
  refine lv_iload_n hx hb d_g_markSkipped_5 rfl (lv_at hl 1 rfl) ?_
  refine ro_SN (v := .long (f_x_only nu)) (As := [.int nu]) (rest := [.long sk, .ref g]) FX hK (c_x_only l D cA nu) trivial kc_x_only km_g_36 ki_x ks_x_only rfl ok_x_only ⟨Nat.le_of_ble_eq_true rfl, Nat.le_of_ble_eq_true rfl⟩ ⟨Nat.zero_le _, Nat.zero_le _⟩ hl.1 rfl (Nat.le_of_ble_eq_true rfl) d_g_markSkipped_6 ?_
  refine lv_lor hx hb d_g_markSkipped_9 ?_
  refine va_put (D := D) (v := .long (sk ||| (f_x_only nu))) (ty := .long) hx hb hts i_g t_g t_g_ok n_g hown hK.1 hP hD hS 0 rfl rfl 4 (by decide) (hts _ kf_g_26) (fun _ h9 => h9) rfl (by decide +kernel) rfl rfl (Nat.le_of_ble_eq_true rfl) d_g_markSkipped_10 (fun H locs hP hD hS => ?_)
  have hP : va_P D classes [(g, .inr (1, [.ref pa, .ref re, .int sz, .long bu, .long (sk ||| (f_x_only nu))])), (pa, .inl (cA 0, 40, .inr (.inl ps))), (re, .inl (cA 0, 40, .inr (.inl rs)))] H := hP
  have hD : va_D A [(g, .inr (1, [.ref pa, .ref re, .int sz, .long bu, .long (sk ||| (f_x_only nu))])), (pa, .inl (cA 0, 40, .inr (.inl ps))), (re, .inl (cA 0, 40, .inr (.inl rs)))] := hD
  exact mu_vret FX hS (by rw [show (f_g_markSkipped sk nu) = sk ||| (f_x_only nu) from (by rw [f_g_markSkipped])]; exact ⟨rfl, hP, hD⟩) d_g_markSkipped_13
theorem d_g_add_0 : decode b_g_add 0 = .ok (.aload_n 0, 1) := by decide +kernel
theorem d_g_add_1 : decode b_g_add 1 = .ok (.getfield 18, 3) := by decide +kernel
theorem d_g_add_4 : decode b_g_add 4 = .ok (.invokestatic 29, 3) := by decide +kernel
theorem d_g_add_7 : decode b_g_add 7 = .ok (.ifCond .ne 5, 3) := by decide +kernel
theorem d_g_add_10 : decode b_g_add 10 = .ok (.iconst (-1), 1) := by decide +kernel
theorem d_g_add_11 : decode b_g_add 11 = .ok (.ireturn, 1) := by decide +kernel
theorem d_g_add_12 : decode b_g_add 12 = .ok (.aload_n 0, 1) := by decide +kernel
theorem d_g_add_13 : decode b_g_add 13 = .ok (.getfield 18, 3) := by decide +kernel
theorem d_g_add_16 : decode b_g_add 16 = .ok (.istore_n 3, 1) := by decide +kernel
theorem d_g_add_17 : decode b_g_add 17 = .ok (.iload_n 3, 1) := by decide +kernel
theorem d_g_add_18 : decode b_g_add 18 = .ok (.invokestatic 36, 3) := by decide +kernel
theorem d_g_add_21 : decode b_g_add 21 = .ok (.lstore 4, 2) := by decide +kernel
theorem d_g_add_23 : decode b_g_add 23 = .ok (.iconst 0, 1) := by decide +kernel
theorem d_g_add_24 : decode b_g_add 24 = .ok (.istore 6, 2) := by decide +kernel
theorem d_g_add_26 : decode b_g_add 26 = .ok (.iload 6, 2) := by decide +kernel
theorem d_g_add_28 : decode b_g_add 28 = .ok (.iload_n 3, 1) := by decide +kernel
theorem d_g_add_29 : decode b_g_add 29 = .ok (.if_icmp .ge 30, 3) := by decide +kernel
theorem d_g_add_32 : decode b_g_add 32 = .ok (.lload_n 1, 1) := by decide +kernel
theorem d_g_add_33 : decode b_g_add 33 = .ok (.iload 6, 2) := by decide +kernel
theorem d_g_add_35 : decode b_g_add 35 = .ok (.invokestatic 40, 3) := by decide +kernel
theorem d_g_add_38 : decode b_g_add 38 = .ok (.ifCond .eq 15, 3) := by decide +kernel
theorem d_g_add_41 : decode b_g_add 41 = .ok (.lload 4, 2) := by decide +kernel
theorem d_g_add_43 : decode b_g_add 43 = .ok (.aload_n 0, 1) := by decide +kernel
theorem d_g_add_44 : decode b_g_add 44 = .ok (.getfield 15, 3) := by decide +kernel
theorem d_g_add_47 : decode b_g_add 47 = .ok (.iload 6, 2) := by decide +kernel
theorem d_g_add_49 : decode b_g_add 49 = .ok (.laload, 1) := by decide +kernel
theorem d_g_add_50 : decode b_g_add 50 = .ok (.lor, 1) := by decide +kernel
theorem d_g_add_51 : decode b_g_add 51 = .ok (.lstore 4, 2) := by decide +kernel
theorem d_g_add_53 : decode b_g_add 53 = .ok (.iinc 6 1, 3) := by decide +kernel
theorem d_g_add_56 : decode b_g_add 56 = .ok (.goto (-30), 3) := by decide +kernel
theorem d_g_add_59 : decode b_g_add 59 = .ok (.aload_n 0, 1) := by decide +kernel
theorem d_g_add_60 : decode b_g_add 60 = .ok (.getfield 9, 3) := by decide +kernel
theorem d_g_add_63 : decode b_g_add 63 = .ok (.iload_n 3, 1) := by decide +kernel
theorem d_g_add_64 : decode b_g_add 64 = .ok (.lload_n 1, 1) := by decide +kernel
theorem d_g_add_65 : decode b_g_add 65 = .ok (.lastore, 1) := by decide +kernel
theorem d_g_add_66 : decode b_g_add 66 = .ok (.aload_n 0, 1) := by decide +kernel
theorem d_g_add_67 : decode b_g_add 67 = .ok (.getfield 15, 3) := by decide +kernel
theorem d_g_add_70 : decode b_g_add 70 = .ok (.iload_n 3, 1) := by decide +kernel
theorem d_g_add_71 : decode b_g_add 71 = .ok (.lload 4, 2) := by decide +kernel
theorem d_g_add_73 : decode b_g_add 73 = .ok (.lastore, 1) := by decide +kernel
theorem d_g_add_74 : decode b_g_add 74 = .ok (.aload_n 0, 1) := by decide +kernel
theorem d_g_add_75 : decode b_g_add 75 = .ok (.dup, 1) := by decide +kernel
theorem d_g_add_76 : decode b_g_add 76 = .ok (.getfield 18, 3) := by decide +kernel
theorem d_g_add_79 : decode b_g_add 79 = .ok (.iconst 1, 1) := by decide +kernel
theorem d_g_add_80 : decode b_g_add 80 = .ok (.iadd, 1) := by decide +kernel
theorem d_g_add_81 : decode b_g_add 81 = .ok (.putfield 18, 3) := by decide +kernel
theorem d_g_add_84 : decode b_g_add 84 = .ok (.iload_n 3, 1) := by decide +kernel
theorem d_g_add_85 : decode b_g_add 85 = .ok (.ireturn, 1) := by decide +kernel
def L_g_add_26 (ps : Nat → Int64) (rs : Nat → Int64) (sz : Int32) (zs : Int64) : Nat → Int64 → Int32 → Int32 × (Nat → Int64) × (Nat → Int64) × Int32
  | 0, _, _ => (0, ps, rs, 0)
  | n + 1, ac, xi => if sz ≤ xi then
    ((sz, vp_updL ps sz.toNatClampNeg zs, vp_updL rs sz.toNatClampNeg ac, sz + 1))
  else
    (if (f_x_contains zs xi) = true then
      (L_g_add_26 ps rs sz zs n (ac ||| (rs xi.toNatClampNeg)) (xi + 1))
    else
      (L_g_add_26 ps rs sz zs n ac (xi + 1)))
theorem L_g_add_26_s (ps : Nat → Int64) (rs : Nat → Int64) (sz : Int32) (zs : Int64) (n : Nat) (ac : Int64) (xi : Int32) : L_g_add_26 ps rs sz zs (n + 1) ac xi = if sz ≤ xi then
    ((sz, vp_updL ps sz.toNatClampNeg zs, vp_updL rs sz.toNatClampNeg ac, sz + 1))
  else
    (if (f_x_contains zs xi) = true then
      (L_g_add_26 ps rs sz zs n (ac ||| (rs xi.toNatClampNeg)) (xi + 1))
    else
      (L_g_add_26 ps rs sz zs n ac (xi + 1))) := rfl
def f_g_add (ps : Nat → Int64) (rs : Nat → Int64) (sz : Int32) (zs : Int64) : Int32 × (Nat → Int64) × (Nat → Int64) × Int32 := if (f_x_isNumber sz) = true then
    (L_g_add_26 ps rs sz zs 41 (f_x_only sz) 0)
  else
    (((-1), ps, rs, sz))
set_option maxHeartbeats 4000000 in
set_option maxRecDepth 100000 in
theorem c_g_add (l : Launch) (D : va_G) (cA : Nat → ClassId) (g pa re : Nat) (ps rs : Nat → Int64) (sz : Int32) (bu sk : Int64) (zs : Int64) : Met l y_g_add (.code y_g_add b_g_add 7 (some .int) :: tb) (rmd 2) (Pro D cA [.ref g, .long zs] (fun H0 => va_P D classes [(g, .inr (1, [.ref pa, .ref re, .int sz, .long bu, .long sk])), (pa, .inl (cA 0, 40, .inr (.inl ps))), (re, .inl (cA 0, 40, .inr (.inl rs)))] H0 ∧ va_D (fun _ => True) [(g, .inr (1, [.ref pa, .ref re, .int sz, .long bu, .long sk])), (pa, .inl (cA 0, 40, .inr (.inl ps))), (re, .inl (cA 0, 40, .inr (.inl rs)))])) (Qmu (aw [(g, .inr (1, [.ref pa, .ref re, .int sz, .long bu, .long sk])), (pa, .inl (cA 0, 40, .inr (.inl ps))), (re, .inl (cA 0, 40, .inr (.inl rs)))]) (fun v0 H0 => v0 = some (.int ((f_g_add ps rs sz zs).1)) ∧ va_P D classes [(g, .inr (1, [.ref pa, .ref re, .int ((f_g_add ps rs sz zs).2.2.2), .long bu, .long sk])), (pa, .inl (cA 0, 40, .inr (.inl ((f_g_add ps rs sz zs).2.1)))), (re, .inl (cA 0, 40, .inr (.inl ((f_g_add ps rs sz zs).2.2.1))))] H0 ∧ va_D (aw [(g, .inr (1, [.ref pa, .ref re, .int sz, .long bu, .long sk])), (pa, .inl (cA 0, 40, .inr (.inl ps))), (re, .inl (cA 0, 40, .inr (.inl rs)))]) [(g, .inr (1, [.ref pa, .ref re, .int ((f_g_add ps rs sz zs).2.2.2), .long bu, .long sk])), (pa, .inl (cA 0, 40, .inr (.inl ((f_g_add ps rs sz zs).2.1)))), (re, .inl (cA 0, 40, .inr (.inl ((f_g_add ps rs sz zs).2.2.1))))])) 0 0 (aw [(g, .inr (1, [.ref pa, .ref re, .int sz, .long bu, .long sk])), (pa, .inl (cA 0, 40, .inr (.inl ps))), (re, .inl (cA 0, 40, .inr (.inl rs)))]) := by
  refine ro_in (by decide) (Nat.le_of_ble_eq_true rfl) (fun p e s m below meth c ls FX hnm hK hP hl => ?_)
  have hl : lv_has ls 7 [(0, .ref g), (1, .long zs)] := hl
  obtain ⟨hP, hD0⟩ := hP
  have hP : va_P D classes [(g, .inr (1, [.ref pa, .ref re, .int sz, .long bu, .long sk])), (pa, .inl (cA 0, 40, .inr (.inl ps))), (re, .inl (cA 0, 40, .inr (.inl rs)))] s.heap := hP
  have hD : va_D (aw [(g, .inr (1, [.ref pa, .ref re, .int sz, .long bu, .long sk])), (pa, .inl (cA 0, 40, .inr (.inl ps))), (re, .inl (cA 0, 40, .inr (.inl rs)))]) [(g, .inr (1, [.ref pa, .ref re, .int sz, .long bu, .long sk])), (pa, .inl (cA 0, 40, .inr (.inl ps))), (re, .inl (cA 0, 40, .inr (.inl rs)))] := aw_self hD0
  generalize (aw [(g, .inr (1, [.ref pa, .ref re, .int sz, .long bu, .long sk])), (pa, .inl (cA 0, 40, .inr (.inl ps))), (re, .inl (cA 0, 40, .inr (.inl rs)))]) = A at hD ⊢
  have hS : va_S A s.heap s.heap [] := va_S.rf
  generalize ([.ref g, .long zs] : List Value).toArray = args at FX ⊢
  obtain ⟨hx, hb, hml, hown, hts, hr, hlk⟩ := id FX
  refine lv_aload_n hx hb d_g_add_0 rfl (lv_at hl 0 rfl) ?_
  refine ro_get (v := .int sz) FX hK hP 0 2 rfl rfl rfl i_g (by decide) kf_g_18 d_g_add_1 ?_
  refine ro_SN (v := .int (bz (f_x_isNumber sz))) (As := [.int sz]) (rest := []) FX hK (c_x_isNumber l D cA sz) trivial kc_x_isNumber km_g_29 ki_x ks_x_isNumber rfl ok_x_isNumber ⟨Nat.le_of_ble_eq_true rfl, Nat.le_of_ble_eq_true rfl⟩ ⟨Nat.zero_le _, Nat.zero_le _⟩ hl.1 rfl (Nat.le_of_ble_eq_true rfl) d_g_add_4 ?_
  refine lv_if_ne (tgt := 12) hx hb d_g_add_7 (by decide) (fun c1 => ?_) (fun c1 => ?_)
  · have c1 := bz_t c1
    obtain ⟨j, hj, hjs⟩ := num_nI c1
    refine lv_aload_n hx hb d_g_add_12 rfl (lv_at hl 0 rfl) ?_
    refine ro_get (v := .int sz) FX hK hP 0 2 rfl rfl rfl i_g (by decide) kf_g_18 d_g_add_13 ?_
    refine lv_istore_n (lv' := [(3, .int sz), (0, .ref g), (1, .long zs)]) hx hb d_g_add_16 rfl hl (by decide) rfl (fun ls hl => ?_)
    refine lv_iload_n hx hb d_g_add_17 rfl (lv_at hl 0 rfl) ?_
    refine ro_SN (v := .long (f_x_only sz)) (As := [.int sz]) (rest := []) FX hK (c_x_only l D cA sz) trivial kc_x_only km_g_36 ki_x ks_x_only rfl ok_x_only ⟨Nat.le_of_ble_eq_true rfl, Nat.le_of_ble_eq_true rfl⟩ ⟨Nat.zero_le _, Nat.zero_le _⟩ hl.1 rfl (Nat.le_of_ble_eq_true rfl) d_g_add_18 ?_
    refine lv_lstore (lv' := [(4, .long (f_x_only sz)), (3, .int sz), (0, .ref g), (1, .long zs)]) hx hb d_g_add_21 hl (by decide) rfl (fun ls hl => ?_)
    refine lv_iconst (v := 0) hx hb d_g_add_23 (by decide) ?_
    refine lv_istore (lv' := [(6, .int 0), (4, .long (f_x_only sz)), (3, .int sz), (0, .ref g), (1, .long zs)]) hx hb d_g_add_24 hl (by decide) rfl (fun ls hl => ?_)
    have loop : ∀ (n k : Nat) (ac : Int64) (xi : Int32) (ls : Array Slot), k + n = 41 → k ≤ 40 → xi = nI k → lv_has ls 7 [(0, .ref g), (1, .long zs), (3, .int sz), (4, .long ac), (6, .int xi)] → W p l e (rmd 2) s m args below meth c s.heap [] 0 0 (MQ below (Qmu A (fun v0 H0 => v0 = some (.int ((L_g_add_26 ps rs sz zs n ac xi).1)) ∧ va_P D classes [(g, .inr (1, [.ref pa, .ref re, .int ((L_g_add_26 ps rs sz zs n ac xi).2.2.2), .long bu, .long sk])), (pa, .inl (cA 0, 40, .inr (.inl ((L_g_add_26 ps rs sz zs n ac xi).2.1)))), (re, .inl (cA 0, 40, .inr (.inl ((L_g_add_26 ps rs sz zs n ac xi).2.2.1))))] H0 ∧ va_D A [(g, .inr (1, [.ref pa, .ref re, .int ((L_g_add_26 ps rs sz zs n ac xi).2.2.2), .long bu, .long sk])), (pa, .inl (cA 0, 40, .inr (.inl ((L_g_add_26 ps rs sz zs n ac xi).2.1)))), (re, .inl (cA 0, 40, .inr (.inl ((L_g_add_26 ps rs sz zs n ac xi).2.2.1))))])) args s 0 0 A) (F0 m 26 ls []) := by
      intro n
      induction n with
      | zero =>
        intro k ac xi ls h1 h2
        exact absurd h1 (by omega)
      | succ n ih =>
        intro k ac xi ls hkn hk hxi hl
        refine lv_iload hx hb d_g_add_26 (lv_at hl 4 rfl) ?_
        refine lv_iload_n hx hb d_g_add_28 rfl (lv_at hl 2 rfl) ?_
        refine lv_icmp_ge (tgt := 59) hx hb d_g_add_29 (by decide) (fun c2 => ?_) (fun c2 => ?_)
        · have c2 := c2
          refine lv_aload_n hx hb d_g_add_59 rfl (lv_at hl 0 rfl) ?_
          refine ro_get (v := .ref pa) FX hK hP 0 0 rfl rfl rfl i_g (by decide) kf_g_9 d_g_add_60 ?_
          refine lv_iload_n hx hb d_g_add_63 rfl (lv_at hl 2 rfl) ?_
          refine lv_lload_n hx hb d_g_add_64 rfl (lv_at hl 1 rfl) ?_
          refine va_last (x := zs) hx hb hK.1 hP hD hS 1 0 rfl rfl (vin hjs hj (by decide)) d_g_add_65 (fun H locs hP hD hS => ?_)
          have hP : va_P D classes [(g, .inr (1, [.ref pa, .ref re, .int sz, .long bu, .long sk])), (pa, .inl (cA 0, 40, .inr (.inl (vp_updL ps sz.toNatClampNeg zs)))), (re, .inl (cA 0, 40, .inr (.inl rs)))] H := hP
          have hD : va_D A [(g, .inr (1, [.ref pa, .ref re, .int sz, .long bu, .long sk])), (pa, .inl (cA 0, 40, .inr (.inl (vp_updL ps sz.toNatClampNeg zs)))), (re, .inl (cA 0, 40, .inr (.inl rs)))] := hD
          refine lv_aload_n hx hb d_g_add_66 rfl (lv_at hl 0 rfl) ?_
          refine ro_get (v := .ref re) FX hK hP 0 1 rfl rfl rfl i_g (by decide) kf_g_15 d_g_add_67 ?_
          refine lv_iload_n hx hb d_g_add_70 rfl (lv_at hl 2 rfl) ?_
          refine lv_lload hx hb d_g_add_71 (lv_at hl 3 rfl) ?_
          refine va_last (x := ac) hx hb hK.1 hP hD hS 2 0 rfl rfl (vin hjs hj (by decide)) d_g_add_73 (fun H locs hP hD hS => ?_)
          have hP : va_P D classes [(g, .inr (1, [.ref pa, .ref re, .int sz, .long bu, .long sk])), (pa, .inl (cA 0, 40, .inr (.inl (vp_updL ps sz.toNatClampNeg zs)))), (re, .inl (cA 0, 40, .inr (.inl (vp_updL rs sz.toNatClampNeg ac))))] H := hP
          have hD : va_D A [(g, .inr (1, [.ref pa, .ref re, .int sz, .long bu, .long sk])), (pa, .inl (cA 0, 40, .inr (.inl (vp_updL ps sz.toNatClampNeg zs)))), (re, .inl (cA 0, 40, .inr (.inl (vp_updL rs sz.toNatClampNeg ac))))] := hD
          refine lv_aload_n hx hb d_g_add_74 rfl (lv_at hl 0 rfl) ?_
          refine lv_dup hx hb d_g_add_75 rfl ?_
          refine ro_get (v := .int sz) FX hK hP 0 2 rfl rfl rfl i_g (by decide) kf_g_18 d_g_add_76 ?_
          refine lv_iconst (v := 1) hx hb d_g_add_79 (by decide) ?_
          refine lv_iadd hx hb d_g_add_80 ?_
          refine va_put (D := D) (v := .int (sz + 1)) (ty := .int) hx hb hts i_g t_g t_g_ok n_g hown hK.1 hP hD hS 0 rfl rfl 2 (by decide) (hts _ kf_g_18) (fun _ h9 => h9) rfl (by decide +kernel) rfl rfl (Nat.le_of_ble_eq_true rfl) d_g_add_81 (fun H locs hP hD hS => ?_)
          have hP : va_P D classes [(g, .inr (1, [.ref pa, .ref re, .int (sz + 1), .long bu, .long sk])), (pa, .inl (cA 0, 40, .inr (.inl (vp_updL ps sz.toNatClampNeg zs)))), (re, .inl (cA 0, 40, .inr (.inl (vp_updL rs sz.toNatClampNeg ac))))] H := hP
          have hD : va_D A [(g, .inr (1, [.ref pa, .ref re, .int (sz + 1), .long bu, .long sk])), (pa, .inl (cA 0, 40, .inr (.inl (vp_updL ps sz.toNatClampNeg zs)))), (re, .inl (cA 0, 40, .inr (.inl (vp_updL rs sz.toNatClampNeg ac))))] := hD
          refine lv_iload_n hx hb d_g_add_84 rfl (lv_at hl 2 rfl) ?_
          exact mu_iret FX hS (by rw [show (L_g_add_26 ps rs sz zs (n + 1) ac xi) = (sz, vp_updL ps sz.toNatClampNeg zs, vp_updL rs sz.toNatClampNeg ac, sz + 1) from (by rw [L_g_add_26_s, if_pos c2])]; exact ⟨rfl, hP, hD⟩) d_g_add_85
        · have c2 := c2
          have hk1 : k < j := k_lt hxi hjs c2 (by omega)
          refine lv_lload_n hx hb d_g_add_32 rfl (lv_at hl 1 rfl) ?_
          refine lv_iload hx hb d_g_add_33 (lv_at hl 4 rfl) ?_
          refine ro_SN (v := .int (bz (f_x_contains zs xi))) (As := [.long zs, .int xi]) (rest := []) FX hK (c_x_contains l D cA zs xi) trivial kc_x_contains km_g_40 ki_x ks_x_contains rfl ok_x_contains ⟨Nat.le_of_ble_eq_true rfl, Nat.le_of_ble_eq_true rfl⟩ ⟨Nat.zero_le _, Nat.zero_le _⟩ hl.1 rfl (Nat.le_of_ble_eq_true rfl) d_g_add_35 ?_
          refine lv_if_eq (tgt := 53) hx hb d_g_add_38 (by decide) (fun c3 => ?_) (fun c3 => ?_)
          · have c3 := bz_f c3
            refine lv_iinc (v := xi + 1) (lv' := [(6, .int (xi + 1)), (0, .ref g), (1, .long zs), (3, .int sz), (4, .long ac)]) hx hb d_g_add_53 hl (k := 4) rfl rfl (by decide) rfl (fun ls hl => ?_)
            refine lv_goto (tgt := 26) hx hb d_g_add_56 (by decide) ?_
            rw [show (L_g_add_26 ps rs sz zs (n + 1) ac xi) = L_g_add_26 ps rs sz zs n ac (xi + 1) from (by rw [L_g_add_26_s, if_neg c2, if_neg c3])]
            exact ih (k + 1) ac (xi + 1) ls (by omega) (by omega) (by rw [hxi]; exact nI_1 _)  (lv_sub hl [1, 2, 3, 4, 0] rfl)
          · have c3 := bz_t c3
            refine lv_lload hx hb d_g_add_41 (lv_at hl 3 rfl) ?_
            refine lv_aload_n hx hb d_g_add_43 rfl (lv_at hl 0 rfl) ?_
            refine ro_get (v := .ref re) FX hK hP 0 1 rfl rfl rfl i_g (by decide) kf_g_15 d_g_add_44 ?_
            refine lv_iload hx hb d_g_add_47 (lv_at hl 4 rfl) ?_
            refine va_lald hx hb hK.1 hP 2 0 rfl rfl (vin hxi (Nat.lt_of_lt_of_le hk1 (by omega)) (by decide)) d_g_add_49 ?_
            refine lv_lor hx hb d_g_add_50 ?_
            refine lv_lstore (lv' := [(4, .long (ac ||| (rs xi.toNatClampNeg))), (0, .ref g), (1, .long zs), (3, .int sz), (6, .int xi)]) hx hb d_g_add_51 hl (by decide) rfl (fun ls hl => ?_)
            refine lv_iinc (v := xi + 1) (lv' := [(6, .int (xi + 1)), (4, .long (ac ||| (rs xi.toNatClampNeg))), (0, .ref g), (1, .long zs), (3, .int sz)]) hx hb d_g_add_53 hl (k := 4) rfl rfl (by decide) rfl (fun ls hl => ?_)
            refine lv_goto (tgt := 26) hx hb d_g_add_56 (by decide) ?_
            rw [show (L_g_add_26 ps rs sz zs (n + 1) ac xi) = L_g_add_26 ps rs sz zs n (ac ||| (rs xi.toNatClampNeg)) (xi + 1) from (by rw [L_g_add_26_s, if_neg c2, if_pos c3])]
            exact ih (k + 1) (ac ||| (rs xi.toNatClampNeg)) (xi + 1) ls (by omega) (by omega) (by rw [hxi]; exact nI_1 _)  (lv_sub hl [2, 3, 4, 1, 0] rfl)
    rw [show (f_g_add ps rs sz zs) = L_g_add_26 ps rs sz zs 41 (f_x_only sz) 0 from (by rw [f_g_add, if_pos c1])]
    exact loop 41 0 (f_x_only sz) 0 ls rfl (Nat.zero_le _) rfl  (lv_sub hl [3, 4, 2, 1, 0] rfl)
  · have c1 := bz_f c1
    refine lv_iconst (v := (-1)) hx hb d_g_add_10 (by decide) ?_
    exact mu_iret FX hS (by rw [show (f_g_add ps rs sz zs) = ((-1), ps, rs, sz) from (by rw [f_g_add, if_neg c1])]; exact ⟨rfl, hP, hD⟩) d_g_add_11
