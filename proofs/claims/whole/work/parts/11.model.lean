theorem d_m_in_0 : decode b_m_in 0 = .ok (.iload_n 0, 1) := by decide +kernel
theorem d_m_in_1 : decode b_m_in 1 = .ok (.iload_n 1, 1) := by decide +kernel
theorem d_m_in_2 : decode b_m_in 2 = .ok (.if_icmp .lt 12, 3) := by decide +kernel
theorem d_m_in_5 : decode b_m_in 5 = .ok (.iload_n 0, 1) := by decide +kernel
theorem d_m_in_6 : decode b_m_in 6 = .ok (.iload_n 2, 1) := by decide +kernel
theorem d_m_in_7 : decode b_m_in 7 = .ok (.if_icmp .gt 7, 3) := by decide +kernel
theorem d_m_in_10 : decode b_m_in 10 = .ok (.iconst 1, 1) := by decide +kernel
theorem d_m_in_11 : decode b_m_in 11 = .ok (.goto 4, 3) := by decide +kernel
theorem d_m_in_14 : decode b_m_in 14 = .ok (.iconst 0, 1) := by decide +kernel
theorem d_m_in_15 : decode b_m_in 15 = .ok (.ireturn, 1) := by decide +kernel
def f_m_in (nu : Int32) (lo : Int32) (hi : Int32) : Bool := if nu < lo then
    (false)
  else
    (if hi < nu then
      (false)
    else
      (true))
set_option maxHeartbeats 4000000 in
set_option maxRecDepth 100000 in
theorem c_m_in (l : Launch) (D : va_G) (cA : Nat → ClassId) (nu : Int32) (lo : Int32) (hi : Int32) : Met l y_m_in (.code y_m_in b_m_in 3 (some .boolean) :: tb) (rmd 0) (Pro D cA [.int nu, .int lo, .int hi] (fun _ => True)) (Qro (.int (bz (f_m_in nu lo hi)))) 0 0 nof := by
  refine ro_in (by decide) (Nat.le_of_ble_eq_true rfl) (fun p e s m below meth c ls FX hnm hK hP hl => ?_)
  have hl : lv_has ls 3 [(0, .int nu), (1, .int lo), (2, .int hi)] := hl
  generalize ([.int nu, .int lo, .int hi] : List Value).toArray = args at FX ⊢
  obtain ⟨hx, hb, hml, hown, hts, hr, hlk⟩ := id FX
  refine lv_iload_n hx hb d_m_in_0 rfl (lv_at hl 0 rfl) ?_
  refine lv_iload_n hx hb d_m_in_1 rfl (lv_at hl 1 rfl) ?_
  refine lv_icmp_lt (tgt := 14) hx hb d_m_in_2 (by decide) (fun c1 => ?_) (fun c1 => ?_)
  · have c1 := c1
    refine lv_iconst (v := 0) hx hb d_m_in_14 (by decide) ?_
    exact ro_zret FX (by rw [f_m_in, if_pos c1] <;> rfl) d_m_in_15
  · have c1 := c1
    refine lv_iload_n hx hb d_m_in_5 rfl (lv_at hl 0 rfl) ?_
    refine lv_iload_n hx hb d_m_in_6 rfl (lv_at hl 2 rfl) ?_
    refine lv_icmp_gt (tgt := 14) hx hb d_m_in_7 (by decide) (fun c2 => ?_) (fun c2 => ?_)
    · have c2 := c2
      refine lv_iconst (v := 0) hx hb d_m_in_14 (by decide) ?_
      exact ro_zret FX (by rw [f_m_in, if_neg c1, if_pos c2] <;> rfl) d_m_in_15
    · have c2 := c2
      refine lv_iconst (v := 1) hx hb d_m_in_10 (by decide) ?_
      refine lv_goto (tgt := 15) hx hb d_m_in_11 (by decide) ?_
      exact ro_zret FX (by rw [f_m_in, if_neg c1, if_neg c2] <;> rfl) d_m_in_15
theorem d_m_isChange_0 : decode b_m_isChange 0 = .ok (.iload_n 1, 1) := by decide +kernel
theorem d_m_isChange_1 : decode b_m_isChange 1 = .ok (.iconst 0, 1) := by decide +kernel
theorem d_m_isChange_2 : decode b_m_isChange 2 = .ok (.aload_n 0, 1) := by decide +kernel
theorem d_m_isChange_3 : decode b_m_isChange 3 = .ok (.getfield 53, 3) := by decide +kernel
theorem d_m_isChange_6 : decode b_m_isChange 6 = .ok (.iconst 1, 1) := by decide +kernel
theorem d_m_isChange_7 : decode b_m_isChange 7 = .ok (.isub, 1) := by decide +kernel
theorem d_m_isChange_8 : decode b_m_isChange 8 = .ok (.invokestatic 57, 3) := by decide +kernel
theorem d_m_isChange_11 : decode b_m_isChange 11 = .ok (.ireturn, 1) := by decide +kernel
def f_m_isChange (vc : Int32) (nu : Int32) : Bool := (f_m_in nu 0 (vc - 1))
set_option maxHeartbeats 4000000 in
set_option maxRecDepth 100000 in
theorem c_m_isChange (l : Launch) (D : va_G) (cA : Nat → ClassId) (mo qp qh qk qb qg qo qd qu qw qs qx qa qq qf : Nat) (vc : Int32) (vp : Nat → Int32) (vh : Nat → Bool) (vk : Nat → Bool) (vb : Nat → Bool) (vt : Int32) (vg : Nat → Bool) (vo : Nat → Bool) (vd : Nat → Int32) (vu : Nat → Int32) (vw : Nat → Int32) (vs : Nat → Int32) (vx : Nat → Int32) (va : Nat → Int32) (vq : Nat → Int32) (vf : Nat → Bool) (nu : Int32) : Met l y_m_isChange (.code y_m_isChange b_m_isChange 2 (some .boolean) :: tb) (rmd 1) (Pro D cA [.ref mo, .int nu] (va_P D classes [(mo, .inr (3, [.int vc, .ref qp, .ref qh, .ref qk, .ref qb, .int vt, .ref qg, .ref qo, .ref qd, .ref qu, .ref qw, .ref qs, .ref qx, .ref qa, .ref qq, .ref qf])), (qp, .inl (cA 2, 120, .inl vp)), (qh, .inl (cA 3, 1600, .inl (fun i => bz (vh i)))), (qk, .inl (cA 3, 40, .inl (fun i => bz (vk i)))), (qb, .inl (cA 3, 40, .inl (fun i => bz (vb i)))), (qg, .inl (cA 3, 160, .inl (fun i => bz (vg i)))), (qo, .inl (cA 3, 4, .inl (fun i => bz (vo i)))), (qd, .inl (cA 2, 4, .inl vd)), (qu, .inl (cA 2, 4, .inl vu)), (qw, .inl (cA 2, 4, .inl vw)), (qs, .inl (cA 2, 4, .inl vs)), (qx, .inl (cA 2, 4, .inl vx)), (qa, .inl (cA 2, 4, .inl va)), (qq, .inl (cA 2, 60, .inl vq)), (qf, .inl (cA 3, 60, .inl (fun i => bz (vf i))))])) (Qro (.int (bz (f_m_isChange vc nu)))) 0 0 nof := by
  refine ro_in (by decide) (Nat.le_of_ble_eq_true rfl) (fun p e s m below meth c ls FX hnm hK hP hl => ?_)
  have hl : lv_has ls 2 [(0, .ref mo), (1, .int nu)] := hl
  have hP : va_P D classes [(mo, .inr (3, [.int vc, .ref qp, .ref qh, .ref qk, .ref qb, .int vt, .ref qg, .ref qo, .ref qd, .ref qu, .ref qw, .ref qs, .ref qx, .ref qa, .ref qq, .ref qf])), (qp, .inl (cA 2, 120, .inl vp)), (qh, .inl (cA 3, 1600, .inl (fun i => bz (vh i)))), (qk, .inl (cA 3, 40, .inl (fun i => bz (vk i)))), (qb, .inl (cA 3, 40, .inl (fun i => bz (vb i)))), (qg, .inl (cA 3, 160, .inl (fun i => bz (vg i)))), (qo, .inl (cA 3, 4, .inl (fun i => bz (vo i)))), (qd, .inl (cA 2, 4, .inl vd)), (qu, .inl (cA 2, 4, .inl vu)), (qw, .inl (cA 2, 4, .inl vw)), (qs, .inl (cA 2, 4, .inl vs)), (qx, .inl (cA 2, 4, .inl vx)), (qa, .inl (cA 2, 4, .inl va)), (qq, .inl (cA 2, 60, .inl vq)), (qf, .inl (cA 3, 60, .inl (fun i => bz (vf i))))] s.heap := hP
  generalize ([.ref mo, .int nu] : List Value).toArray = args at FX ⊢
  obtain ⟨hx, hb, hml, hown, hts, hr, hlk⟩ := id FX
  refine lv_iload_n hx hb d_m_isChange_0 rfl (lv_at hl 1 rfl) ?_
  refine lv_iconst (v := 0) hx hb d_m_isChange_1 (by decide) ?_
  refine lv_aload_n hx hb d_m_isChange_2 rfl (lv_at hl 0 rfl) ?_
  refine ro_get (v := .int vc) FX hK hP 0 0 rfl rfl rfl i_m (by decide) kf_m_53 d_m_isChange_3 ?_
  refine lv_iconst (v := 1) hx hb d_m_isChange_6 (by decide) ?_
  refine lv_isub hx hb d_m_isChange_7 ?_
  refine ro_S (v := .int (bz (f_m_in nu 0 (vc - 1)))) (As := [.int nu, .int 0, .int (vc - 1)]) (rest := []) FX hK (c_m_in l D cA nu 0 (vc - 1)) trivial kc_m_in km_m_57 ki_m ks_m_in rfl ok_m_in ⟨Nat.le_of_ble_eq_true rfl, Nat.le_of_ble_eq_true rfl⟩ ⟨Nat.zero_le _, Nat.zero_le _⟩ hl.1 rfl (Nat.le_of_ble_eq_true rfl) d_m_isChange_8 ?_
  exact ro_zret FX (by rw [f_m_isChange] <;> rfl) d_m_isChange_11
theorem d_m_isTarget_0 : decode b_m_isTarget 0 = .ok (.iload_n 1, 1) := by decide +kernel
theorem d_m_isTarget_1 : decode b_m_isTarget 1 = .ok (.iconst 0, 1) := by decide +kernel
theorem d_m_isTarget_2 : decode b_m_isTarget 2 = .ok (.aload_n 0, 1) := by decide +kernel
theorem d_m_isTarget_3 : decode b_m_isTarget 3 = .ok (.getfield 61, 3) := by decide +kernel
theorem d_m_isTarget_6 : decode b_m_isTarget 6 = .ok (.iconst 1, 1) := by decide +kernel
theorem d_m_isTarget_7 : decode b_m_isTarget 7 = .ok (.isub, 1) := by decide +kernel
theorem d_m_isTarget_8 : decode b_m_isTarget 8 = .ok (.invokestatic 57, 3) := by decide +kernel
theorem d_m_isTarget_11 : decode b_m_isTarget 11 = .ok (.ireturn, 1) := by decide +kernel
def f_m_isTarget (vt : Int32) (nu : Int32) : Bool := (f_m_in nu 0 (vt - 1))
set_option maxHeartbeats 4000000 in
set_option maxRecDepth 100000 in
theorem c_m_isTarget (l : Launch) (D : va_G) (cA : Nat → ClassId) (mo qp qh qk qb qg qo qd qu qw qs qx qa qq qf : Nat) (vc : Int32) (vp : Nat → Int32) (vh : Nat → Bool) (vk : Nat → Bool) (vb : Nat → Bool) (vt : Int32) (vg : Nat → Bool) (vo : Nat → Bool) (vd : Nat → Int32) (vu : Nat → Int32) (vw : Nat → Int32) (vs : Nat → Int32) (vx : Nat → Int32) (va : Nat → Int32) (vq : Nat → Int32) (vf : Nat → Bool) (nu : Int32) : Met l y_m_isTarget (.code y_m_isTarget b_m_isTarget 2 (some .boolean) :: tb) (rmd 1) (Pro D cA [.ref mo, .int nu] (va_P D classes [(mo, .inr (3, [.int vc, .ref qp, .ref qh, .ref qk, .ref qb, .int vt, .ref qg, .ref qo, .ref qd, .ref qu, .ref qw, .ref qs, .ref qx, .ref qa, .ref qq, .ref qf])), (qp, .inl (cA 2, 120, .inl vp)), (qh, .inl (cA 3, 1600, .inl (fun i => bz (vh i)))), (qk, .inl (cA 3, 40, .inl (fun i => bz (vk i)))), (qb, .inl (cA 3, 40, .inl (fun i => bz (vb i)))), (qg, .inl (cA 3, 160, .inl (fun i => bz (vg i)))), (qo, .inl (cA 3, 4, .inl (fun i => bz (vo i)))), (qd, .inl (cA 2, 4, .inl vd)), (qu, .inl (cA 2, 4, .inl vu)), (qw, .inl (cA 2, 4, .inl vw)), (qs, .inl (cA 2, 4, .inl vs)), (qx, .inl (cA 2, 4, .inl vx)), (qa, .inl (cA 2, 4, .inl va)), (qq, .inl (cA 2, 60, .inl vq)), (qf, .inl (cA 3, 60, .inl (fun i => bz (vf i))))])) (Qro (.int (bz (f_m_isTarget vt nu)))) 0 0 nof := by
  refine ro_in (by decide) (Nat.le_of_ble_eq_true rfl) (fun p e s m below meth c ls FX hnm hK hP hl => ?_)
  have hl : lv_has ls 2 [(0, .ref mo), (1, .int nu)] := hl
  have hP : va_P D classes [(mo, .inr (3, [.int vc, .ref qp, .ref qh, .ref qk, .ref qb, .int vt, .ref qg, .ref qo, .ref qd, .ref qu, .ref qw, .ref qs, .ref qx, .ref qa, .ref qq, .ref qf])), (qp, .inl (cA 2, 120, .inl vp)), (qh, .inl (cA 3, 1600, .inl (fun i => bz (vh i)))), (qk, .inl (cA 3, 40, .inl (fun i => bz (vk i)))), (qb, .inl (cA 3, 40, .inl (fun i => bz (vb i)))), (qg, .inl (cA 3, 160, .inl (fun i => bz (vg i)))), (qo, .inl (cA 3, 4, .inl (fun i => bz (vo i)))), (qd, .inl (cA 2, 4, .inl vd)), (qu, .inl (cA 2, 4, .inl vu)), (qw, .inl (cA 2, 4, .inl vw)), (qs, .inl (cA 2, 4, .inl vs)), (qx, .inl (cA 2, 4, .inl vx)), (qa, .inl (cA 2, 4, .inl va)), (qq, .inl (cA 2, 60, .inl vq)), (qf, .inl (cA 3, 60, .inl (fun i => bz (vf i))))] s.heap := hP
  generalize ([.ref mo, .int nu] : List Value).toArray = args at FX ⊢
  obtain ⟨hx, hb, hml, hown, hts, hr, hlk⟩ := id FX
  refine lv_iload_n hx hb d_m_isTarget_0 rfl (lv_at hl 1 rfl) ?_
  refine lv_iconst (v := 0) hx hb d_m_isTarget_1 (by decide) ?_
  refine lv_aload_n hx hb d_m_isTarget_2 rfl (lv_at hl 0 rfl) ?_
  refine ro_get (v := .int vt) FX hK hP 0 5 rfl rfl rfl i_m (by decide) kf_m_61 d_m_isTarget_3 ?_
  refine lv_iconst (v := 1) hx hb d_m_isTarget_6 (by decide) ?_
  refine lv_isub hx hb d_m_isTarget_7 ?_
  refine ro_S (v := .int (bz (f_m_in nu 0 (vt - 1)))) (As := [.int nu, .int 0, .int (vt - 1)]) (rest := []) FX hK (c_m_in l D cA nu 0 (vt - 1)) trivial kc_m_in km_m_57 ki_m ks_m_in rfl ok_m_in ⟨Nat.le_of_ble_eq_true rfl, Nat.le_of_ble_eq_true rfl⟩ ⟨Nat.zero_le _, Nat.zero_le _⟩ hl.1 rfl (Nat.le_of_ble_eq_true rfl) d_m_isTarget_8 ?_
  exact ro_zret FX (by rw [f_m_isTarget] <;> rfl) d_m_isTarget_11
theorem ch_nI {vc nu : Int32} {cn : Nat} (hcn : cn ≤ 40) (hvc : vc = nI cn) (h : f_m_isChange vc nu = true) : ∃ j : Nat, j < cn ∧ nu = nI j := by
  unfold f_m_isChange f_m_in at h
  by_cases h0 : nu < 0
  · rw [if_pos h0] at h; cases h
  · rw [if_neg h0] at h
    by_cases h1 : vc - 1 < nu
    · rw [if_pos h1] at h; cases h
    · obtain ⟨j, hj, e⟩ := nI_of h0
      refine ⟨j, ?_, e⟩
      subst e; subst hvc
      have h2 : (nI cn - nI 1).toInt = (cn : Int) - (1 : Nat) := pk_sub_toInt (by omega) (by decide)
      have h3 : ¬ (nI cn - nI 1) < nI j := h1
      rw [Int32.lt_iff_toInt_lt, h2, nI_toInt hj] at h3
      omega
theorem ch_of {vc : Int32} {cn j : Nat} (hcn : cn ≤ 40) (hvc : vc = nI cn) (hj : j < cn) : f_m_isChange vc (nI j) = true := by
  unfold f_m_isChange f_m_in
  subst hvc
  rw [if_neg (nI_pos (by omega))]
  have h2 : (nI cn - nI 1).toInt = (cn : Int) - (1 : Nat) := pk_sub_toInt (by omega) (by decide)
  have h3 : ¬ (nI cn - 1) < nI j := by
    show ¬ (nI cn - nI 1) < nI j
    rw [Int32.lt_iff_toInt_lt, h2, nI_toInt (by omega)]
    omega
  rw [if_neg h3]
theorem tg_nI {vt nu : Int32} {tn : Nat} (htn : tn ≤ 4) (hvt : vt = nI tn) (h : f_m_isTarget vt nu = true) : ∃ j : Nat, j < tn ∧ nu = nI j := ch_nI (vc := vt) (by omega) hvt h
theorem tg_of {vt : Int32} {tn j : Nat} (htn : tn ≤ 4) (hvt : vt = nI tn) (hj : j < tn) : f_m_isTarget vt (nI j) = true := ch_of (vc := vt) (by omega) hvt hj
theorem d_m_isSearch_0 : decode b_m_isSearch 0 = .ok (.aload_n 0, 1) := by decide +kernel
theorem d_m_isSearch_1 : decode b_m_isSearch 1 = .ok (.iload_n 1, 1) := by decide +kernel
theorem d_m_isSearch_2 : decode b_m_isSearch 2 = .ok (.invokevirtual 64, 3) := by decide +kernel
theorem d_m_isSearch_5 : decode b_m_isSearch 5 = .ok (.ifCond .eq 16, 3) := by decide +kernel
theorem d_m_isSearch_8 : decode b_m_isSearch 8 = .ok (.aload_n 0, 1) := by decide +kernel
theorem d_m_isSearch_9 : decode b_m_isSearch 9 = .ok (.getfield 26, 3) := by decide +kernel
theorem d_m_isSearch_12 : decode b_m_isSearch 12 = .ok (.iload_n 1, 1) := by decide +kernel
theorem d_m_isSearch_13 : decode b_m_isSearch 13 = .ok (.baload, 1) := by decide +kernel
theorem d_m_isSearch_14 : decode b_m_isSearch 14 = .ok (.ifCond .eq 7, 3) := by decide +kernel
theorem d_m_isSearch_17 : decode b_m_isSearch 17 = .ok (.iconst 1, 1) := by decide +kernel
theorem d_m_isSearch_18 : decode b_m_isSearch 18 = .ok (.goto 4, 3) := by decide +kernel
theorem d_m_isSearch_21 : decode b_m_isSearch 21 = .ok (.iconst 0, 1) := by decide +kernel
theorem d_m_isSearch_22 : decode b_m_isSearch 22 = .ok (.ireturn, 1) := by decide +kernel
def f_m_isSearch (vt : Int32) (vo : Nat → Bool) (ta : Int32) : Bool := if (f_m_isTarget vt ta) = true then
    (if (vo ta.toNatClampNeg) = true then
      (true)
    else
      (false))
  else
    (false)
set_option maxHeartbeats 4000000 in
set_option maxRecDepth 100000 in
theorem c_m_isSearch (l : Launch) (D : va_G) (cA : Nat → ClassId) (mo qp qh qk qb qg qo qd qu qw qs qx qa qq qf : Nat) (vc : Int32) (vp : Nat → Int32) (vh : Nat → Bool) (vk : Nat → Bool) (vb : Nat → Bool) (vt : Int32) (vg : Nat → Bool) (vo : Nat → Bool) (vd : Nat → Int32) (vu : Nat → Int32) (vw : Nat → Int32) (vs : Nat → Int32) (vx : Nat → Int32) (va : Nat → Int32) (vq : Nat → Int32) (vf : Nat → Bool) (ta : Int32) (cn : Nat) (hcn : cn ≤ 40) (hvc : vc = nI cn) (tn : Nat) (htn : tn ≤ 4) (hvt : vt = nI tn) (hva : ∀ i, i < 4 → ∃ a, a ≤ 15 ∧ va i = nI a) : Met l y_m_isSearch (.code y_m_isSearch b_m_isSearch 2 (some .boolean) :: tb) (rmd 2) (Pro D cA [.ref mo, .int ta] (va_P D classes [(mo, .inr (3, [.int vc, .ref qp, .ref qh, .ref qk, .ref qb, .int vt, .ref qg, .ref qo, .ref qd, .ref qu, .ref qw, .ref qs, .ref qx, .ref qa, .ref qq, .ref qf])), (qp, .inl (cA 2, 120, .inl vp)), (qh, .inl (cA 3, 1600, .inl (fun i => bz (vh i)))), (qk, .inl (cA 3, 40, .inl (fun i => bz (vk i)))), (qb, .inl (cA 3, 40, .inl (fun i => bz (vb i)))), (qg, .inl (cA 3, 160, .inl (fun i => bz (vg i)))), (qo, .inl (cA 3, 4, .inl (fun i => bz (vo i)))), (qd, .inl (cA 2, 4, .inl vd)), (qu, .inl (cA 2, 4, .inl vu)), (qw, .inl (cA 2, 4, .inl vw)), (qs, .inl (cA 2, 4, .inl vs)), (qx, .inl (cA 2, 4, .inl vx)), (qa, .inl (cA 2, 4, .inl va)), (qq, .inl (cA 2, 60, .inl vq)), (qf, .inl (cA 3, 60, .inl (fun i => bz (vf i))))])) (Qro (.int (bz (f_m_isSearch vt vo ta)))) 0 0 nof := by
  refine ro_in (by decide) (Nat.le_of_ble_eq_true rfl) (fun p e s m below meth c ls FX hnm hK hP hl => ?_)
  have hl : lv_has ls 2 [(0, .ref mo), (1, .int ta)] := hl
  have hP : va_P D classes [(mo, .inr (3, [.int vc, .ref qp, .ref qh, .ref qk, .ref qb, .int vt, .ref qg, .ref qo, .ref qd, .ref qu, .ref qw, .ref qs, .ref qx, .ref qa, .ref qq, .ref qf])), (qp, .inl (cA 2, 120, .inl vp)), (qh, .inl (cA 3, 1600, .inl (fun i => bz (vh i)))), (qk, .inl (cA 3, 40, .inl (fun i => bz (vk i)))), (qb, .inl (cA 3, 40, .inl (fun i => bz (vb i)))), (qg, .inl (cA 3, 160, .inl (fun i => bz (vg i)))), (qo, .inl (cA 3, 4, .inl (fun i => bz (vo i)))), (qd, .inl (cA 2, 4, .inl vd)), (qu, .inl (cA 2, 4, .inl vu)), (qw, .inl (cA 2, 4, .inl vw)), (qs, .inl (cA 2, 4, .inl vs)), (qx, .inl (cA 2, 4, .inl vx)), (qa, .inl (cA 2, 4, .inl va)), (qq, .inl (cA 2, 60, .inl vq)), (qf, .inl (cA 3, 60, .inl (fun i => bz (vf i))))] s.heap := hP
  generalize ([.ref mo, .int ta] : List Value).toArray = args at FX ⊢
  obtain ⟨hx, hb, hml, hown, hts, hr, hlk⟩ := id FX
  refine lv_aload_n hx hb d_m_isSearch_0 rfl (lv_at hl 0 rfl) ?_
  refine lv_iload_n hx hb d_m_isSearch_1 rfl (lv_at hl 1 rfl) ?_
  refine ro_V (v := .int (bz (f_m_isTarget vt ta))) (As := [.int ta]) (rest := []) (q0 := 0) FX hK (c_m_isTarget l D cA mo qp qh qk qb qg qo qd qu qw qs qx qa qq qf vc vp vh vk vb vt vg vo vd vu vw vs vx va vq vf ta) hP hP rfl rfl rfl kc_m_isTarget km_m_64 ki_m ks_m_isTarget ke_m_isTarget rfl ok_m_isTarget ⟨Nat.le_of_ble_eq_true rfl, Nat.le_of_ble_eq_true rfl⟩ ⟨Nat.zero_le _, Nat.zero_le _⟩ hl.1 rfl (Nat.le_of_ble_eq_true rfl) d_m_isSearch_2 ?_
  refine lv_if_eq (tgt := 21) hx hb d_m_isSearch_5 (by decide) (fun c1 => ?_) (fun c1 => ?_)
  · have c1 := bz_f c1
    refine lv_iconst (v := 0) hx hb d_m_isSearch_21 (by decide) ?_
    exact ro_zret FX (by rw [f_m_isSearch, if_neg c1] <;> rfl) d_m_isSearch_22
  · have c1 := bz_t c1
    obtain ⟨tj, htj, htt⟩ := tg_nI htn hvt c1
    refine lv_aload_n hx hb d_m_isSearch_8 rfl (lv_at hl 0 rfl) ?_
    refine ro_get (v := .ref qo) FX hK hP 0 7 rfl rfl rfl i_m (by decide) kf_m_26 d_m_isSearch_9 ?_
    refine lv_iload_n hx hb d_m_isSearch_12 rfl (lv_at hl 1 rfl) ?_
    refine va_zald hx hb hK.1 hP 6 3 rfl rfl (vin htt (by omega) (by decide)) d_m_isSearch_13 ?_
    refine W.eq (g2 := F0 m 14 ls [.int (bz (vo ta.toNatClampNeg))]) rfl ?_
    refine lv_if_eq (tgt := 21) hx hb d_m_isSearch_14 (by decide) (fun c2 => ?_) (fun c2 => ?_)
    · have c2 := bz_f c2
      refine lv_iconst (v := 0) hx hb d_m_isSearch_21 (by decide) ?_
      exact ro_zret FX (by rw [f_m_isSearch, if_pos c1, if_neg c2] <;> rfl) d_m_isSearch_22
    · have c2 := bz_t c2
      refine lv_iconst (v := 1) hx hb d_m_isSearch_17 (by decide) ?_
      refine lv_goto (tgt := 22) hx hb d_m_isSearch_18 (by decide) ?_
      exact ro_zret FX (by rw [f_m_isSearch, if_pos c1, if_pos c2] <;> rfl) d_m_isSearch_22
theorem se_tg {vt : Int32} {vo : Nat → Bool} {nu : Int32} (h : f_m_isSearch vt vo nu = true) : f_m_isTarget vt nu = true := by
  unfold f_m_isSearch at h
  by_cases h0 : f_m_isTarget vt nu = true
  · exact h0
  · rw [if_neg h0] at h; cases h
theorem d_m_comes_0 : decode b_m_comes 0 = .ok (.iload_n 1, 1) := by decide +kernel
theorem d_m_comes_1 : decode b_m_comes 1 = .ok (.iconst (-1), 1) := by decide +kernel
theorem d_m_comes_2 : decode b_m_comes 2 = .ok (.if_icmp .eq 21, 3) := by decide +kernel
theorem d_m_comes_5 : decode b_m_comes 5 = .ok (.aload_n 0, 1) := by decide +kernel
theorem d_m_comes_6 : decode b_m_comes 6 = .ok (.getfield 13, 3) := by decide +kernel
theorem d_m_comes_9 : decode b_m_comes 9 = .ok (.bipush 40, 2) := by decide +kernel
theorem d_m_comes_11 : decode b_m_comes 11 = .ok (.iload_n 1, 1) := by decide +kernel
theorem d_m_comes_12 : decode b_m_comes 12 = .ok (.imul, 1) := by decide +kernel
theorem d_m_comes_13 : decode b_m_comes 13 = .ok (.iload_n 2, 1) := by decide +kernel
theorem d_m_comes_14 : decode b_m_comes 14 = .ok (.iadd, 1) := by decide +kernel
theorem d_m_comes_15 : decode b_m_comes 15 = .ok (.baload, 1) := by decide +kernel
theorem d_m_comes_16 : decode b_m_comes 16 = .ok (.ifCond .eq 7, 3) := by decide +kernel
theorem d_m_comes_19 : decode b_m_comes 19 = .ok (.iconst 1, 1) := by decide +kernel
theorem d_m_comes_20 : decode b_m_comes 20 = .ok (.goto 4, 3) := by decide +kernel
theorem d_m_comes_23 : decode b_m_comes 23 = .ok (.iconst 0, 1) := by decide +kernel
theorem d_m_comes_24 : decode b_m_comes 24 = .ok (.ireturn, 1) := by decide +kernel
def f_m_comes (vh : Nat → Bool) (zr : Int32) (ot : Int32) : Bool := if zr = (-1) then
    (false)
  else
    (if (vh ((40 * zr) + ot).toNatClampNeg) = true then
      (true)
    else
      (false))
set_option maxHeartbeats 4000000 in
set_option maxRecDepth 100000 in
theorem c_m_comes (l : Launch) (D : va_G) (cA : Nat → ClassId) (mo qp qh qk qb qg qo qd qu qw qs qx qa qq qf : Nat) (vc : Int32) (vp : Nat → Int32) (vh : Nat → Bool) (vk : Nat → Bool) (vb : Nat → Bool) (vt : Int32) (vg : Nat → Bool) (vo : Nat → Bool) (vd : Nat → Int32) (vu : Nat → Int32) (vw : Nat → Int32) (vs : Nat → Int32) (vx : Nat → Int32) (va : Nat → Int32) (vq : Nat → Int32) (vf : Nat → Bool) (zr : Int32) (ot : Int32) (hpar : zr = (-1) ∨ ∃ a, a < 40 ∧ zr = nI a) (ob : Nat) (hob : ob < 40) (hoe : ot = nI ob) : Met l y_m_comes (.code y_m_comes b_m_comes 3 (some .boolean) :: tb) (rmd 0) (Pro D cA [.ref mo, .int zr, .int ot] (va_P D classes [(mo, .inr (3, [.int vc, .ref qp, .ref qh, .ref qk, .ref qb, .int vt, .ref qg, .ref qo, .ref qd, .ref qu, .ref qw, .ref qs, .ref qx, .ref qa, .ref qq, .ref qf])), (qp, .inl (cA 2, 120, .inl vp)), (qh, .inl (cA 3, 1600, .inl (fun i => bz (vh i)))), (qk, .inl (cA 3, 40, .inl (fun i => bz (vk i)))), (qb, .inl (cA 3, 40, .inl (fun i => bz (vb i)))), (qg, .inl (cA 3, 160, .inl (fun i => bz (vg i)))), (qo, .inl (cA 3, 4, .inl (fun i => bz (vo i)))), (qd, .inl (cA 2, 4, .inl vd)), (qu, .inl (cA 2, 4, .inl vu)), (qw, .inl (cA 2, 4, .inl vw)), (qs, .inl (cA 2, 4, .inl vs)), (qx, .inl (cA 2, 4, .inl vx)), (qa, .inl (cA 2, 4, .inl va)), (qq, .inl (cA 2, 60, .inl vq)), (qf, .inl (cA 3, 60, .inl (fun i => bz (vf i))))])) (Qro (.int (bz (f_m_comes vh zr ot)))) 0 0 nof := by
  refine ro_in (by decide) (Nat.le_of_ble_eq_true rfl) (fun p e s m below meth c ls FX hnm hK hP hl => ?_)
  have hl : lv_has ls 3 [(0, .ref mo), (1, .int zr), (2, .int ot)] := hl
  have hP : va_P D classes [(mo, .inr (3, [.int vc, .ref qp, .ref qh, .ref qk, .ref qb, .int vt, .ref qg, .ref qo, .ref qd, .ref qu, .ref qw, .ref qs, .ref qx, .ref qa, .ref qq, .ref qf])), (qp, .inl (cA 2, 120, .inl vp)), (qh, .inl (cA 3, 1600, .inl (fun i => bz (vh i)))), (qk, .inl (cA 3, 40, .inl (fun i => bz (vk i)))), (qb, .inl (cA 3, 40, .inl (fun i => bz (vb i)))), (qg, .inl (cA 3, 160, .inl (fun i => bz (vg i)))), (qo, .inl (cA 3, 4, .inl (fun i => bz (vo i)))), (qd, .inl (cA 2, 4, .inl vd)), (qu, .inl (cA 2, 4, .inl vu)), (qw, .inl (cA 2, 4, .inl vw)), (qs, .inl (cA 2, 4, .inl vs)), (qx, .inl (cA 2, 4, .inl vx)), (qa, .inl (cA 2, 4, .inl va)), (qq, .inl (cA 2, 60, .inl vq)), (qf, .inl (cA 3, 60, .inl (fun i => bz (vf i))))] s.heap := hP
  generalize ([.ref mo, .int zr, .int ot] : List Value).toArray = args at FX ⊢
  obtain ⟨hx, hb, hml, hown, hts, hr, hlk⟩ := id FX
  refine lv_iload_n hx hb d_m_comes_0 rfl (lv_at hl 1 rfl) ?_
  refine lv_iconst (v := (-1)) hx hb d_m_comes_1 (by decide) ?_
  refine lv_icmp_eq (tgt := 23) hx hb d_m_comes_2 (by decide) (fun c1 => ?_) (fun c1 => ?_)
  · have c1 := c1
    refine lv_iconst (v := 0) hx hb d_m_comes_23 (by decide) ?_
    exact ro_zret FX (by rw [f_m_comes, if_pos c1] <;> rfl) d_m_comes_24
  · have c1 := c1
    obtain ⟨a1, ha1, e1⟩ := hpar.resolve_left c1
    refine lv_aload_n hx hb d_m_comes_5 rfl (lv_at hl 0 rfl) ?_
    refine ro_get (v := .ref qh) FX hK hP 0 2 rfl rfl rfl i_m (by decide) kf_m_13 d_m_comes_6 ?_
    refine lv_bipush (v := 40) hx hb d_m_comes_9 (by decide) ?_
    refine lv_iload_n hx hb d_m_comes_11 rfl (lv_at hl 1 rfl) ?_
    refine lv_imul hx hb d_m_comes_12 ?_
    refine lv_iload_n hx hb d_m_comes_13 rfl (lv_at hl 2 rfl) ?_
    refine lv_iadd hx hb d_m_comes_14 ?_
    refine va_zald hx hb hK.1 hP 2 3 rfl rfl (vlin 40 1600 e1 hoe (by omega) (by decide)) d_m_comes_15 ?_
    refine W.eq (g2 := F0 m 16 ls [.int (bz (vh ((40 * zr) + ot).toNatClampNeg))]) rfl ?_
    refine lv_if_eq (tgt := 23) hx hb d_m_comes_16 (by decide) (fun c2 => ?_) (fun c2 => ?_)
    · have c2 := bz_f c2
      refine lv_iconst (v := 0) hx hb d_m_comes_23 (by decide) ?_
      exact ro_zret FX (by rw [f_m_comes, if_neg c1, if_neg c2] <;> rfl) d_m_comes_24
    · have c2 := bz_t c2
      refine lv_iconst (v := 1) hx hb d_m_comes_19 (by decide) ?_
      refine lv_goto (tgt := 24) hx hb d_m_comes_20 (by decide) ?_
      exact ro_zret FX (by rw [f_m_comes, if_neg c1, if_pos c2] <;> rfl) d_m_comes_24
theorem d_m_has_0 : decode b_m_has 0 = .ok (.aload_n 0, 1) := by decide +kernel
theorem d_m_has_1 : decode b_m_has 1 = .ok (.iload_n 1, 1) := by decide +kernel
theorem d_m_has_2 : decode b_m_has 2 = .ok (.invokevirtual 68, 3) := by decide +kernel
theorem d_m_has_5 : decode b_m_has 5 = .ok (.ifCond .eq 29, 3) := by decide +kernel
theorem d_m_has_8 : decode b_m_has 8 = .ok (.aload_n 0, 1) := by decide +kernel
theorem d_m_has_9 : decode b_m_has 9 = .ok (.iload_n 2, 1) := by decide +kernel
theorem d_m_has_10 : decode b_m_has 10 = .ok (.invokevirtual 68, 3) := by decide +kernel
theorem d_m_has_13 : decode b_m_has 13 = .ok (.ifCond .eq 21, 3) := by decide +kernel
theorem d_m_has_16 : decode b_m_has 16 = .ok (.aload_n 0, 1) := by decide +kernel
theorem d_m_has_17 : decode b_m_has 17 = .ok (.getfield 13, 3) := by decide +kernel
theorem d_m_has_20 : decode b_m_has 20 = .ok (.bipush 40, 2) := by decide +kernel
theorem d_m_has_22 : decode b_m_has 22 = .ok (.iload_n 1, 1) := by decide +kernel
theorem d_m_has_23 : decode b_m_has 23 = .ok (.imul, 1) := by decide +kernel
theorem d_m_has_24 : decode b_m_has 24 = .ok (.iload_n 2, 1) := by decide +kernel
theorem d_m_has_25 : decode b_m_has 25 = .ok (.iadd, 1) := by decide +kernel
theorem d_m_has_26 : decode b_m_has 26 = .ok (.baload, 1) := by decide +kernel
theorem d_m_has_27 : decode b_m_has 27 = .ok (.ifCond .eq 7, 3) := by decide +kernel
theorem d_m_has_30 : decode b_m_has 30 = .ok (.iconst 1, 1) := by decide +kernel
theorem d_m_has_31 : decode b_m_has 31 = .ok (.goto 4, 3) := by decide +kernel
theorem d_m_has_34 : decode b_m_has 34 = .ok (.iconst 0, 1) := by decide +kernel
theorem d_m_has_35 : decode b_m_has 35 = .ok (.ireturn, 1) := by decide +kernel
def f_m_has (vc : Int32) (vh : Nat → Bool) (ch : Int32) (ot : Int32) : Bool := if (f_m_isChange vc ch) = true then
    (if (f_m_isChange vc ot) = true then
      (if (vh ((40 * ch) + ot).toNatClampNeg) = true then
        (true)
      else
        (false))
    else
      (false))
  else
    (false)
set_option maxHeartbeats 4000000 in
set_option maxRecDepth 100000 in
theorem c_m_has (l : Launch) (D : va_G) (cA : Nat → ClassId) (mo qp qh qk qb qg qo qd qu qw qs qx qa qq qf : Nat) (vc : Int32) (vp : Nat → Int32) (vh : Nat → Bool) (vk : Nat → Bool) (vb : Nat → Bool) (vt : Int32) (vg : Nat → Bool) (vo : Nat → Bool) (vd : Nat → Int32) (vu : Nat → Int32) (vw : Nat → Int32) (vs : Nat → Int32) (vx : Nat → Int32) (va : Nat → Int32) (vq : Nat → Int32) (vf : Nat → Bool) (ch : Int32) (ot : Int32) (cn : Nat) (hcn : cn ≤ 40) (hvc : vc = nI cn) : Met l y_m_has (.code y_m_has b_m_has 3 (some .boolean) :: tb) (rmd 2) (Pro D cA [.ref mo, .int ch, .int ot] (va_P D classes [(mo, .inr (3, [.int vc, .ref qp, .ref qh, .ref qk, .ref qb, .int vt, .ref qg, .ref qo, .ref qd, .ref qu, .ref qw, .ref qs, .ref qx, .ref qa, .ref qq, .ref qf])), (qp, .inl (cA 2, 120, .inl vp)), (qh, .inl (cA 3, 1600, .inl (fun i => bz (vh i)))), (qk, .inl (cA 3, 40, .inl (fun i => bz (vk i)))), (qb, .inl (cA 3, 40, .inl (fun i => bz (vb i)))), (qg, .inl (cA 3, 160, .inl (fun i => bz (vg i)))), (qo, .inl (cA 3, 4, .inl (fun i => bz (vo i)))), (qd, .inl (cA 2, 4, .inl vd)), (qu, .inl (cA 2, 4, .inl vu)), (qw, .inl (cA 2, 4, .inl vw)), (qs, .inl (cA 2, 4, .inl vs)), (qx, .inl (cA 2, 4, .inl vx)), (qa, .inl (cA 2, 4, .inl va)), (qq, .inl (cA 2, 60, .inl vq)), (qf, .inl (cA 3, 60, .inl (fun i => bz (vf i))))])) (Qro (.int (bz (f_m_has vc vh ch ot)))) 0 0 nof := by
  refine ro_in (by decide) (Nat.le_of_ble_eq_true rfl) (fun p e s m below meth c ls FX hnm hK hP hl => ?_)
  have hl : lv_has ls 3 [(0, .ref mo), (1, .int ch), (2, .int ot)] := hl
  have hP : va_P D classes [(mo, .inr (3, [.int vc, .ref qp, .ref qh, .ref qk, .ref qb, .int vt, .ref qg, .ref qo, .ref qd, .ref qu, .ref qw, .ref qs, .ref qx, .ref qa, .ref qq, .ref qf])), (qp, .inl (cA 2, 120, .inl vp)), (qh, .inl (cA 3, 1600, .inl (fun i => bz (vh i)))), (qk, .inl (cA 3, 40, .inl (fun i => bz (vk i)))), (qb, .inl (cA 3, 40, .inl (fun i => bz (vb i)))), (qg, .inl (cA 3, 160, .inl (fun i => bz (vg i)))), (qo, .inl (cA 3, 4, .inl (fun i => bz (vo i)))), (qd, .inl (cA 2, 4, .inl vd)), (qu, .inl (cA 2, 4, .inl vu)), (qw, .inl (cA 2, 4, .inl vw)), (qs, .inl (cA 2, 4, .inl vs)), (qx, .inl (cA 2, 4, .inl vx)), (qa, .inl (cA 2, 4, .inl va)), (qq, .inl (cA 2, 60, .inl vq)), (qf, .inl (cA 3, 60, .inl (fun i => bz (vf i))))] s.heap := hP
  generalize ([.ref mo, .int ch, .int ot] : List Value).toArray = args at FX ⊢
  obtain ⟨hx, hb, hml, hown, hts, hr, hlk⟩ := id FX
  refine lv_aload_n hx hb d_m_has_0 rfl (lv_at hl 0 rfl) ?_
  refine lv_iload_n hx hb d_m_has_1 rfl (lv_at hl 1 rfl) ?_
  refine ro_V (v := .int (bz (f_m_isChange vc ch))) (As := [.int ch]) (rest := []) (q0 := 0) FX hK (c_m_isChange l D cA mo qp qh qk qb qg qo qd qu qw qs qx qa qq qf vc vp vh vk vb vt vg vo vd vu vw vs vx va vq vf ch) hP hP rfl rfl rfl kc_m_isChange km_m_68 ki_m ks_m_isChange ke_m_isChange rfl ok_m_isChange ⟨Nat.le_of_ble_eq_true rfl, Nat.le_of_ble_eq_true rfl⟩ ⟨Nat.zero_le _, Nat.zero_le _⟩ hl.1 rfl (Nat.le_of_ble_eq_true rfl) d_m_has_2 ?_
  refine lv_if_eq (tgt := 34) hx hb d_m_has_5 (by decide) (fun c1 => ?_) (fun c1 => ?_)
  · have c1 := bz_f c1
    refine lv_iconst (v := 0) hx hb d_m_has_34 (by decide) ?_
    exact ro_zret FX (by rw [f_m_has, if_neg c1] <;> rfl) d_m_has_35
  · have c1 := bz_t c1
    obtain ⟨a1, ha1, e1⟩ := ch_nI hcn hvc c1
    refine lv_aload_n hx hb d_m_has_8 rfl (lv_at hl 0 rfl) ?_
    refine lv_iload_n hx hb d_m_has_9 rfl (lv_at hl 2 rfl) ?_
    refine ro_V (v := .int (bz (f_m_isChange vc ot))) (As := [.int ot]) (rest := []) (q0 := 0) FX hK (c_m_isChange l D cA mo qp qh qk qb qg qo qd qu qw qs qx qa qq qf vc vp vh vk vb vt vg vo vd vu vw vs vx va vq vf ot) hP hP rfl rfl rfl kc_m_isChange km_m_68 ki_m ks_m_isChange ke_m_isChange rfl ok_m_isChange ⟨Nat.le_of_ble_eq_true rfl, Nat.le_of_ble_eq_true rfl⟩ ⟨Nat.zero_le _, Nat.zero_le _⟩ hl.1 rfl (Nat.le_of_ble_eq_true rfl) d_m_has_10 ?_
    refine lv_if_eq (tgt := 34) hx hb d_m_has_13 (by decide) (fun c2 => ?_) (fun c2 => ?_)
    · have c2 := bz_f c2
      refine lv_iconst (v := 0) hx hb d_m_has_34 (by decide) ?_
      exact ro_zret FX (by rw [f_m_has, if_pos c1, if_neg c2] <;> rfl) d_m_has_35
    · have c2 := bz_t c2
      obtain ⟨a2, ha2, e2⟩ := ch_nI hcn hvc c2
      refine lv_aload_n hx hb d_m_has_16 rfl (lv_at hl 0 rfl) ?_
      refine ro_get (v := .ref qh) FX hK hP 0 2 rfl rfl rfl i_m (by decide) kf_m_13 d_m_has_17 ?_
      refine lv_bipush (v := 40) hx hb d_m_has_20 (by decide) ?_
      refine lv_iload_n hx hb d_m_has_22 rfl (lv_at hl 1 rfl) ?_
      refine lv_imul hx hb d_m_has_23 ?_
      refine lv_iload_n hx hb d_m_has_24 rfl (lv_at hl 2 rfl) ?_
      refine lv_iadd hx hb d_m_has_25 ?_
      refine va_zald hx hb hK.1 hP 2 3 rfl rfl (vlin 40 1600 e1 e2 (by omega) (by decide)) d_m_has_26 ?_
      refine W.eq (g2 := F0 m 27 ls [.int (bz (vh ((40 * ch) + ot).toNatClampNeg))]) rfl ?_
      refine lv_if_eq (tgt := 34) hx hb d_m_has_27 (by decide) (fun c3 => ?_) (fun c3 => ?_)
      · have c3 := bz_f c3
        refine lv_iconst (v := 0) hx hb d_m_has_34 (by decide) ?_
        exact ro_zret FX (by rw [f_m_has, if_pos c1, if_pos c2, if_neg c3] <;> rfl) d_m_has_35
      · have c3 := bz_t c3
        refine lv_iconst (v := 1) hx hb d_m_has_30 (by decide) ?_
        refine lv_goto (tgt := 35) hx hb d_m_has_31 (by decide) ?_
        exact ro_zret FX (by rw [f_m_has, if_pos c1, if_pos c2, if_pos c3] <;> rfl) d_m_has_35
theorem d_m_isGood_0 : decode b_m_isGood 0 = .ok (.iconst 0, 1) := by decide +kernel
theorem d_m_isGood_1 : decode b_m_isGood 1 = .ok (.istore_n 3, 1) := by decide +kernel
theorem d_m_isGood_2 : decode b_m_isGood 2 = .ok (.iload_n 3, 1) := by decide +kernel
theorem d_m_isGood_3 : decode b_m_isGood 3 = .ok (.aload_n 0, 1) := by decide +kernel
theorem d_m_isGood_4 : decode b_m_isGood 4 = .ok (.getfield 53, 3) := by decide +kernel
theorem d_m_isGood_7 : decode b_m_isGood 7 = .ok (.if_icmp .ge 34, 3) := by decide +kernel
theorem d_m_isGood_10 : decode b_m_isGood 10 = .ok (.aload_n 0, 1) := by decide +kernel
theorem d_m_isGood_11 : decode b_m_isGood 11 = .ok (.getfield 23, 3) := by decide +kernel
theorem d_m_isGood_14 : decode b_m_isGood 14 = .ok (.bipush 40, 2) := by decide +kernel
theorem d_m_isGood_16 : decode b_m_isGood 16 = .ok (.iload_n 1, 1) := by decide +kernel
theorem d_m_isGood_17 : decode b_m_isGood 17 = .ok (.imul, 1) := by decide +kernel
theorem d_m_isGood_18 : decode b_m_isGood 18 = .ok (.iload_n 3, 1) := by decide +kernel
theorem d_m_isGood_19 : decode b_m_isGood 19 = .ok (.iadd, 1) := by decide +kernel
theorem d_m_isGood_20 : decode b_m_isGood 20 = .ok (.baload, 1) := by decide +kernel
theorem d_m_isGood_21 : decode b_m_isGood 21 = .ok (.ifCond .eq 14, 3) := by decide +kernel
theorem d_m_isGood_24 : decode b_m_isGood 24 = .ok (.aload_n 0, 1) := by decide +kernel
theorem d_m_isGood_25 : decode b_m_isGood 25 = .ok (.iload_n 3, 1) := by decide +kernel
theorem d_m_isGood_26 : decode b_m_isGood 26 = .ok (.iload_n 2, 1) := by decide +kernel
theorem d_m_isGood_27 : decode b_m_isGood 27 = .ok (.invokevirtual 75, 3) := by decide +kernel
theorem d_m_isGood_30 : decode b_m_isGood 30 = .ok (.ifCond .eq 5, 3) := by decide +kernel
theorem d_m_isGood_33 : decode b_m_isGood 33 = .ok (.iconst 1, 1) := by decide +kernel
theorem d_m_isGood_34 : decode b_m_isGood 34 = .ok (.ireturn, 1) := by decide +kernel
theorem d_m_isGood_35 : decode b_m_isGood 35 = .ok (.iinc 3 1, 3) := by decide +kernel
theorem d_m_isGood_38 : decode b_m_isGood 38 = .ok (.goto (-36), 3) := by decide +kernel
theorem d_m_isGood_41 : decode b_m_isGood 41 = .ok (.iconst 0, 1) := by decide +kernel
theorem d_m_isGood_42 : decode b_m_isGood 42 = .ok (.ireturn, 1) := by decide +kernel
def L_m_isGood_2 (vc : Int32) (vh : Nat → Bool) (vg : Nat → Bool) (ta : Int32) (ot : Int32) : Nat → Int32 → Bool
  | 0, _ => false
  | n + 1, xi => if vc ≤ xi then
    (false)
  else
    (if (vg ((40 * ta) + xi).toNatClampNeg) = true then
      (if (f_m_has vc vh xi ot) = true then
        (true)
      else
        (L_m_isGood_2 vc vh vg ta ot n (xi + 1)))
    else
      (L_m_isGood_2 vc vh vg ta ot n (xi + 1)))
theorem L_m_isGood_2_s (vc : Int32) (vh : Nat → Bool) (vg : Nat → Bool) (ta : Int32) (ot : Int32) (n : Nat) (xi : Int32) : L_m_isGood_2 vc vh vg ta ot (n + 1) xi = if vc ≤ xi then
    (false)
  else
    (if (vg ((40 * ta) + xi).toNatClampNeg) = true then
      (if (f_m_has vc vh xi ot) = true then
        (true)
      else
        (L_m_isGood_2 vc vh vg ta ot n (xi + 1)))
    else
      (L_m_isGood_2 vc vh vg ta ot n (xi + 1))) := rfl
def f_m_isGood (vc : Int32) (vh : Nat → Bool) (vg : Nat → Bool) (ta : Int32) (ot : Int32) : Bool := L_m_isGood_2 vc vh vg ta ot 41 0
set_option maxHeartbeats 4000000 in
set_option maxRecDepth 100000 in
theorem c_m_isGood (l : Launch) (D : va_G) (cA : Nat → ClassId) (mo qp qh qk qb qg qo qd qu qw qs qx qa qq qf : Nat) (vc : Int32) (vp : Nat → Int32) (vh : Nat → Bool) (vk : Nat → Bool) (vb : Nat → Bool) (vt : Int32) (vg : Nat → Bool) (vo : Nat → Bool) (vd : Nat → Int32) (vu : Nat → Int32) (vw : Nat → Int32) (vs : Nat → Int32) (vx : Nat → Int32) (va : Nat → Int32) (vq : Nat → Int32) (vf : Nat → Bool) (ta : Int32) (ot : Int32) (cn : Nat) (hcn : cn ≤ 40) (hvc : vc = nI cn) (tj : Nat) (htj : tj < 4) (htt : ta = nI tj) : Met l y_m_isGood (.code y_m_isGood b_m_isGood 4 (some .boolean) :: tb) (rmd 3) (Pro D cA [.ref mo, .int ta, .int ot] (va_P D classes [(mo, .inr (3, [.int vc, .ref qp, .ref qh, .ref qk, .ref qb, .int vt, .ref qg, .ref qo, .ref qd, .ref qu, .ref qw, .ref qs, .ref qx, .ref qa, .ref qq, .ref qf])), (qp, .inl (cA 2, 120, .inl vp)), (qh, .inl (cA 3, 1600, .inl (fun i => bz (vh i)))), (qk, .inl (cA 3, 40, .inl (fun i => bz (vk i)))), (qb, .inl (cA 3, 40, .inl (fun i => bz (vb i)))), (qg, .inl (cA 3, 160, .inl (fun i => bz (vg i)))), (qo, .inl (cA 3, 4, .inl (fun i => bz (vo i)))), (qd, .inl (cA 2, 4, .inl vd)), (qu, .inl (cA 2, 4, .inl vu)), (qw, .inl (cA 2, 4, .inl vw)), (qs, .inl (cA 2, 4, .inl vs)), (qx, .inl (cA 2, 4, .inl vx)), (qa, .inl (cA 2, 4, .inl va)), (qq, .inl (cA 2, 60, .inl vq)), (qf, .inl (cA 3, 60, .inl (fun i => bz (vf i))))])) (Qro (.int (bz (f_m_isGood vc vh vg ta ot)))) 0 0 nof := by
  refine ro_in (by decide) (Nat.le_of_ble_eq_true rfl) (fun p e s m below meth c ls FX hnm hK hP hl => ?_)
  have hl : lv_has ls 4 [(0, .ref mo), (1, .int ta), (2, .int ot)] := hl
  have hP : va_P D classes [(mo, .inr (3, [.int vc, .ref qp, .ref qh, .ref qk, .ref qb, .int vt, .ref qg, .ref qo, .ref qd, .ref qu, .ref qw, .ref qs, .ref qx, .ref qa, .ref qq, .ref qf])), (qp, .inl (cA 2, 120, .inl vp)), (qh, .inl (cA 3, 1600, .inl (fun i => bz (vh i)))), (qk, .inl (cA 3, 40, .inl (fun i => bz (vk i)))), (qb, .inl (cA 3, 40, .inl (fun i => bz (vb i)))), (qg, .inl (cA 3, 160, .inl (fun i => bz (vg i)))), (qo, .inl (cA 3, 4, .inl (fun i => bz (vo i)))), (qd, .inl (cA 2, 4, .inl vd)), (qu, .inl (cA 2, 4, .inl vu)), (qw, .inl (cA 2, 4, .inl vw)), (qs, .inl (cA 2, 4, .inl vs)), (qx, .inl (cA 2, 4, .inl vx)), (qa, .inl (cA 2, 4, .inl va)), (qq, .inl (cA 2, 60, .inl vq)), (qf, .inl (cA 3, 60, .inl (fun i => bz (vf i))))] s.heap := hP
  generalize ([.ref mo, .int ta, .int ot] : List Value).toArray = args at FX ⊢
  obtain ⟨hx, hb, hml, hown, hts, hr, hlk⟩ := id FX
  refine lv_iconst (v := 0) hx hb d_m_isGood_0 (by decide) ?_
  refine lv_istore_n (lv' := [(3, .int 0), (0, .ref mo), (1, .int ta), (2, .int ot)]) hx hb d_m_isGood_1 rfl hl (by decide) rfl (fun ls hl => ?_)
  have loop : ∀ (n k : Nat) (xi : Int32) (ls : Array Slot), k + n = 41 → k ≤ 40 → xi = nI k → lv_has ls 4 [(0, .ref mo), (1, .int ta), (2, .int ot), (3, .int xi)] → W p l e (rmd 3) s m args below meth c s.heap [] 0 0 (MQ below (Qro (.int (bz (L_m_isGood_2 vc vh vg ta ot n xi)))) args s 0 0 nof) (F0 m 2 ls []) := by
    intro n
    induction n with
    | zero =>
      intro k xi ls h1 h2
      exact absurd h1 (by omega)
    | succ n ih =>
      intro k xi ls hkn hk hxi hl
      refine lv_iload_n hx hb d_m_isGood_2 rfl (lv_at hl 3 rfl) ?_
      refine lv_aload_n hx hb d_m_isGood_3 rfl (lv_at hl 0 rfl) ?_
      refine ro_get (v := .int vc) FX hK hP 0 0 rfl rfl rfl i_m (by decide) kf_m_53 d_m_isGood_4 ?_
      refine lv_icmp_ge (tgt := 41) hx hb d_m_isGood_7 (by decide) (fun c1 => ?_) (fun c1 => ?_)
      · have c1 := c1
        refine lv_iconst (v := 0) hx hb d_m_isGood_41 (by decide) ?_
        exact ro_zret FX (by rw [L_m_isGood_2_s, if_pos c1] <;> rfl) d_m_isGood_42
      · have c1 := c1
        have hk1 : k < cn := k_lt hxi hvc c1 (by omega)
        refine lv_aload_n hx hb d_m_isGood_10 rfl (lv_at hl 0 rfl) ?_
        refine ro_get (v := .ref qg) FX hK hP 0 6 rfl rfl rfl i_m (by decide) kf_m_23 d_m_isGood_11 ?_
        refine lv_bipush (v := 40) hx hb d_m_isGood_14 (by decide) ?_
        refine lv_iload_n hx hb d_m_isGood_16 rfl (lv_at hl 1 rfl) ?_
        refine lv_imul hx hb d_m_isGood_17 ?_
        refine lv_iload_n hx hb d_m_isGood_18 rfl (lv_at hl 3 rfl) ?_
        refine lv_iadd hx hb d_m_isGood_19 ?_
        refine va_zald hx hb hK.1 hP 5 3 rfl rfl (vlin 40 160 htt hxi (by omega) (by decide)) d_m_isGood_20 ?_
        refine W.eq (g2 := F0 m 21 ls [.int (bz (vg ((40 * ta) + xi).toNatClampNeg))]) rfl ?_
        refine lv_if_eq (tgt := 35) hx hb d_m_isGood_21 (by decide) (fun c2 => ?_) (fun c2 => ?_)
        · have c2 := bz_f c2
          refine lv_iinc (v := xi + 1) (lv' := [(3, .int (xi + 1)), (0, .ref mo), (1, .int ta), (2, .int ot)]) hx hb d_m_isGood_35 hl (k := 3) rfl rfl (by decide) rfl (fun ls hl => ?_)
          refine lv_goto (tgt := 2) hx hb d_m_isGood_38 (by decide) ?_
          refine ro_to (by rw [L_m_isGood_2_s, if_neg c1, if_neg c2]) ?_
          exact ih (k + 1) (xi + 1) ls (by omega) (by omega) (by rw [hxi]; exact nI_1 _)  (lv_sub hl [1, 2, 3, 0] rfl)
        · have c2 := bz_t c2
          refine lv_aload_n hx hb d_m_isGood_24 rfl (lv_at hl 0 rfl) ?_
          refine lv_iload_n hx hb d_m_isGood_25 rfl (lv_at hl 3 rfl) ?_
          refine lv_iload_n hx hb d_m_isGood_26 rfl (lv_at hl 2 rfl) ?_
          refine ro_V (v := .int (bz (f_m_has vc vh xi ot))) (As := [.int xi, .int ot]) (rest := []) (q0 := 0) FX hK (c_m_has l D cA mo qp qh qk qb qg qo qd qu qw qs qx qa qq qf vc vp vh vk vb vt vg vo vd vu vw vs vx va vq vf xi ot cn hcn hvc) hP hP rfl rfl rfl kc_m_has km_m_75 ki_m ks_m_has ke_m_has rfl ok_m_has ⟨Nat.le_of_ble_eq_true rfl, Nat.le_of_ble_eq_true rfl⟩ ⟨Nat.zero_le _, Nat.zero_le _⟩ hl.1 rfl (Nat.le_of_ble_eq_true rfl) d_m_isGood_27 ?_
          refine lv_if_eq (tgt := 35) hx hb d_m_isGood_30 (by decide) (fun c3 => ?_) (fun c3 => ?_)
          · have c3 := bz_f c3
            refine lv_iinc (v := xi + 1) (lv' := [(3, .int (xi + 1)), (0, .ref mo), (1, .int ta), (2, .int ot)]) hx hb d_m_isGood_35 hl (k := 3) rfl rfl (by decide) rfl (fun ls hl => ?_)
            refine lv_goto (tgt := 2) hx hb d_m_isGood_38 (by decide) ?_
            refine ro_to (by rw [L_m_isGood_2_s, if_neg c1, if_pos c2, if_neg c3]) ?_
            exact ih (k + 1) (xi + 1) ls (by omega) (by omega) (by rw [hxi]; exact nI_1 _)  (lv_sub hl [1, 2, 3, 0] rfl)
          · have c3 := bz_t c3
            refine lv_iconst (v := 1) hx hb d_m_isGood_33 (by decide) ?_
            exact ro_zret FX (by rw [L_m_isGood_2_s, if_neg c1, if_pos c2, if_pos c3] <;> rfl) d_m_isGood_34
  refine ro_to (by rw [f_m_isGood]) ?_
  exact loop 41 0 0 ls rfl (Nat.zero_le _) rfl  (lv_sub hl [1, 2, 3, 0] rfl)
theorem w_bd {ta : Int32} {va : Nat → Int32} {tj an : Nat} (htt : ta = nI tj) (h4 : tj < 4) (hae : va tj = nI an) : 15 * ta + va ta.toNatClampNeg = nI (15 * tj + an) := by
  subst htt
  rw [nI_clamp (by omega), hae, show (15 : Int32) = nI 15 from rfl, pk_mul, nI_add]
theorem w_st {ta : Int32} {tj : Nat} (htt : ta = nI tj) : 15 * ta = nI (15 * tj + 0) := by
  subst htt
  rw [show (15 : Int32) = nI 15 from rfl, pk_mul, Nat.add_zero]
theorem be_in {be : Int32} (h : be = (-1) ∨ ∃ b0, b0 < 40 ∧ be = nI b0) (h1 : ¬ be = (-1)) : vp_in be 40 := by
  obtain ⟨b0, hb, e⟩ := h.resolve_left h1
  exact vin e hb (by decide)
theorem c_lt {vc : Int32} {cn : Nat} (hcn : cn ≤ 40) (hvc : vc = nI cn) (h : ¬ vc = 40) : cn < 40 := by
  apply Nat.lt_of_le_of_ne hcn
  intro e
  apply h
  rw [hvc, e]; rfl
theorem va_up0 {va : Nat → Int32} {x : Int32} {k a : Nat} (hva : ∀ i, i < 4 → ∃ a, a ≤ 15 ∧ va i = nI a) (hx : x = nI a) (ha : a ≤ 15) : ∀ i, i < 4 → ∃ a, a ≤ 15 ∧ (upd va k x) i = nI a := by
  intro i hi
  unfold upd
  by_cases h : i = k
  · rw [if_pos h]; exact ⟨a, ha, hx⟩
  · rw [if_neg h]; exact hva i hi
theorem d_m_weight_0 : decode b_m_weight 0 = .ok (.aload_n 0, 1) := by decide +kernel
theorem d_m_weight_1 : decode b_m_weight 1 = .ok (.iload_n 1, 1) := by decide +kernel
theorem d_m_weight_2 : decode b_m_weight 2 = .ok (.invokevirtual 85, 3) := by decide +kernel
theorem d_m_weight_5 : decode b_m_weight 5 = .ok (.ifCond .eq 34, 3) := by decide +kernel
theorem d_m_weight_8 : decode b_m_weight 8 = .ok (.aload_n 0, 1) := by decide +kernel
theorem d_m_weight_9 : decode b_m_weight 9 = .ok (.iload_n 2, 1) := by decide +kernel
theorem d_m_weight_10 : decode b_m_weight 10 = .ok (.invokevirtual 68, 3) := by decide +kernel
theorem d_m_weight_13 : decode b_m_weight 13 = .ok (.ifCond .eq 26, 3) := by decide +kernel
theorem d_m_weight_16 : decode b_m_weight 16 = .ok (.aload_n 0, 1) := by decide +kernel
theorem d_m_weight_17 : decode b_m_weight 17 = .ok (.aload_n 0, 1) := by decide +kernel
theorem d_m_weight_18 : decode b_m_weight 18 = .ok (.getfield 29, 3) := by decide +kernel
theorem d_m_weight_21 : decode b_m_weight 21 = .ok (.iload_n 1, 1) := by decide +kernel
theorem d_m_weight_22 : decode b_m_weight 22 = .ok (.iaload, 1) := by decide +kernel
theorem d_m_weight_23 : decode b_m_weight 23 = .ok (.iload_n 2, 1) := by decide +kernel
theorem d_m_weight_24 : decode b_m_weight 24 = .ok (.invokevirtual 75, 3) := by decide +kernel
theorem d_m_weight_27 : decode b_m_weight 27 = .ok (.ifCond .eq 12, 3) := by decide +kernel
theorem d_m_weight_30 : decode b_m_weight 30 = .ok (.aload_n 0, 1) := by decide +kernel
theorem d_m_weight_31 : decode b_m_weight 31 = .ok (.iload_n 1, 1) := by decide +kernel
theorem d_m_weight_32 : decode b_m_weight 32 = .ok (.iload_n 2, 1) := by decide +kernel
theorem d_m_weight_33 : decode b_m_weight 33 = .ok (.invokevirtual 78, 3) := by decide +kernel
theorem d_m_weight_36 : decode b_m_weight 36 = .ok (.ifCond .eq 5, 3) := by decide +kernel
theorem d_m_weight_39 : decode b_m_weight 39 = .ok (.lconst 0, 1) := by decide +kernel
theorem d_m_weight_40 : decode b_m_weight 40 = .ok (.lreturn, 1) := by decide +kernel
theorem d_m_weight_41 : decode b_m_weight 41 = .ok (.lconst 1, 1) := by decide +kernel
theorem d_m_weight_42 : decode b_m_weight 42 = .ok (.lstore_n 3, 1) := by decide +kernel
theorem d_m_weight_43 : decode b_m_weight 43 = .ok (.bipush 15, 2) := by decide +kernel
theorem d_m_weight_45 : decode b_m_weight 45 = .ok (.iload_n 1, 1) := by decide +kernel
theorem d_m_weight_46 : decode b_m_weight 46 = .ok (.imul, 1) := by decide +kernel
theorem d_m_weight_47 : decode b_m_weight 47 = .ok (.istore 5, 2) := by decide +kernel
theorem d_m_weight_49 : decode b_m_weight 49 = .ok (.iload 5, 2) := by decide +kernel
theorem d_m_weight_51 : decode b_m_weight 51 = .ok (.bipush 15, 2) := by decide +kernel
theorem d_m_weight_53 : decode b_m_weight 53 = .ok (.iload_n 1, 1) := by decide +kernel
theorem d_m_weight_54 : decode b_m_weight 54 = .ok (.imul, 1) := by decide +kernel
theorem d_m_weight_55 : decode b_m_weight 55 = .ok (.aload_n 0, 1) := by decide +kernel
theorem d_m_weight_56 : decode b_m_weight 56 = .ok (.getfield 44, 3) := by decide +kernel
theorem d_m_weight_59 : decode b_m_weight 59 = .ok (.iload_n 1, 1) := by decide +kernel
theorem d_m_weight_60 : decode b_m_weight 60 = .ok (.iaload, 1) := by decide +kernel
theorem d_m_weight_61 : decode b_m_weight 61 = .ok (.iadd, 1) := by decide +kernel
theorem d_m_weight_62 : decode b_m_weight 62 = .ok (.if_icmp .ge 87, 3) := by decide +kernel
theorem d_m_weight_65 : decode b_m_weight 65 = .ok (.aload_n 0, 1) := by decide +kernel
theorem d_m_weight_66 : decode b_m_weight 66 = .ok (.aload_n 0, 1) := by decide +kernel
theorem d_m_weight_67 : decode b_m_weight 67 = .ok (.getfield 47, 3) := by decide +kernel
theorem d_m_weight_70 : decode b_m_weight 70 = .ok (.iload 5, 2) := by decide +kernel
theorem d_m_weight_72 : decode b_m_weight 72 = .ok (.iaload, 1) := by decide +kernel
theorem d_m_weight_73 : decode b_m_weight 73 = .ok (.iload_n 2, 1) := by decide +kernel
theorem d_m_weight_74 : decode b_m_weight 74 = .ok (.invokevirtual 75, 3) := by decide +kernel
theorem d_m_weight_77 : decode b_m_weight 77 = .ok (.istore 6, 2) := by decide +kernel
theorem d_m_weight_79 : decode b_m_weight 79 = .ok (.aload_n 0, 1) := by decide +kernel
theorem d_m_weight_80 : decode b_m_weight 80 = .ok (.getfield 50, 3) := by decide +kernel
theorem d_m_weight_83 : decode b_m_weight 83 = .ok (.iload 5, 2) := by decide +kernel
theorem d_m_weight_85 : decode b_m_weight 85 = .ok (.baload, 1) := by decide +kernel
theorem d_m_weight_86 : decode b_m_weight 86 = .ok (.ifCond .eq 32, 3) := by decide +kernel
theorem d_m_weight_89 : decode b_m_weight 89 = .ok (.lload_n 3, 1) := by decide +kernel
theorem d_m_weight_90 : decode b_m_weight 90 = .ok (.iload 6, 2) := by decide +kernel
theorem d_m_weight_92 : decode b_m_weight 92 = .ok (.ifCond .eq 20, 3) := by decide +kernel
theorem d_m_weight_95 : decode b_m_weight 95 = .ok (.aload_n 0, 1) := by decide +kernel
theorem d_m_weight_96 : decode b_m_weight 96 = .ok (.getfield 35, 3) := by decide +kernel
theorem d_m_weight_99 : decode b_m_weight 99 = .ok (.iload_n 1, 1) := by decide +kernel
theorem d_m_weight_100 : decode b_m_weight 100 = .ok (.iaload, 1) := by decide +kernel
theorem d_m_weight_101 : decode b_m_weight 101 = .ok (.aload_n 0, 1) := by decide +kernel
theorem d_m_weight_102 : decode b_m_weight 102 = .ok (.getfield 32, 3) := by decide +kernel
theorem d_m_weight_105 : decode b_m_weight 105 = .ok (.iload_n 1, 1) := by decide +kernel
theorem d_m_weight_106 : decode b_m_weight 106 = .ok (.iaload, 1) := by decide +kernel
theorem d_m_weight_107 : decode b_m_weight 107 = .ok (.isub, 1) := by decide +kernel
theorem d_m_weight_108 : decode b_m_weight 108 = .ok (.i2l, 1) := by decide +kernel
theorem d_m_weight_109 : decode b_m_weight 109 = .ok (.goto 4, 3) := by decide +kernel
theorem d_m_weight_112 : decode b_m_weight 112 = .ok (.lconst 0, 1) := by decide +kernel
theorem d_m_weight_113 : decode b_m_weight 113 = .ok (.lmul, 1) := by decide +kernel
theorem d_m_weight_114 : decode b_m_weight 114 = .ok (.lstore_n 3, 1) := by decide +kernel
theorem d_m_weight_115 : decode b_m_weight 115 = .ok (.goto 28, 3) := by decide +kernel
theorem d_m_weight_118 : decode b_m_weight 118 = .ok (.lload_n 3, 1) := by decide +kernel
theorem d_m_weight_119 : decode b_m_weight 119 = .ok (.iload 6, 2) := by decide +kernel
theorem d_m_weight_121 : decode b_m_weight 121 = .ok (.ifCond .eq 13, 3) := by decide +kernel
theorem d_m_weight_124 : decode b_m_weight 124 = .ok (.aload_n 0, 1) := by decide +kernel
theorem d_m_weight_125 : decode b_m_weight 125 = .ok (.getfield 32, 3) := by decide +kernel
theorem d_m_weight_128 : decode b_m_weight 128 = .ok (.iload_n 1, 1) := by decide +kernel
theorem d_m_weight_129 : decode b_m_weight 129 = .ok (.iaload, 1) := by decide +kernel
theorem d_m_weight_130 : decode b_m_weight 130 = .ok (.i2l, 1) := by decide +kernel
theorem d_m_weight_131 : decode b_m_weight 131 = .ok (.goto 10, 3) := by decide +kernel
theorem d_m_weight_134 : decode b_m_weight 134 = .ok (.aload_n 0, 1) := by decide +kernel
theorem d_m_weight_135 : decode b_m_weight 135 = .ok (.getfield 35, 3) := by decide +kernel
theorem d_m_weight_138 : decode b_m_weight 138 = .ok (.iload_n 1, 1) := by decide +kernel
theorem d_m_weight_139 : decode b_m_weight 139 = .ok (.iaload, 1) := by decide +kernel
theorem d_m_weight_140 : decode b_m_weight 140 = .ok (.i2l, 1) := by decide +kernel
theorem d_m_weight_141 : decode b_m_weight 141 = .ok (.lmul, 1) := by decide +kernel
theorem d_m_weight_142 : decode b_m_weight 142 = .ok (.lstore_n 3, 1) := by decide +kernel
theorem d_m_weight_143 : decode b_m_weight 143 = .ok (.iinc 5 1, 3) := by decide +kernel
theorem d_m_weight_146 : decode b_m_weight 146 = .ok (.goto (-97), 3) := by decide +kernel
theorem d_m_weight_149 : decode b_m_weight 149 = .ok (.lload_n 3, 1) := by decide +kernel
theorem d_m_weight_150 : decode b_m_weight 150 = .ok (.lreturn, 1) := by decide +kernel
def L_m_weight_49 (vc : Int32) (vh : Nat → Bool) (vt : Int32) (vg : Nat → Bool) (vo : Nat → Bool) (vd : Nat → Int32) (vu : Nat → Int32) (vw : Nat → Int32) (va : Nat → Int32) (vq : Nat → Int32) (vf : Nat → Bool) (ta : Int32) (ch : Int32) : Nat → Int64 → Int32 → Int64
  | 0, _, _ => 0
  | n + 1, wv, xi => if ((15 * ta) + (va ta.toNatClampNeg)) ≤ xi then
    (wv)
  else
    (if (vf xi.toNatClampNeg) = true then
      (if (f_m_has vc vh (vq xi.toNatClampNeg) ch) = true then
        (L_m_weight_49 vc vh vt vg vo vd vu vw va vq vf ta ch n (wv * (((vw ta.toNatClampNeg) - (vu ta.toNatClampNeg)).toInt64)) (xi + 1))
      else
        (L_m_weight_49 vc vh vt vg vo vd vu vw va vq vf ta ch n (wv * 0) (xi + 1)))
    else
      (if (f_m_has vc vh (vq xi.toNatClampNeg) ch) = true then
        (L_m_weight_49 vc vh vt vg vo vd vu vw va vq vf ta ch n (wv * ((vu ta.toNatClampNeg).toInt64)) (xi + 1))
      else
        (L_m_weight_49 vc vh vt vg vo vd vu vw va vq vf ta ch n (wv * ((vw ta.toNatClampNeg).toInt64)) (xi + 1))))
theorem L_m_weight_49_s (vc : Int32) (vh : Nat → Bool) (vt : Int32) (vg : Nat → Bool) (vo : Nat → Bool) (vd : Nat → Int32) (vu : Nat → Int32) (vw : Nat → Int32) (va : Nat → Int32) (vq : Nat → Int32) (vf : Nat → Bool) (ta : Int32) (ch : Int32) (n : Nat) (wv : Int64) (xi : Int32) : L_m_weight_49 vc vh vt vg vo vd vu vw va vq vf ta ch (n + 1) wv xi = if ((15 * ta) + (va ta.toNatClampNeg)) ≤ xi then
    (wv)
  else
    (if (vf xi.toNatClampNeg) = true then
      (if (f_m_has vc vh (vq xi.toNatClampNeg) ch) = true then
        (L_m_weight_49 vc vh vt vg vo vd vu vw va vq vf ta ch n (wv * (((vw ta.toNatClampNeg) - (vu ta.toNatClampNeg)).toInt64)) (xi + 1))
      else
        (L_m_weight_49 vc vh vt vg vo vd vu vw va vq vf ta ch n (wv * 0) (xi + 1)))
    else
      (if (f_m_has vc vh (vq xi.toNatClampNeg) ch) = true then
        (L_m_weight_49 vc vh vt vg vo vd vu vw va vq vf ta ch n (wv * ((vu ta.toNatClampNeg).toInt64)) (xi + 1))
      else
        (L_m_weight_49 vc vh vt vg vo vd vu vw va vq vf ta ch n (wv * ((vw ta.toNatClampNeg).toInt64)) (xi + 1)))) := rfl
def f_m_weight (vc : Int32) (vh : Nat → Bool) (vt : Int32) (vg : Nat → Bool) (vo : Nat → Bool) (vd : Nat → Int32) (vu : Nat → Int32) (vw : Nat → Int32) (va : Nat → Int32) (vq : Nat → Int32) (vf : Nat → Bool) (ta : Int32) (ch : Int32) : Int64 := if (f_m_isSearch vt vo ta) = true then
    (if (f_m_isChange vc ch) = true then
      (if (f_m_has vc vh (vd ta.toNatClampNeg) ch) = true then
        (if (f_m_isGood vc vh vg ta ch) = true then
          (0)
        else
          (L_m_weight_49 vc vh vt vg vo vd vu vw va vq vf ta ch 16 1 (15 * ta)))
      else
        (0))
    else
      (0))
  else
    (0)
set_option maxHeartbeats 4000000 in
set_option maxRecDepth 100000 in
theorem c_m_weight (l : Launch) (D : va_G) (cA : Nat → ClassId) (mo qp qh qk qb qg qo qd qu qw qs qx qa qq qf : Nat) (vc : Int32) (vp : Nat → Int32) (vh : Nat → Bool) (vk : Nat → Bool) (vb : Nat → Bool) (vt : Int32) (vg : Nat → Bool) (vo : Nat → Bool) (vd : Nat → Int32) (vu : Nat → Int32) (vw : Nat → Int32) (vs : Nat → Int32) (vx : Nat → Int32) (va : Nat → Int32) (vq : Nat → Int32) (vf : Nat → Bool) (ta : Int32) (ch : Int32) (cn : Nat) (hcn : cn ≤ 40) (hvc : vc = nI cn) (tn : Nat) (htn : tn ≤ 4) (hvt : vt = nI tn) (hva : ∀ i, i < 4 → ∃ a, a ≤ 15 ∧ va i = nI a) : Met l y_m_weight (.code y_m_weight b_m_weight 7 (some .long) :: tb) (rmd 4) (Pro D cA [.ref mo, .int ta, .int ch] (va_P D classes [(mo, .inr (3, [.int vc, .ref qp, .ref qh, .ref qk, .ref qb, .int vt, .ref qg, .ref qo, .ref qd, .ref qu, .ref qw, .ref qs, .ref qx, .ref qa, .ref qq, .ref qf])), (qp, .inl (cA 2, 120, .inl vp)), (qh, .inl (cA 3, 1600, .inl (fun i => bz (vh i)))), (qk, .inl (cA 3, 40, .inl (fun i => bz (vk i)))), (qb, .inl (cA 3, 40, .inl (fun i => bz (vb i)))), (qg, .inl (cA 3, 160, .inl (fun i => bz (vg i)))), (qo, .inl (cA 3, 4, .inl (fun i => bz (vo i)))), (qd, .inl (cA 2, 4, .inl vd)), (qu, .inl (cA 2, 4, .inl vu)), (qw, .inl (cA 2, 4, .inl vw)), (qs, .inl (cA 2, 4, .inl vs)), (qx, .inl (cA 2, 4, .inl vx)), (qa, .inl (cA 2, 4, .inl va)), (qq, .inl (cA 2, 60, .inl vq)), (qf, .inl (cA 3, 60, .inl (fun i => bz (vf i))))])) (Qro (.long (f_m_weight vc vh vt vg vo vd vu vw va vq vf ta ch))) 0 0 nof := by
  refine ro_in (by decide) (Nat.le_of_ble_eq_true rfl) (fun p e s m below meth c ls FX hnm hK hP hl => ?_)
  have hl : lv_has ls 7 [(0, .ref mo), (1, .int ta), (2, .int ch)] := hl
  have hP : va_P D classes [(mo, .inr (3, [.int vc, .ref qp, .ref qh, .ref qk, .ref qb, .int vt, .ref qg, .ref qo, .ref qd, .ref qu, .ref qw, .ref qs, .ref qx, .ref qa, .ref qq, .ref qf])), (qp, .inl (cA 2, 120, .inl vp)), (qh, .inl (cA 3, 1600, .inl (fun i => bz (vh i)))), (qk, .inl (cA 3, 40, .inl (fun i => bz (vk i)))), (qb, .inl (cA 3, 40, .inl (fun i => bz (vb i)))), (qg, .inl (cA 3, 160, .inl (fun i => bz (vg i)))), (qo, .inl (cA 3, 4, .inl (fun i => bz (vo i)))), (qd, .inl (cA 2, 4, .inl vd)), (qu, .inl (cA 2, 4, .inl vu)), (qw, .inl (cA 2, 4, .inl vw)), (qs, .inl (cA 2, 4, .inl vs)), (qx, .inl (cA 2, 4, .inl vx)), (qa, .inl (cA 2, 4, .inl va)), (qq, .inl (cA 2, 60, .inl vq)), (qf, .inl (cA 3, 60, .inl (fun i => bz (vf i))))] s.heap := hP
  generalize ([.ref mo, .int ta, .int ch] : List Value).toArray = args at FX ⊢
  obtain ⟨hx, hb, hml, hown, hts, hr, hlk⟩ := id FX
  refine lv_aload_n hx hb d_m_weight_0 rfl (lv_at hl 0 rfl) ?_
  refine lv_iload_n hx hb d_m_weight_1 rfl (lv_at hl 1 rfl) ?_
  refine ro_V (v := .int (bz (f_m_isSearch vt vo ta))) (As := [.int ta]) (rest := []) (q0 := 0) FX hK (c_m_isSearch l D cA mo qp qh qk qb qg qo qd qu qw qs qx qa qq qf vc vp vh vk vb vt vg vo vd vu vw vs vx va vq vf ta cn hcn hvc tn htn hvt hva) hP hP rfl rfl rfl kc_m_isSearch km_m_85 ki_m ks_m_isSearch ke_m_isSearch rfl ok_m_isSearch ⟨Nat.le_of_ble_eq_true rfl, Nat.le_of_ble_eq_true rfl⟩ ⟨Nat.zero_le _, Nat.zero_le _⟩ hl.1 rfl (Nat.le_of_ble_eq_true rfl) d_m_weight_2 ?_
  refine lv_if_eq (tgt := 39) hx hb d_m_weight_5 (by decide) (fun c1 => ?_) (fun c1 => ?_)
  · have c1 := bz_f c1
    refine lv_lconst (v := 0) hx hb d_m_weight_39 (by decide) ?_
    exact ro_lret FX (by rw [f_m_weight, if_neg c1]) d_m_weight_40
  · have c1 := bz_t c1
    obtain ⟨tj, htj, htt⟩ := tg_nI htn hvt (se_tg c1)
    obtain ⟨an, han, hae⟩ := hva tj (by omega)
    have hbd : 15 * ta + va ta.toNatClampNeg = nI (15 * tj + an) := w_bd htt (by omega) hae
    refine lv_aload_n hx hb d_m_weight_8 rfl (lv_at hl 0 rfl) ?_
    refine lv_iload_n hx hb d_m_weight_9 rfl (lv_at hl 2 rfl) ?_
    refine ro_V (v := .int (bz (f_m_isChange vc ch))) (As := [.int ch]) (rest := []) (q0 := 0) FX hK (c_m_isChange l D cA mo qp qh qk qb qg qo qd qu qw qs qx qa qq qf vc vp vh vk vb vt vg vo vd vu vw vs vx va vq vf ch) hP hP rfl rfl rfl kc_m_isChange km_m_68 ki_m ks_m_isChange ke_m_isChange rfl ok_m_isChange ⟨Nat.le_of_ble_eq_true rfl, Nat.le_of_ble_eq_true rfl⟩ ⟨Nat.zero_le _, Nat.zero_le _⟩ hl.1 rfl (Nat.le_of_ble_eq_true rfl) d_m_weight_10 ?_
    refine lv_if_eq (tgt := 39) hx hb d_m_weight_13 (by decide) (fun c2 => ?_) (fun c2 => ?_)
    · have c2 := bz_f c2
      refine lv_lconst (v := 0) hx hb d_m_weight_39 (by decide) ?_
      exact ro_lret FX (by rw [f_m_weight, if_pos c1, if_neg c2]) d_m_weight_40
    · have c2 := bz_t c2
      refine lv_aload_n hx hb d_m_weight_16 rfl (lv_at hl 0 rfl) ?_
      refine lv_aload_n hx hb d_m_weight_17 rfl (lv_at hl 0 rfl) ?_
      refine ro_get (v := .ref qd) FX hK hP 0 8 rfl rfl rfl i_m (by decide) kf_m_29 d_m_weight_18 ?_
      refine lv_iload_n hx hb d_m_weight_21 rfl (lv_at hl 1 rfl) ?_
      refine va_iald hx hb hK.1 hP 7 2 rfl rfl (vin htt (by omega) (by decide)) d_m_weight_22 ?_
      refine lv_iload_n hx hb d_m_weight_23 rfl (lv_at hl 2 rfl) ?_
      refine ro_V (v := .int (bz (f_m_has vc vh (vd ta.toNatClampNeg) ch))) (As := [.int (vd ta.toNatClampNeg), .int ch]) (rest := []) (q0 := 0) FX hK (c_m_has l D cA mo qp qh qk qb qg qo qd qu qw qs qx qa qq qf vc vp vh vk vb vt vg vo vd vu vw vs vx va vq vf (vd ta.toNatClampNeg) ch cn hcn hvc) hP hP rfl rfl rfl kc_m_has km_m_75 ki_m ks_m_has ke_m_has rfl ok_m_has ⟨Nat.le_of_ble_eq_true rfl, Nat.le_of_ble_eq_true rfl⟩ ⟨Nat.zero_le _, Nat.zero_le _⟩ hl.1 rfl (Nat.le_of_ble_eq_true rfl) d_m_weight_24 ?_
      refine lv_if_eq (tgt := 39) hx hb d_m_weight_27 (by decide) (fun c3 => ?_) (fun c3 => ?_)
      · have c3 := bz_f c3
        refine lv_lconst (v := 0) hx hb d_m_weight_39 (by decide) ?_
        exact ro_lret FX (by rw [f_m_weight, if_pos c1, if_pos c2, if_neg c3]) d_m_weight_40
      · have c3 := bz_t c3
        refine lv_aload_n hx hb d_m_weight_30 rfl (lv_at hl 0 rfl) ?_
        refine lv_iload_n hx hb d_m_weight_31 rfl (lv_at hl 1 rfl) ?_
        refine lv_iload_n hx hb d_m_weight_32 rfl (lv_at hl 2 rfl) ?_
        refine ro_V (v := .int (bz (f_m_isGood vc vh vg ta ch))) (As := [.int ta, .int ch]) (rest := []) (q0 := 0) FX hK (c_m_isGood l D cA mo qp qh qk qb qg qo qd qu qw qs qx qa qq qf vc vp vh vk vb vt vg vo vd vu vw vs vx va vq vf ta ch cn hcn hvc tj (Nat.lt_of_lt_of_le htj htn) htt) hP hP rfl rfl rfl kc_m_isGood km_m_78 ki_m ks_m_isGood ke_m_isGood rfl ok_m_isGood ⟨Nat.le_of_ble_eq_true rfl, Nat.le_of_ble_eq_true rfl⟩ ⟨Nat.zero_le _, Nat.zero_le _⟩ hl.1 rfl (Nat.le_of_ble_eq_true rfl) d_m_weight_33 ?_
        refine lv_if_eq (tgt := 41) hx hb d_m_weight_36 (by decide) (fun c4 => ?_) (fun c4 => ?_)
        · have c4 := bz_f c4
          refine lv_lconst (v := 1) hx hb d_m_weight_41 (by decide) ?_
          refine lv_lstore_n (lv' := [(3, .long 1), (0, .ref mo), (1, .int ta), (2, .int ch)]) hx hb d_m_weight_42 rfl hl (by decide) rfl (fun ls hl => ?_)
          refine lv_bipush (v := 15) hx hb d_m_weight_43 (by decide) ?_
          refine lv_iload_n hx hb d_m_weight_45 rfl (lv_at hl 2 rfl) ?_
          refine lv_imul hx hb d_m_weight_46 ?_
          refine lv_istore (lv' := [(5, .int (15 * ta)), (3, .long 1), (0, .ref mo), (1, .int ta), (2, .int ch)]) hx hb d_m_weight_47 hl (by decide) rfl (fun ls hl => ?_)
          have loop : ∀ (n k : Nat) (wv : Int64) (xi : Int32) (ls : Array Slot), k + n = 16 → k ≤ 15 → xi = nI (15 * tj + k) → lv_has ls 7 [(0, .ref mo), (1, .int ta), (2, .int ch), (3, .long wv), (5, .int xi)] → W p l e (rmd 4) s m args below meth c s.heap [] 0 0 (MQ below (Qro (.long (L_m_weight_49 vc vh vt vg vo vd vu vw va vq vf ta ch n wv xi))) args s 0 0 nof) (F0 m 49 ls []) := by
            intro n
            induction n with
            | zero =>
              intro k wv xi ls h1 h2
              exact absurd h1 (by omega)
            | succ n ih =>
              intro k wv xi ls hkn hk hxi hl
              refine lv_iload hx hb d_m_weight_49 (lv_at hl 4 rfl) ?_
              refine lv_bipush (v := 15) hx hb d_m_weight_51 (by decide) ?_
              refine lv_iload_n hx hb d_m_weight_53 rfl (lv_at hl 1 rfl) ?_
              refine lv_imul hx hb d_m_weight_54 ?_
              refine lv_aload_n hx hb d_m_weight_55 rfl (lv_at hl 0 rfl) ?_
              refine ro_get (v := .ref qa) FX hK hP 0 13 rfl rfl rfl i_m (by decide) kf_m_44 d_m_weight_56 ?_
              refine lv_iload_n hx hb d_m_weight_59 rfl (lv_at hl 1 rfl) ?_
              refine va_iald hx hb hK.1 hP 12 2 rfl rfl (vin htt (by omega) (by decide)) d_m_weight_60 ?_
              refine lv_iadd hx hb d_m_weight_61 ?_
              refine lv_icmp_ge (tgt := 149) hx hb d_m_weight_62 (by decide) (fun c5 => ?_) (fun c5 => ?_)
              · have c5 := c5
                refine lv_lload_n hx hb d_m_weight_149 rfl (lv_at hl 3 rfl) ?_
                exact ro_lret FX (by rw [L_m_weight_49_s, if_pos c5]) d_m_weight_150
              · have c5 := c5
                have hk1 : 15 * tj + k < 15 * tj + an := k_lt hxi hbd c5 (by omega)
                refine lv_aload_n hx hb d_m_weight_65 rfl (lv_at hl 0 rfl) ?_
                refine lv_aload_n hx hb d_m_weight_66 rfl (lv_at hl 0 rfl) ?_
                refine ro_get (v := .ref qq) FX hK hP 0 14 rfl rfl rfl i_m (by decide) kf_m_47 d_m_weight_67 ?_
                refine lv_iload hx hb d_m_weight_70 (lv_at hl 4 rfl) ?_
                refine va_iald hx hb hK.1 hP 13 2 rfl rfl (vin hxi (by omega) (by decide)) d_m_weight_72 ?_
                refine lv_iload_n hx hb d_m_weight_73 rfl (lv_at hl 2 rfl) ?_
                refine ro_V (v := .int (bz (f_m_has vc vh (vq xi.toNatClampNeg) ch))) (As := [.int (vq xi.toNatClampNeg), .int ch]) (rest := []) (q0 := 0) FX hK (c_m_has l D cA mo qp qh qk qb qg qo qd qu qw qs qx qa qq qf vc vp vh vk vb vt vg vo vd vu vw vs vx va vq vf (vq xi.toNatClampNeg) ch cn hcn hvc) hP hP rfl rfl rfl kc_m_has km_m_75 ki_m ks_m_has ke_m_has rfl ok_m_has ⟨Nat.le_of_ble_eq_true rfl, Nat.le_of_ble_eq_true rfl⟩ ⟨Nat.zero_le _, Nat.zero_le _⟩ hl.1 rfl (Nat.le_of_ble_eq_true rfl) d_m_weight_74 ?_
                refine lv_istore (lv' := [(6, .int (bz (f_m_has vc vh (vq xi.toNatClampNeg) ch))), (0, .ref mo), (1, .int ta), (2, .int ch), (3, .long wv), (5, .int xi)]) hx hb d_m_weight_77 hl (by decide) rfl (fun ls hl => ?_)
                refine lv_aload_n hx hb d_m_weight_79 rfl (lv_at hl 1 rfl) ?_
                refine ro_get (v := .ref qf) FX hK hP 0 15 rfl rfl rfl i_m (by decide) kf_m_50 d_m_weight_80 ?_
                refine lv_iload hx hb d_m_weight_83 (lv_at hl 5 rfl) ?_
                refine va_zald hx hb hK.1 hP 14 3 rfl rfl (vin hxi (by omega) (by decide)) d_m_weight_85 ?_
                refine W.eq (g2 := F0 m 86 ls [.int (bz (vf xi.toNatClampNeg))]) rfl ?_
                refine lv_if_eq (tgt := 118) hx hb d_m_weight_86 (by decide) (fun c6 => ?_) (fun c6 => ?_)
                · have c6 := bz_f c6
                  refine lv_lload_n hx hb d_m_weight_118 rfl (lv_at hl 4 rfl) ?_
                  refine lv_iload hx hb d_m_weight_119 (lv_at hl 0 rfl) ?_
                  refine lv_if_eq (tgt := 134) hx hb d_m_weight_121 (by decide) (fun c7 => ?_) (fun c7 => ?_)
                  · have c7 := bz_f c7
                    refine lv_aload_n hx hb d_m_weight_134 rfl (lv_at hl 1 rfl) ?_
                    refine ro_get (v := .ref qw) FX hK hP 0 10 rfl rfl rfl i_m (by decide) kf_m_35 d_m_weight_135 ?_
                    refine lv_iload_n hx hb d_m_weight_138 rfl (lv_at hl 2 rfl) ?_
                    refine va_iald hx hb hK.1 hP 9 2 rfl rfl (vin htt (by omega) (by decide)) d_m_weight_139 ?_
                    refine lv_i2l (v := (vw ta.toNatClampNeg).toInt64) hx hb d_m_weight_140 rfl ?_
                    refine lv_lmul hx hb d_m_weight_141 ?_
                    refine lv_lstore_n (lv' := [(3, .long (wv * ((vw ta.toNatClampNeg).toInt64))), (6, .int (bz (f_m_has vc vh (vq xi.toNatClampNeg) ch))), (0, .ref mo), (1, .int ta), (2, .int ch), (5, .int xi)]) hx hb d_m_weight_142 rfl hl (by decide) rfl (fun ls hl => ?_)
                    refine lv_iinc (v := xi + 1) (lv' := [(5, .int (xi + 1)), (3, .long (wv * ((vw ta.toNatClampNeg).toInt64))), (6, .int (bz (f_m_has vc vh (vq xi.toNatClampNeg) ch))), (0, .ref mo), (1, .int ta), (2, .int ch)]) hx hb d_m_weight_143 hl (k := 5) rfl rfl (by decide) rfl (fun ls hl => ?_)
                    refine lv_goto (tgt := 49) hx hb d_m_weight_146 (by decide) ?_
                    refine ro_to (by rw [L_m_weight_49_s, if_neg c5, if_neg c6, if_neg c7]) ?_
                    exact ih (k + 1) (wv * ((vw ta.toNatClampNeg).toInt64)) (xi + 1) ls (by omega) (by omega) (by rw [hxi]; exact nI_1 _)  (lv_sub hl [3, 4, 5, 1, 0] rfl)
                  · have c7 := bz_t c7
                    refine lv_aload_n hx hb d_m_weight_124 rfl (lv_at hl 1 rfl) ?_
                    refine ro_get (v := .ref qu) FX hK hP 0 9 rfl rfl rfl i_m (by decide) kf_m_32 d_m_weight_125 ?_
                    refine lv_iload_n hx hb d_m_weight_128 rfl (lv_at hl 2 rfl) ?_
                    refine va_iald hx hb hK.1 hP 8 2 rfl rfl (vin htt (by omega) (by decide)) d_m_weight_129 ?_
                    refine lv_i2l (v := (vu ta.toNatClampNeg).toInt64) hx hb d_m_weight_130 rfl ?_
                    refine lv_goto (tgt := 141) hx hb d_m_weight_131 (by decide) ?_
                    refine lv_lmul hx hb d_m_weight_141 ?_
                    refine lv_lstore_n (lv' := [(3, .long (wv * ((vu ta.toNatClampNeg).toInt64))), (6, .int (bz (f_m_has vc vh (vq xi.toNatClampNeg) ch))), (0, .ref mo), (1, .int ta), (2, .int ch), (5, .int xi)]) hx hb d_m_weight_142 rfl hl (by decide) rfl (fun ls hl => ?_)
                    refine lv_iinc (v := xi + 1) (lv' := [(5, .int (xi + 1)), (3, .long (wv * ((vu ta.toNatClampNeg).toInt64))), (6, .int (bz (f_m_has vc vh (vq xi.toNatClampNeg) ch))), (0, .ref mo), (1, .int ta), (2, .int ch)]) hx hb d_m_weight_143 hl (k := 5) rfl rfl (by decide) rfl (fun ls hl => ?_)
                    refine lv_goto (tgt := 49) hx hb d_m_weight_146 (by decide) ?_
                    refine ro_to (by rw [L_m_weight_49_s, if_neg c5, if_neg c6, if_pos c7]) ?_
                    exact ih (k + 1) (wv * ((vu ta.toNatClampNeg).toInt64)) (xi + 1) ls (by omega) (by omega) (by rw [hxi]; exact nI_1 _)  (lv_sub hl [3, 4, 5, 1, 0] rfl)
                · have c6 := bz_t c6
                  refine lv_lload_n hx hb d_m_weight_89 rfl (lv_at hl 4 rfl) ?_
                  refine lv_iload hx hb d_m_weight_90 (lv_at hl 0 rfl) ?_
                  refine lv_if_eq (tgt := 112) hx hb d_m_weight_92 (by decide) (fun c8 => ?_) (fun c8 => ?_)
                  · have c8 := bz_f c8
                    refine lv_lconst (v := 0) hx hb d_m_weight_112 (by decide) ?_
                    refine lv_lmul hx hb d_m_weight_113 ?_
                    refine lv_lstore_n (lv' := [(3, .long (wv * 0)), (6, .int (bz (f_m_has vc vh (vq xi.toNatClampNeg) ch))), (0, .ref mo), (1, .int ta), (2, .int ch), (5, .int xi)]) hx hb d_m_weight_114 rfl hl (by decide) rfl (fun ls hl => ?_)
                    refine lv_goto (tgt := 143) hx hb d_m_weight_115 (by decide) ?_
                    refine lv_iinc (v := xi + 1) (lv' := [(5, .int (xi + 1)), (3, .long (wv * 0)), (6, .int (bz (f_m_has vc vh (vq xi.toNatClampNeg) ch))), (0, .ref mo), (1, .int ta), (2, .int ch)]) hx hb d_m_weight_143 hl (k := 5) rfl rfl (by decide) rfl (fun ls hl => ?_)
                    refine lv_goto (tgt := 49) hx hb d_m_weight_146 (by decide) ?_
                    refine ro_to (by rw [L_m_weight_49_s, if_neg c5, if_pos c6, if_neg c8]) ?_
                    exact ih (k + 1) (wv * 0) (xi + 1) ls (by omega) (by omega) (by rw [hxi]; exact nI_1 _)  (lv_sub hl [3, 4, 5, 1, 0] rfl)
                  · have c8 := bz_t c8
                    refine lv_aload_n hx hb d_m_weight_95 rfl (lv_at hl 1 rfl) ?_
                    refine ro_get (v := .ref qw) FX hK hP 0 10 rfl rfl rfl i_m (by decide) kf_m_35 d_m_weight_96 ?_
                    refine lv_iload_n hx hb d_m_weight_99 rfl (lv_at hl 2 rfl) ?_
                    refine va_iald hx hb hK.1 hP 9 2 rfl rfl (vin htt (by omega) (by decide)) d_m_weight_100 ?_
                    refine lv_aload_n hx hb d_m_weight_101 rfl (lv_at hl 1 rfl) ?_
                    refine ro_get (v := .ref qu) FX hK hP 0 9 rfl rfl rfl i_m (by decide) kf_m_32 d_m_weight_102 ?_
                    refine lv_iload_n hx hb d_m_weight_105 rfl (lv_at hl 2 rfl) ?_
                    refine va_iald hx hb hK.1 hP 8 2 rfl rfl (vin htt (by omega) (by decide)) d_m_weight_106 ?_
                    refine lv_isub hx hb d_m_weight_107 ?_
                    refine lv_i2l (v := ((vw ta.toNatClampNeg) - (vu ta.toNatClampNeg)).toInt64) hx hb d_m_weight_108 rfl ?_
                    refine lv_goto (tgt := 113) hx hb d_m_weight_109 (by decide) ?_
                    refine lv_lmul hx hb d_m_weight_113 ?_
                    refine lv_lstore_n (lv' := [(3, .long (wv * (((vw ta.toNatClampNeg) - (vu ta.toNatClampNeg)).toInt64))), (6, .int (bz (f_m_has vc vh (vq xi.toNatClampNeg) ch))), (0, .ref mo), (1, .int ta), (2, .int ch), (5, .int xi)]) hx hb d_m_weight_114 rfl hl (by decide) rfl (fun ls hl => ?_)
                    refine lv_goto (tgt := 143) hx hb d_m_weight_115 (by decide) ?_
                    refine lv_iinc (v := xi + 1) (lv' := [(5, .int (xi + 1)), (3, .long (wv * (((vw ta.toNatClampNeg) - (vu ta.toNatClampNeg)).toInt64))), (6, .int (bz (f_m_has vc vh (vq xi.toNatClampNeg) ch))), (0, .ref mo), (1, .int ta), (2, .int ch)]) hx hb d_m_weight_143 hl (k := 5) rfl rfl (by decide) rfl (fun ls hl => ?_)
                    refine lv_goto (tgt := 49) hx hb d_m_weight_146 (by decide) ?_
                    refine ro_to (by rw [L_m_weight_49_s, if_neg c5, if_pos c6, if_pos c8]) ?_
                    exact ih (k + 1) (wv * (((vw ta.toNatClampNeg) - (vu ta.toNatClampNeg)).toInt64)) (xi + 1) ls (by omega) (by omega) (by rw [hxi]; exact nI_1 _)  (lv_sub hl [3, 4, 5, 1, 0] rfl)
          refine ro_to (by rw [f_m_weight, if_pos c1, if_pos c2, if_pos c3, if_neg c4]) ?_
          exact loop 16 0 1 (15 * ta) ls rfl (Nat.zero_le _) (w_st htt)  (lv_sub hl [2, 3, 4, 1, 0] rfl)
        · have c4 := bz_t c4
          refine lv_lconst (v := 0) hx hb d_m_weight_39 (by decide) ?_
          exact ro_lret FX (by rw [f_m_weight, if_pos c1, if_pos c2, if_pos c3, if_pos c4]) d_m_weight_40
theorem d_m_part_0 : decode b_m_part 0 = .ok (.aload_n 0, 1) := by decide +kernel
theorem d_m_part_1 : decode b_m_part 1 = .ok (.iload_n 1, 1) := by decide +kernel
theorem d_m_part_2 : decode b_m_part 2 = .ok (.invokevirtual 85, 3) := by decide +kernel
theorem d_m_part_5 : decode b_m_part 5 = .ok (.ifCond .eq 11, 3) := by decide +kernel
theorem d_m_part_8 : decode b_m_part 8 = .ok (.aload_n 0, 1) := by decide +kernel
theorem d_m_part_9 : decode b_m_part 9 = .ok (.iload_n 2, 1) := by decide +kernel
theorem d_m_part_10 : decode b_m_part 10 = .ok (.invokevirtual 68, 3) := by decide +kernel
theorem d_m_part_13 : decode b_m_part 13 = .ok (.ifCond .ne 5, 3) := by decide +kernel
theorem d_m_part_16 : decode b_m_part 16 = .ok (.lconst 0, 1) := by decide +kernel
theorem d_m_part_17 : decode b_m_part 17 = .ok (.lreturn, 1) := by decide +kernel
theorem d_m_part_18 : decode b_m_part 18 = .ok (.lconst 0, 1) := by decide +kernel
theorem d_m_part_19 : decode b_m_part 19 = .ok (.lstore_n 3, 1) := by decide +kernel
theorem d_m_part_20 : decode b_m_part 20 = .ok (.iconst 0, 1) := by decide +kernel
theorem d_m_part_21 : decode b_m_part 21 = .ok (.istore 5, 2) := by decide +kernel
theorem d_m_part_23 : decode b_m_part 23 = .ok (.iload 5, 2) := by decide +kernel
theorem d_m_part_25 : decode b_m_part 25 = .ok (.aload_n 0, 1) := by decide +kernel
theorem d_m_part_26 : decode b_m_part 26 = .ok (.getfield 53, 3) := by decide +kernel
theorem d_m_part_29 : decode b_m_part 29 = .ok (.if_icmp .ge 29, 3) := by decide +kernel
theorem d_m_part_32 : decode b_m_part 32 = .ok (.aload_n 0, 1) := by decide +kernel
theorem d_m_part_33 : decode b_m_part 33 = .ok (.iload_n 2, 1) := by decide +kernel
theorem d_m_part_34 : decode b_m_part 34 = .ok (.iload 5, 2) := by decide +kernel
theorem d_m_part_36 : decode b_m_part 36 = .ok (.invokevirtual 75, 3) := by decide +kernel
theorem d_m_part_39 : decode b_m_part 39 = .ok (.ifCond .eq 13, 3) := by decide +kernel
theorem d_m_part_42 : decode b_m_part 42 = .ok (.lload_n 3, 1) := by decide +kernel
theorem d_m_part_43 : decode b_m_part 43 = .ok (.aload_n 0, 1) := by decide +kernel
theorem d_m_part_44 : decode b_m_part 44 = .ok (.iload_n 1, 1) := by decide +kernel
theorem d_m_part_45 : decode b_m_part 45 = .ok (.iload 5, 2) := by decide +kernel
theorem d_m_part_47 : decode b_m_part 47 = .ok (.invokevirtual 81, 3) := by decide +kernel
theorem d_m_part_50 : decode b_m_part 50 = .ok (.ladd, 1) := by decide +kernel
theorem d_m_part_51 : decode b_m_part 51 = .ok (.lstore_n 3, 1) := by decide +kernel
theorem d_m_part_52 : decode b_m_part 52 = .ok (.iinc 5 1, 3) := by decide +kernel
theorem d_m_part_55 : decode b_m_part 55 = .ok (.goto (-32), 3) := by decide +kernel
theorem d_m_part_58 : decode b_m_part 58 = .ok (.lload_n 3, 1) := by decide +kernel
theorem d_m_part_59 : decode b_m_part 59 = .ok (.lreturn, 1) := by decide +kernel
def L_m_part_23 (vc : Int32) (vh : Nat → Bool) (vt : Int32) (vg : Nat → Bool) (vo : Nat → Bool) (vd : Nat → Int32) (vu : Nat → Int32) (vw : Nat → Int32) (va : Nat → Int32) (vq : Nat → Int32) (vf : Nat → Bool) (ta : Int32) (ch : Int32) : Nat → Int64 → Int32 → Int64
  | 0, _, _ => 0
  | n + 1, ac, xi => if vc ≤ xi then
    (ac)
  else
    (if (f_m_has vc vh ch xi) = true then
      (L_m_part_23 vc vh vt vg vo vd vu vw va vq vf ta ch n (ac + (f_m_weight vc vh vt vg vo vd vu vw va vq vf ta xi)) (xi + 1))
    else
      (L_m_part_23 vc vh vt vg vo vd vu vw va vq vf ta ch n ac (xi + 1)))
theorem L_m_part_23_s (vc : Int32) (vh : Nat → Bool) (vt : Int32) (vg : Nat → Bool) (vo : Nat → Bool) (vd : Nat → Int32) (vu : Nat → Int32) (vw : Nat → Int32) (va : Nat → Int32) (vq : Nat → Int32) (vf : Nat → Bool) (ta : Int32) (ch : Int32) (n : Nat) (ac : Int64) (xi : Int32) : L_m_part_23 vc vh vt vg vo vd vu vw va vq vf ta ch (n + 1) ac xi = if vc ≤ xi then
    (ac)
  else
    (if (f_m_has vc vh ch xi) = true then
      (L_m_part_23 vc vh vt vg vo vd vu vw va vq vf ta ch n (ac + (f_m_weight vc vh vt vg vo vd vu vw va vq vf ta xi)) (xi + 1))
    else
      (L_m_part_23 vc vh vt vg vo vd vu vw va vq vf ta ch n ac (xi + 1))) := rfl
def f_m_part (vc : Int32) (vh : Nat → Bool) (vt : Int32) (vg : Nat → Bool) (vo : Nat → Bool) (vd : Nat → Int32) (vu : Nat → Int32) (vw : Nat → Int32) (va : Nat → Int32) (vq : Nat → Int32) (vf : Nat → Bool) (ta : Int32) (ch : Int32) : Int64 := if (f_m_isSearch vt vo ta) = true then
    (if (f_m_isChange vc ch) = true then
      (L_m_part_23 vc vh vt vg vo vd vu vw va vq vf ta ch 41 0 0)
    else
      (0))
  else
    (0)
set_option maxHeartbeats 4000000 in
set_option maxRecDepth 100000 in
theorem c_m_part (l : Launch) (D : va_G) (cA : Nat → ClassId) (mo qp qh qk qb qg qo qd qu qw qs qx qa qq qf : Nat) (vc : Int32) (vp : Nat → Int32) (vh : Nat → Bool) (vk : Nat → Bool) (vb : Nat → Bool) (vt : Int32) (vg : Nat → Bool) (vo : Nat → Bool) (vd : Nat → Int32) (vu : Nat → Int32) (vw : Nat → Int32) (vs : Nat → Int32) (vx : Nat → Int32) (va : Nat → Int32) (vq : Nat → Int32) (vf : Nat → Bool) (ta : Int32) (ch : Int32) (cn : Nat) (hcn : cn ≤ 40) (hvc : vc = nI cn) (tn : Nat) (htn : tn ≤ 4) (hvt : vt = nI tn) (hva : ∀ i, i < 4 → ∃ a, a ≤ 15 ∧ va i = nI a) : Met l y_m_part (.code y_m_part b_m_part 6 (some .long) :: tb) (rmd 5) (Pro D cA [.ref mo, .int ta, .int ch] (va_P D classes [(mo, .inr (3, [.int vc, .ref qp, .ref qh, .ref qk, .ref qb, .int vt, .ref qg, .ref qo, .ref qd, .ref qu, .ref qw, .ref qs, .ref qx, .ref qa, .ref qq, .ref qf])), (qp, .inl (cA 2, 120, .inl vp)), (qh, .inl (cA 3, 1600, .inl (fun i => bz (vh i)))), (qk, .inl (cA 3, 40, .inl (fun i => bz (vk i)))), (qb, .inl (cA 3, 40, .inl (fun i => bz (vb i)))), (qg, .inl (cA 3, 160, .inl (fun i => bz (vg i)))), (qo, .inl (cA 3, 4, .inl (fun i => bz (vo i)))), (qd, .inl (cA 2, 4, .inl vd)), (qu, .inl (cA 2, 4, .inl vu)), (qw, .inl (cA 2, 4, .inl vw)), (qs, .inl (cA 2, 4, .inl vs)), (qx, .inl (cA 2, 4, .inl vx)), (qa, .inl (cA 2, 4, .inl va)), (qq, .inl (cA 2, 60, .inl vq)), (qf, .inl (cA 3, 60, .inl (fun i => bz (vf i))))])) (Qro (.long (f_m_part vc vh vt vg vo vd vu vw va vq vf ta ch))) 0 0 nof := by
  refine ro_in (by decide) (Nat.le_of_ble_eq_true rfl) (fun p e s m below meth c ls FX hnm hK hP hl => ?_)
  have hl : lv_has ls 6 [(0, .ref mo), (1, .int ta), (2, .int ch)] := hl
  have hP : va_P D classes [(mo, .inr (3, [.int vc, .ref qp, .ref qh, .ref qk, .ref qb, .int vt, .ref qg, .ref qo, .ref qd, .ref qu, .ref qw, .ref qs, .ref qx, .ref qa, .ref qq, .ref qf])), (qp, .inl (cA 2, 120, .inl vp)), (qh, .inl (cA 3, 1600, .inl (fun i => bz (vh i)))), (qk, .inl (cA 3, 40, .inl (fun i => bz (vk i)))), (qb, .inl (cA 3, 40, .inl (fun i => bz (vb i)))), (qg, .inl (cA 3, 160, .inl (fun i => bz (vg i)))), (qo, .inl (cA 3, 4, .inl (fun i => bz (vo i)))), (qd, .inl (cA 2, 4, .inl vd)), (qu, .inl (cA 2, 4, .inl vu)), (qw, .inl (cA 2, 4, .inl vw)), (qs, .inl (cA 2, 4, .inl vs)), (qx, .inl (cA 2, 4, .inl vx)), (qa, .inl (cA 2, 4, .inl va)), (qq, .inl (cA 2, 60, .inl vq)), (qf, .inl (cA 3, 60, .inl (fun i => bz (vf i))))] s.heap := hP
  generalize ([.ref mo, .int ta, .int ch] : List Value).toArray = args at FX ⊢
  obtain ⟨hx, hb, hml, hown, hts, hr, hlk⟩ := id FX
  refine lv_aload_n hx hb d_m_part_0 rfl (lv_at hl 0 rfl) ?_
  refine lv_iload_n hx hb d_m_part_1 rfl (lv_at hl 1 rfl) ?_
  refine ro_V (v := .int (bz (f_m_isSearch vt vo ta))) (As := [.int ta]) (rest := []) (q0 := 0) FX hK (c_m_isSearch l D cA mo qp qh qk qb qg qo qd qu qw qs qx qa qq qf vc vp vh vk vb vt vg vo vd vu vw vs vx va vq vf ta cn hcn hvc tn htn hvt hva) hP hP rfl rfl rfl kc_m_isSearch km_m_85 ki_m ks_m_isSearch ke_m_isSearch rfl ok_m_isSearch ⟨Nat.le_of_ble_eq_true rfl, Nat.le_of_ble_eq_true rfl⟩ ⟨Nat.zero_le _, Nat.zero_le _⟩ hl.1 rfl (Nat.le_of_ble_eq_true rfl) d_m_part_2 ?_
  refine lv_if_eq (tgt := 16) hx hb d_m_part_5 (by decide) (fun c1 => ?_) (fun c1 => ?_)
  · have c1 := bz_f c1
    refine lv_lconst (v := 0) hx hb d_m_part_16 (by decide) ?_
    exact ro_lret FX (by rw [f_m_part, if_neg c1]) d_m_part_17
  · have c1 := bz_t c1
    refine lv_aload_n hx hb d_m_part_8 rfl (lv_at hl 0 rfl) ?_
    refine lv_iload_n hx hb d_m_part_9 rfl (lv_at hl 2 rfl) ?_
    refine ro_V (v := .int (bz (f_m_isChange vc ch))) (As := [.int ch]) (rest := []) (q0 := 0) FX hK (c_m_isChange l D cA mo qp qh qk qb qg qo qd qu qw qs qx qa qq qf vc vp vh vk vb vt vg vo vd vu vw vs vx va vq vf ch) hP hP rfl rfl rfl kc_m_isChange km_m_68 ki_m ks_m_isChange ke_m_isChange rfl ok_m_isChange ⟨Nat.le_of_ble_eq_true rfl, Nat.le_of_ble_eq_true rfl⟩ ⟨Nat.zero_le _, Nat.zero_le _⟩ hl.1 rfl (Nat.le_of_ble_eq_true rfl) d_m_part_10 ?_
    refine lv_if_ne (tgt := 18) hx hb d_m_part_13 (by decide) (fun c2 => ?_) (fun c2 => ?_)
    · have c2 := bz_t c2
      refine lv_lconst (v := 0) hx hb d_m_part_18 (by decide) ?_
      refine lv_lstore_n (lv' := [(3, .long 0), (0, .ref mo), (1, .int ta), (2, .int ch)]) hx hb d_m_part_19 rfl hl (by decide) rfl (fun ls hl => ?_)
      refine lv_iconst (v := 0) hx hb d_m_part_20 (by decide) ?_
      refine lv_istore (lv' := [(5, .int 0), (3, .long 0), (0, .ref mo), (1, .int ta), (2, .int ch)]) hx hb d_m_part_21 hl (by decide) rfl (fun ls hl => ?_)
      have loop : ∀ (n k : Nat) (ac : Int64) (xi : Int32) (ls : Array Slot), k + n = 41 → k ≤ 40 → xi = nI k → lv_has ls 6 [(0, .ref mo), (1, .int ta), (2, .int ch), (3, .long ac), (5, .int xi)] → W p l e (rmd 5) s m args below meth c s.heap [] 0 0 (MQ below (Qro (.long (L_m_part_23 vc vh vt vg vo vd vu vw va vq vf ta ch n ac xi))) args s 0 0 nof) (F0 m 23 ls []) := by
        intro n
        induction n with
        | zero =>
          intro k ac xi ls h1 h2
          exact absurd h1 (by omega)
        | succ n ih =>
          intro k ac xi ls hkn hk hxi hl
          refine lv_iload hx hb d_m_part_23 (lv_at hl 4 rfl) ?_
          refine lv_aload_n hx hb d_m_part_25 rfl (lv_at hl 0 rfl) ?_
          refine ro_get (v := .int vc) FX hK hP 0 0 rfl rfl rfl i_m (by decide) kf_m_53 d_m_part_26 ?_
          refine lv_icmp_ge (tgt := 58) hx hb d_m_part_29 (by decide) (fun c3 => ?_) (fun c3 => ?_)
          · have c3 := c3
            refine lv_lload_n hx hb d_m_part_58 rfl (lv_at hl 3 rfl) ?_
            exact ro_lret FX (by rw [L_m_part_23_s, if_pos c3]) d_m_part_59
          · have c3 := c3
            have hk1 : k < cn := k_lt hxi hvc c3 (by omega)
            refine lv_aload_n hx hb d_m_part_32 rfl (lv_at hl 0 rfl) ?_
            refine lv_iload_n hx hb d_m_part_33 rfl (lv_at hl 2 rfl) ?_
            refine lv_iload hx hb d_m_part_34 (lv_at hl 4 rfl) ?_
            refine ro_V (v := .int (bz (f_m_has vc vh ch xi))) (As := [.int ch, .int xi]) (rest := []) (q0 := 0) FX hK (c_m_has l D cA mo qp qh qk qb qg qo qd qu qw qs qx qa qq qf vc vp vh vk vb vt vg vo vd vu vw vs vx va vq vf ch xi cn hcn hvc) hP hP rfl rfl rfl kc_m_has km_m_75 ki_m ks_m_has ke_m_has rfl ok_m_has ⟨Nat.le_of_ble_eq_true rfl, Nat.le_of_ble_eq_true rfl⟩ ⟨Nat.zero_le _, Nat.zero_le _⟩ hl.1 rfl (Nat.le_of_ble_eq_true rfl) d_m_part_36 ?_
            refine lv_if_eq (tgt := 52) hx hb d_m_part_39 (by decide) (fun c4 => ?_) (fun c4 => ?_)
            · have c4 := bz_f c4
              refine lv_iinc (v := xi + 1) (lv' := [(5, .int (xi + 1)), (0, .ref mo), (1, .int ta), (2, .int ch), (3, .long ac)]) hx hb d_m_part_52 hl (k := 4) rfl rfl (by decide) rfl (fun ls hl => ?_)
              refine lv_goto (tgt := 23) hx hb d_m_part_55 (by decide) ?_
              refine ro_to (by rw [L_m_part_23_s, if_neg c3, if_neg c4]) ?_
              exact ih (k + 1) ac (xi + 1) ls (by omega) (by omega) (by rw [hxi]; exact nI_1 _)  (lv_sub hl [1, 2, 3, 4, 0] rfl)
            · have c4 := bz_t c4
              refine lv_lload_n hx hb d_m_part_42 rfl (lv_at hl 3 rfl) ?_
              refine lv_aload_n hx hb d_m_part_43 rfl (lv_at hl 0 rfl) ?_
              refine lv_iload_n hx hb d_m_part_44 rfl (lv_at hl 1 rfl) ?_
              refine lv_iload hx hb d_m_part_45 (lv_at hl 4 rfl) ?_
              refine ro_V (v := .long (f_m_weight vc vh vt vg vo vd vu vw va vq vf ta xi)) (As := [.int ta, .int xi]) (rest := [.long ac]) (q0 := 0) FX hK (c_m_weight l D cA mo qp qh qk qb qg qo qd qu qw qs qx qa qq qf vc vp vh vk vb vt vg vo vd vu vw vs vx va vq vf ta xi cn hcn hvc tn htn hvt hva) hP hP rfl rfl rfl kc_m_weight km_m_81 ki_m ks_m_weight ke_m_weight rfl ok_m_weight ⟨Nat.le_of_ble_eq_true rfl, Nat.le_of_ble_eq_true rfl⟩ ⟨Nat.zero_le _, Nat.zero_le _⟩ hl.1 rfl (Nat.le_of_ble_eq_true rfl) d_m_part_47 ?_
              refine lv_ladd hx hb d_m_part_50 ?_
              refine lv_lstore_n (lv' := [(3, .long (ac + (f_m_weight vc vh vt vg vo vd vu vw va vq vf ta xi))), (0, .ref mo), (1, .int ta), (2, .int ch), (5, .int xi)]) hx hb d_m_part_51 rfl hl (by decide) rfl (fun ls hl => ?_)
              refine lv_iinc (v := xi + 1) (lv' := [(5, .int (xi + 1)), (3, .long (ac + (f_m_weight vc vh vt vg vo vd vu vw va vq vf ta xi))), (0, .ref mo), (1, .int ta), (2, .int ch)]) hx hb d_m_part_52 hl (k := 4) rfl rfl (by decide) rfl (fun ls hl => ?_)
              refine lv_goto (tgt := 23) hx hb d_m_part_55 (by decide) ?_
              refine ro_to (by rw [L_m_part_23_s, if_neg c3, if_pos c4]) ?_
              exact ih (k + 1) (ac + (f_m_weight vc vh vt vg vo vd vu vw va vq vf ta xi)) (xi + 1) ls (by omega) (by omega) (by rw [hxi]; exact nI_1 _)  (lv_sub hl [2, 3, 4, 1, 0] rfl)
      refine ro_to (by rw [f_m_part, if_pos c1, if_pos c2]) ?_
      exact loop 41 0 0 0 ls rfl (Nat.zero_le _) rfl  (lv_sub hl [2, 3, 4, 1, 0] rfl)
    · have c2 := bz_f c2
      refine lv_lconst (v := 0) hx hb d_m_part_16 (by decide) ?_
      exact ro_lret FX (by rw [f_m_part, if_pos c1, if_neg c2]) d_m_part_17
theorem d_m_total_0 : decode b_m_total 0 = .ok (.aload_n 0, 1) := by decide +kernel
theorem d_m_total_1 : decode b_m_total 1 = .ok (.iload_n 1, 1) := by decide +kernel
theorem d_m_total_2 : decode b_m_total 2 = .ok (.invokevirtual 85, 3) := by decide +kernel
theorem d_m_total_5 : decode b_m_total 5 = .ok (.ifCond .ne 5, 3) := by decide +kernel
theorem d_m_total_8 : decode b_m_total 8 = .ok (.lconst 0, 1) := by decide +kernel
theorem d_m_total_9 : decode b_m_total 9 = .ok (.lreturn, 1) := by decide +kernel
theorem d_m_total_10 : decode b_m_total 10 = .ok (.lconst 0, 1) := by decide +kernel
theorem d_m_total_11 : decode b_m_total 11 = .ok (.lstore_n 2, 1) := by decide +kernel
theorem d_m_total_12 : decode b_m_total 12 = .ok (.iconst 0, 1) := by decide +kernel
theorem d_m_total_13 : decode b_m_total 13 = .ok (.istore 4, 2) := by decide +kernel
theorem d_m_total_15 : decode b_m_total 15 = .ok (.iload 4, 2) := by decide +kernel
theorem d_m_total_17 : decode b_m_total 17 = .ok (.aload_n 0, 1) := by decide +kernel
theorem d_m_total_18 : decode b_m_total 18 = .ok (.getfield 53, 3) := by decide +kernel
theorem d_m_total_21 : decode b_m_total 21 = .ok (.if_icmp .ge 19, 3) := by decide +kernel
theorem d_m_total_24 : decode b_m_total 24 = .ok (.lload_n 2, 1) := by decide +kernel
theorem d_m_total_25 : decode b_m_total 25 = .ok (.aload_n 0, 1) := by decide +kernel
theorem d_m_total_26 : decode b_m_total 26 = .ok (.iload_n 1, 1) := by decide +kernel
theorem d_m_total_27 : decode b_m_total 27 = .ok (.iload 4, 2) := by decide +kernel
theorem d_m_total_29 : decode b_m_total 29 = .ok (.invokevirtual 81, 3) := by decide +kernel
theorem d_m_total_32 : decode b_m_total 32 = .ok (.ladd, 1) := by decide +kernel
theorem d_m_total_33 : decode b_m_total 33 = .ok (.lstore_n 2, 1) := by decide +kernel
theorem d_m_total_34 : decode b_m_total 34 = .ok (.iinc 4 1, 3) := by decide +kernel
theorem d_m_total_37 : decode b_m_total 37 = .ok (.goto (-22), 3) := by decide +kernel
theorem d_m_total_40 : decode b_m_total 40 = .ok (.lload_n 2, 1) := by decide +kernel
theorem d_m_total_41 : decode b_m_total 41 = .ok (.lreturn, 1) := by decide +kernel
def L_m_total_15 (vc : Int32) (vh : Nat → Bool) (vt : Int32) (vg : Nat → Bool) (vo : Nat → Bool) (vd : Nat → Int32) (vu : Nat → Int32) (vw : Nat → Int32) (va : Nat → Int32) (vq : Nat → Int32) (vf : Nat → Bool) (ta : Int32) : Nat → Int64 → Int32 → Int64
  | 0, _, _ => 0
  | n + 1, ac, xi => if vc ≤ xi then
    (ac)
  else
    (L_m_total_15 vc vh vt vg vo vd vu vw va vq vf ta n (ac + (f_m_weight vc vh vt vg vo vd vu vw va vq vf ta xi)) (xi + 1))
theorem L_m_total_15_s (vc : Int32) (vh : Nat → Bool) (vt : Int32) (vg : Nat → Bool) (vo : Nat → Bool) (vd : Nat → Int32) (vu : Nat → Int32) (vw : Nat → Int32) (va : Nat → Int32) (vq : Nat → Int32) (vf : Nat → Bool) (ta : Int32) (n : Nat) (ac : Int64) (xi : Int32) : L_m_total_15 vc vh vt vg vo vd vu vw va vq vf ta (n + 1) ac xi = if vc ≤ xi then
    (ac)
  else
    (L_m_total_15 vc vh vt vg vo vd vu vw va vq vf ta n (ac + (f_m_weight vc vh vt vg vo vd vu vw va vq vf ta xi)) (xi + 1)) := rfl
def f_m_total (vc : Int32) (vh : Nat → Bool) (vt : Int32) (vg : Nat → Bool) (vo : Nat → Bool) (vd : Nat → Int32) (vu : Nat → Int32) (vw : Nat → Int32) (va : Nat → Int32) (vq : Nat → Int32) (vf : Nat → Bool) (ta : Int32) : Int64 := if (f_m_isSearch vt vo ta) = true then
    (L_m_total_15 vc vh vt vg vo vd vu vw va vq vf ta 41 0 0)
  else
    (0)
set_option maxHeartbeats 4000000 in
set_option maxRecDepth 100000 in
theorem c_m_total (l : Launch) (D : va_G) (cA : Nat → ClassId) (mo qp qh qk qb qg qo qd qu qw qs qx qa qq qf : Nat) (vc : Int32) (vp : Nat → Int32) (vh : Nat → Bool) (vk : Nat → Bool) (vb : Nat → Bool) (vt : Int32) (vg : Nat → Bool) (vo : Nat → Bool) (vd : Nat → Int32) (vu : Nat → Int32) (vw : Nat → Int32) (vs : Nat → Int32) (vx : Nat → Int32) (va : Nat → Int32) (vq : Nat → Int32) (vf : Nat → Bool) (ta : Int32) (cn : Nat) (hcn : cn ≤ 40) (hvc : vc = nI cn) (tn : Nat) (htn : tn ≤ 4) (hvt : vt = nI tn) (hva : ∀ i, i < 4 → ∃ a, a ≤ 15 ∧ va i = nI a) : Met l y_m_total (.code y_m_total b_m_total 5 (some .long) :: tb) (rmd 5) (Pro D cA [.ref mo, .int ta] (va_P D classes [(mo, .inr (3, [.int vc, .ref qp, .ref qh, .ref qk, .ref qb, .int vt, .ref qg, .ref qo, .ref qd, .ref qu, .ref qw, .ref qs, .ref qx, .ref qa, .ref qq, .ref qf])), (qp, .inl (cA 2, 120, .inl vp)), (qh, .inl (cA 3, 1600, .inl (fun i => bz (vh i)))), (qk, .inl (cA 3, 40, .inl (fun i => bz (vk i)))), (qb, .inl (cA 3, 40, .inl (fun i => bz (vb i)))), (qg, .inl (cA 3, 160, .inl (fun i => bz (vg i)))), (qo, .inl (cA 3, 4, .inl (fun i => bz (vo i)))), (qd, .inl (cA 2, 4, .inl vd)), (qu, .inl (cA 2, 4, .inl vu)), (qw, .inl (cA 2, 4, .inl vw)), (qs, .inl (cA 2, 4, .inl vs)), (qx, .inl (cA 2, 4, .inl vx)), (qa, .inl (cA 2, 4, .inl va)), (qq, .inl (cA 2, 60, .inl vq)), (qf, .inl (cA 3, 60, .inl (fun i => bz (vf i))))])) (Qro (.long (f_m_total vc vh vt vg vo vd vu vw va vq vf ta))) 0 0 nof := by
  refine ro_in (by decide) (Nat.le_of_ble_eq_true rfl) (fun p e s m below meth c ls FX hnm hK hP hl => ?_)
  have hl : lv_has ls 5 [(0, .ref mo), (1, .int ta)] := hl
  have hP : va_P D classes [(mo, .inr (3, [.int vc, .ref qp, .ref qh, .ref qk, .ref qb, .int vt, .ref qg, .ref qo, .ref qd, .ref qu, .ref qw, .ref qs, .ref qx, .ref qa, .ref qq, .ref qf])), (qp, .inl (cA 2, 120, .inl vp)), (qh, .inl (cA 3, 1600, .inl (fun i => bz (vh i)))), (qk, .inl (cA 3, 40, .inl (fun i => bz (vk i)))), (qb, .inl (cA 3, 40, .inl (fun i => bz (vb i)))), (qg, .inl (cA 3, 160, .inl (fun i => bz (vg i)))), (qo, .inl (cA 3, 4, .inl (fun i => bz (vo i)))), (qd, .inl (cA 2, 4, .inl vd)), (qu, .inl (cA 2, 4, .inl vu)), (qw, .inl (cA 2, 4, .inl vw)), (qs, .inl (cA 2, 4, .inl vs)), (qx, .inl (cA 2, 4, .inl vx)), (qa, .inl (cA 2, 4, .inl va)), (qq, .inl (cA 2, 60, .inl vq)), (qf, .inl (cA 3, 60, .inl (fun i => bz (vf i))))] s.heap := hP
  generalize ([.ref mo, .int ta] : List Value).toArray = args at FX ⊢
  obtain ⟨hx, hb, hml, hown, hts, hr, hlk⟩ := id FX
  refine lv_aload_n hx hb d_m_total_0 rfl (lv_at hl 0 rfl) ?_
  refine lv_iload_n hx hb d_m_total_1 rfl (lv_at hl 1 rfl) ?_
  refine ro_V (v := .int (bz (f_m_isSearch vt vo ta))) (As := [.int ta]) (rest := []) (q0 := 0) FX hK (c_m_isSearch l D cA mo qp qh qk qb qg qo qd qu qw qs qx qa qq qf vc vp vh vk vb vt vg vo vd vu vw vs vx va vq vf ta cn hcn hvc tn htn hvt hva) hP hP rfl rfl rfl kc_m_isSearch km_m_85 ki_m ks_m_isSearch ke_m_isSearch rfl ok_m_isSearch ⟨Nat.le_of_ble_eq_true rfl, Nat.le_of_ble_eq_true rfl⟩ ⟨Nat.zero_le _, Nat.zero_le _⟩ hl.1 rfl (Nat.le_of_ble_eq_true rfl) d_m_total_2 ?_
  refine lv_if_ne (tgt := 10) hx hb d_m_total_5 (by decide) (fun c1 => ?_) (fun c1 => ?_)
  · have c1 := bz_t c1
    refine lv_lconst (v := 0) hx hb d_m_total_10 (by decide) ?_
    refine lv_lstore_n (lv' := [(2, .long 0), (0, .ref mo), (1, .int ta)]) hx hb d_m_total_11 rfl hl (by decide) rfl (fun ls hl => ?_)
    refine lv_iconst (v := 0) hx hb d_m_total_12 (by decide) ?_
    refine lv_istore (lv' := [(4, .int 0), (2, .long 0), (0, .ref mo), (1, .int ta)]) hx hb d_m_total_13 hl (by decide) rfl (fun ls hl => ?_)
    have loop : ∀ (n k : Nat) (ac : Int64) (xi : Int32) (ls : Array Slot), k + n = 41 → k ≤ 40 → xi = nI k → lv_has ls 5 [(0, .ref mo), (1, .int ta), (2, .long ac), (4, .int xi)] → W p l e (rmd 5) s m args below meth c s.heap [] 0 0 (MQ below (Qro (.long (L_m_total_15 vc vh vt vg vo vd vu vw va vq vf ta n ac xi))) args s 0 0 nof) (F0 m 15 ls []) := by
      intro n
      induction n with
      | zero =>
        intro k ac xi ls h1 h2
        exact absurd h1 (by omega)
      | succ n ih =>
        intro k ac xi ls hkn hk hxi hl
        refine lv_iload hx hb d_m_total_15 (lv_at hl 3 rfl) ?_
        refine lv_aload_n hx hb d_m_total_17 rfl (lv_at hl 0 rfl) ?_
        refine ro_get (v := .int vc) FX hK hP 0 0 rfl rfl rfl i_m (by decide) kf_m_53 d_m_total_18 ?_
        refine lv_icmp_ge (tgt := 40) hx hb d_m_total_21 (by decide) (fun c2 => ?_) (fun c2 => ?_)
        · have c2 := c2
          refine lv_lload_n hx hb d_m_total_40 rfl (lv_at hl 2 rfl) ?_
          exact ro_lret FX (by rw [L_m_total_15_s, if_pos c2]) d_m_total_41
        · have c2 := c2
          have hk1 : k < cn := k_lt hxi hvc c2 (by omega)
          refine lv_lload_n hx hb d_m_total_24 rfl (lv_at hl 2 rfl) ?_
          refine lv_aload_n hx hb d_m_total_25 rfl (lv_at hl 0 rfl) ?_
          refine lv_iload_n hx hb d_m_total_26 rfl (lv_at hl 1 rfl) ?_
          refine lv_iload hx hb d_m_total_27 (lv_at hl 3 rfl) ?_
          refine ro_V (v := .long (f_m_weight vc vh vt vg vo vd vu vw va vq vf ta xi)) (As := [.int ta, .int xi]) (rest := [.long ac]) (q0 := 0) FX hK (c_m_weight l D cA mo qp qh qk qb qg qo qd qu qw qs qx qa qq qf vc vp vh vk vb vt vg vo vd vu vw vs vx va vq vf ta xi cn hcn hvc tn htn hvt hva) hP hP rfl rfl rfl kc_m_weight km_m_81 ki_m ks_m_weight ke_m_weight rfl ok_m_weight ⟨Nat.le_of_ble_eq_true rfl, Nat.le_of_ble_eq_true rfl⟩ ⟨Nat.zero_le _, Nat.zero_le _⟩ hl.1 rfl (Nat.le_of_ble_eq_true rfl) d_m_total_29 ?_
          refine lv_ladd hx hb d_m_total_32 ?_
          refine lv_lstore_n (lv' := [(2, .long (ac + (f_m_weight vc vh vt vg vo vd vu vw va vq vf ta xi))), (0, .ref mo), (1, .int ta), (4, .int xi)]) hx hb d_m_total_33 rfl hl (by decide) rfl (fun ls hl => ?_)
          refine lv_iinc (v := xi + 1) (lv' := [(4, .int (xi + 1)), (2, .long (ac + (f_m_weight vc vh vt vg vo vd vu vw va vq vf ta xi))), (0, .ref mo), (1, .int ta)]) hx hb d_m_total_34 hl (k := 3) rfl rfl (by decide) rfl (fun ls hl => ?_)
          refine lv_goto (tgt := 15) hx hb d_m_total_37 (by decide) ?_
          refine ro_to (by rw [L_m_total_15_s, if_neg c2]) ?_
          exact ih (k + 1) (ac + (f_m_weight vc vh vt vg vo vd vu vw va vq vf ta xi)) (xi + 1) ls (by omega) (by omega) (by rw [hxi]; exact nI_1 _)  (lv_sub hl [2, 3, 1, 0] rfl)
    refine ro_to (by rw [f_m_total, if_pos c1]) ?_
    exact loop 41 0 0 0 ls rfl (Nat.zero_le _) rfl  (lv_sub hl [2, 3, 1, 0] rfl)
  · have c1 := bz_f c1
    refine lv_lconst (v := 0) hx hb d_m_total_8 (by decide) ?_
    exact ro_lret FX (by rw [f_m_total, if_neg c1]) d_m_total_9
theorem d_m_heavy_0 : decode b_m_heavy 0 = .ok (.aload_n 0, 1) := by decide +kernel
theorem d_m_heavy_1 : decode b_m_heavy 1 = .ok (.iload_n 1, 1) := by decide +kernel
theorem d_m_heavy_2 : decode b_m_heavy 2 = .ok (.invokevirtual 88, 3) := by decide +kernel
theorem d_m_heavy_5 : decode b_m_heavy 5 = .ok (.lstore_n 2, 1) := by decide +kernel
theorem d_m_heavy_6 : decode b_m_heavy 6 = .ok (.iconst 0, 1) := by decide +kernel
theorem d_m_heavy_7 : decode b_m_heavy 7 = .ok (.istore 4, 2) := by decide +kernel
theorem d_m_heavy_9 : decode b_m_heavy 9 = .ok (.iload 4, 2) := by decide +kernel
theorem d_m_heavy_11 : decode b_m_heavy 11 = .ok (.aload_n 0, 1) := by decide +kernel
theorem d_m_heavy_12 : decode b_m_heavy 12 = .ok (.getfield 53, 3) := by decide +kernel
theorem d_m_heavy_15 : decode b_m_heavy 15 = .ok (.if_icmp .ge 47, 3) := by decide +kernel
theorem d_m_heavy_18 : decode b_m_heavy 18 = .ok (.aload_n 0, 1) := by decide +kernel
theorem d_m_heavy_19 : decode b_m_heavy 19 = .ok (.iload_n 1, 1) := by decide +kernel
theorem d_m_heavy_20 : decode b_m_heavy 20 = .ok (.iload 4, 2) := by decide +kernel
theorem d_m_heavy_22 : decode b_m_heavy 22 = .ok (.invokevirtual 81, 3) := by decide +kernel
theorem d_m_heavy_25 : decode b_m_heavy 25 = .ok (.lstore 5, 2) := by decide +kernel
theorem d_m_heavy_27 : decode b_m_heavy 27 = .ok (.lload 5, 2) := by decide +kernel
theorem d_m_heavy_29 : decode b_m_heavy 29 = .ok (.lconst 0, 1) := by decide +kernel
theorem d_m_heavy_30 : decode b_m_heavy 30 = .ok (.lcmp, 1) := by decide +kernel
theorem d_m_heavy_31 : decode b_m_heavy 31 = .ok (.ifCond .le 25, 3) := by decide +kernel
theorem d_m_heavy_34 : decode b_m_heavy 34 = .ok (.ldc2_w 92, 3) := by decide +kernel
theorem d_m_heavy_37 : decode b_m_heavy 37 = .ok (.lload 5, 2) := by decide +kernel
theorem d_m_heavy_39 : decode b_m_heavy 39 = .ok (.lmul, 1) := by decide +kernel
theorem d_m_heavy_40 : decode b_m_heavy 40 = .ok (.aload_n 0, 1) := by decide +kernel
theorem d_m_heavy_41 : decode b_m_heavy 41 = .ok (.getfield 38, 3) := by decide +kernel
theorem d_m_heavy_44 : decode b_m_heavy 44 = .ok (.iload_n 1, 1) := by decide +kernel
theorem d_m_heavy_45 : decode b_m_heavy 45 = .ok (.iaload, 1) := by decide +kernel
theorem d_m_heavy_46 : decode b_m_heavy 46 = .ok (.i2l, 1) := by decide +kernel
theorem d_m_heavy_47 : decode b_m_heavy 47 = .ok (.lload_n 2, 1) := by decide +kernel
theorem d_m_heavy_48 : decode b_m_heavy 48 = .ok (.lmul, 1) := by decide +kernel
theorem d_m_heavy_49 : decode b_m_heavy 49 = .ok (.lcmp, 1) := by decide +kernel
theorem d_m_heavy_50 : decode b_m_heavy 50 = .ok (.ifCond .lt 6, 3) := by decide +kernel
theorem d_m_heavy_53 : decode b_m_heavy 53 = .ok (.iload 4, 2) := by decide +kernel
theorem d_m_heavy_55 : decode b_m_heavy 55 = .ok (.ireturn, 1) := by decide +kernel
theorem d_m_heavy_56 : decode b_m_heavy 56 = .ok (.iinc 4 1, 3) := by decide +kernel
theorem d_m_heavy_59 : decode b_m_heavy 59 = .ok (.goto (-50), 3) := by decide +kernel
theorem d_m_heavy_62 : decode b_m_heavy 62 = .ok (.iconst (-1), 1) := by decide +kernel
theorem d_m_heavy_63 : decode b_m_heavy 63 = .ok (.ireturn, 1) := by decide +kernel
def L_m_heavy_9 (vc : Int32) (vh : Nat → Bool) (vt : Int32) (vg : Nat → Bool) (vo : Nat → Bool) (vd : Nat → Int32) (vu : Nat → Int32) (vw : Nat → Int32) (vs : Nat → Int32) (va : Nat → Int32) (vq : Nat → Int32) (vf : Nat → Bool) (ta : Int32) : Nat → Int32 → Int32
  | 0, _ => 0
  | n + 1, xi => if vc ≤ xi then
    ((-1))
  else
    (if 0 < (f_m_weight vc vh vt vg vo vd vu vw va vq vf ta xi) then
      (if (100 * (f_m_weight vc vh vt vg vo vd vu vw va vq vf ta xi)) < (((vs ta.toNatClampNeg).toInt64) * (f_m_total vc vh vt vg vo vd vu vw va vq vf ta)) then
        (L_m_heavy_9 vc vh vt vg vo vd vu vw vs va vq vf ta n (xi + 1))
      else
        (xi))
    else
      (L_m_heavy_9 vc vh vt vg vo vd vu vw vs va vq vf ta n (xi + 1)))
theorem L_m_heavy_9_s (vc : Int32) (vh : Nat → Bool) (vt : Int32) (vg : Nat → Bool) (vo : Nat → Bool) (vd : Nat → Int32) (vu : Nat → Int32) (vw : Nat → Int32) (vs : Nat → Int32) (va : Nat → Int32) (vq : Nat → Int32) (vf : Nat → Bool) (ta : Int32) (n : Nat) (xi : Int32) : L_m_heavy_9 vc vh vt vg vo vd vu vw vs va vq vf ta (n + 1) xi = if vc ≤ xi then
    ((-1))
  else
    (if 0 < (f_m_weight vc vh vt vg vo vd vu vw va vq vf ta xi) then
      (if (100 * (f_m_weight vc vh vt vg vo vd vu vw va vq vf ta xi)) < (((vs ta.toNatClampNeg).toInt64) * (f_m_total vc vh vt vg vo vd vu vw va vq vf ta)) then
        (L_m_heavy_9 vc vh vt vg vo vd vu vw vs va vq vf ta n (xi + 1))
      else
        (xi))
    else
      (L_m_heavy_9 vc vh vt vg vo vd vu vw vs va vq vf ta n (xi + 1))) := rfl
def f_m_heavy (vc : Int32) (vh : Nat → Bool) (vt : Int32) (vg : Nat → Bool) (vo : Nat → Bool) (vd : Nat → Int32) (vu : Nat → Int32) (vw : Nat → Int32) (vs : Nat → Int32) (va : Nat → Int32) (vq : Nat → Int32) (vf : Nat → Bool) (ta : Int32) : Int32 := L_m_heavy_9 vc vh vt vg vo vd vu vw vs va vq vf ta 41 0
set_option maxHeartbeats 4000000 in
set_option maxRecDepth 100000 in
theorem c_m_heavy (l : Launch) (D : va_G) (cA : Nat → ClassId) (mo qp qh qk qb qg qo qd qu qw qs qx qa qq qf : Nat) (vc : Int32) (vp : Nat → Int32) (vh : Nat → Bool) (vk : Nat → Bool) (vb : Nat → Bool) (vt : Int32) (vg : Nat → Bool) (vo : Nat → Bool) (vd : Nat → Int32) (vu : Nat → Int32) (vw : Nat → Int32) (vs : Nat → Int32) (vx : Nat → Int32) (va : Nat → Int32) (vq : Nat → Int32) (vf : Nat → Bool) (ta : Int32) (cn : Nat) (hcn : cn ≤ 40) (hvc : vc = nI cn) (tn : Nat) (htn : tn ≤ 4) (hvt : vt = nI tn) (hva : ∀ i, i < 4 → ∃ a, a ≤ 15 ∧ va i = nI a) (tj : Nat) (htj : tj < 4) (htt : ta = nI tj) : Met l y_m_heavy (.code y_m_heavy b_m_heavy 7 (some .int) :: tb) (rmd 6) (Pro D cA [.ref mo, .int ta] (va_P D classes [(mo, .inr (3, [.int vc, .ref qp, .ref qh, .ref qk, .ref qb, .int vt, .ref qg, .ref qo, .ref qd, .ref qu, .ref qw, .ref qs, .ref qx, .ref qa, .ref qq, .ref qf])), (qp, .inl (cA 2, 120, .inl vp)), (qh, .inl (cA 3, 1600, .inl (fun i => bz (vh i)))), (qk, .inl (cA 3, 40, .inl (fun i => bz (vk i)))), (qb, .inl (cA 3, 40, .inl (fun i => bz (vb i)))), (qg, .inl (cA 3, 160, .inl (fun i => bz (vg i)))), (qo, .inl (cA 3, 4, .inl (fun i => bz (vo i)))), (qd, .inl (cA 2, 4, .inl vd)), (qu, .inl (cA 2, 4, .inl vu)), (qw, .inl (cA 2, 4, .inl vw)), (qs, .inl (cA 2, 4, .inl vs)), (qx, .inl (cA 2, 4, .inl vx)), (qa, .inl (cA 2, 4, .inl va)), (qq, .inl (cA 2, 60, .inl vq)), (qf, .inl (cA 3, 60, .inl (fun i => bz (vf i))))])) (Qro (.int (f_m_heavy vc vh vt vg vo vd vu vw vs va vq vf ta))) 0 0 nof := by
  refine ro_in (by decide) (Nat.le_of_ble_eq_true rfl) (fun p e s m below meth c ls FX hnm hK hP hl => ?_)
  have hl : lv_has ls 7 [(0, .ref mo), (1, .int ta)] := hl
  have hP : va_P D classes [(mo, .inr (3, [.int vc, .ref qp, .ref qh, .ref qk, .ref qb, .int vt, .ref qg, .ref qo, .ref qd, .ref qu, .ref qw, .ref qs, .ref qx, .ref qa, .ref qq, .ref qf])), (qp, .inl (cA 2, 120, .inl vp)), (qh, .inl (cA 3, 1600, .inl (fun i => bz (vh i)))), (qk, .inl (cA 3, 40, .inl (fun i => bz (vk i)))), (qb, .inl (cA 3, 40, .inl (fun i => bz (vb i)))), (qg, .inl (cA 3, 160, .inl (fun i => bz (vg i)))), (qo, .inl (cA 3, 4, .inl (fun i => bz (vo i)))), (qd, .inl (cA 2, 4, .inl vd)), (qu, .inl (cA 2, 4, .inl vu)), (qw, .inl (cA 2, 4, .inl vw)), (qs, .inl (cA 2, 4, .inl vs)), (qx, .inl (cA 2, 4, .inl vx)), (qa, .inl (cA 2, 4, .inl va)), (qq, .inl (cA 2, 60, .inl vq)), (qf, .inl (cA 3, 60, .inl (fun i => bz (vf i))))] s.heap := hP
  generalize ([.ref mo, .int ta] : List Value).toArray = args at FX ⊢
  obtain ⟨hx, hb, hml, hown, hts, hr, hlk⟩ := id FX
  refine lv_aload_n hx hb d_m_heavy_0 rfl (lv_at hl 0 rfl) ?_
  refine lv_iload_n hx hb d_m_heavy_1 rfl (lv_at hl 1 rfl) ?_
  refine ro_V (v := .long (f_m_total vc vh vt vg vo vd vu vw va vq vf ta)) (As := [.int ta]) (rest := []) (q0 := 0) FX hK (c_m_total l D cA mo qp qh qk qb qg qo qd qu qw qs qx qa qq qf vc vp vh vk vb vt vg vo vd vu vw vs vx va vq vf ta cn hcn hvc tn htn hvt hva) hP hP rfl rfl rfl kc_m_total km_m_88 ki_m ks_m_total ke_m_total rfl ok_m_total ⟨Nat.le_of_ble_eq_true rfl, Nat.le_of_ble_eq_true rfl⟩ ⟨Nat.zero_le _, Nat.zero_le _⟩ hl.1 rfl (Nat.le_of_ble_eq_true rfl) d_m_heavy_2 ?_
  refine lv_lstore_n (lv' := [(2, .long (f_m_total vc vh vt vg vo vd vu vw va vq vf ta)), (0, .ref mo), (1, .int ta)]) hx hb d_m_heavy_5 rfl hl (by decide) rfl (fun ls hl => ?_)
  refine lv_iconst (v := 0) hx hb d_m_heavy_6 (by decide) ?_
  refine lv_istore (lv' := [(4, .int 0), (2, .long (f_m_total vc vh vt vg vo vd vu vw va vq vf ta)), (0, .ref mo), (1, .int ta)]) hx hb d_m_heavy_7 hl (by decide) rfl (fun ls hl => ?_)
  have loop : ∀ (n k : Nat) (xi : Int32) (ls : Array Slot), k + n = 41 → k ≤ 40 → xi = nI k → lv_has ls 7 [(0, .ref mo), (1, .int ta), (2, .long (f_m_total vc vh vt vg vo vd vu vw va vq vf ta)), (4, .int xi)] → W p l e (rmd 6) s m args below meth c s.heap [] 0 0 (MQ below (Qro (.int (L_m_heavy_9 vc vh vt vg vo vd vu vw vs va vq vf ta n xi))) args s 0 0 nof) (F0 m 9 ls []) := by
    intro n
    induction n with
    | zero =>
      intro k xi ls h1 h2
      exact absurd h1 (by omega)
    | succ n ih =>
      intro k xi ls hkn hk hxi hl
      refine lv_iload hx hb d_m_heavy_9 (lv_at hl 3 rfl) ?_
      refine lv_aload_n hx hb d_m_heavy_11 rfl (lv_at hl 0 rfl) ?_
      refine ro_get (v := .int vc) FX hK hP 0 0 rfl rfl rfl i_m (by decide) kf_m_53 d_m_heavy_12 ?_
      refine lv_icmp_ge (tgt := 62) hx hb d_m_heavy_15 (by decide) (fun c1 => ?_) (fun c1 => ?_)
      · have c1 := c1
        refine lv_iconst (v := (-1)) hx hb d_m_heavy_62 (by decide) ?_
        exact ro_iret FX (by rw [L_m_heavy_9_s, if_pos c1]) d_m_heavy_63
      · have c1 := c1
        have hk1 : k < cn := k_lt hxi hvc c1 (by omega)
        refine lv_aload_n hx hb d_m_heavy_18 rfl (lv_at hl 0 rfl) ?_
        refine lv_iload_n hx hb d_m_heavy_19 rfl (lv_at hl 1 rfl) ?_
        refine lv_iload hx hb d_m_heavy_20 (lv_at hl 3 rfl) ?_
        refine ro_V (v := .long (f_m_weight vc vh vt vg vo vd vu vw va vq vf ta xi)) (As := [.int ta, .int xi]) (rest := []) (q0 := 0) FX hK (c_m_weight l D cA mo qp qh qk qb qg qo qd qu qw qs qx qa qq qf vc vp vh vk vb vt vg vo vd vu vw vs vx va vq vf ta xi cn hcn hvc tn htn hvt hva) hP hP rfl rfl rfl kc_m_weight km_m_81 ki_m ks_m_weight ke_m_weight rfl ok_m_weight ⟨Nat.le_of_ble_eq_true rfl, Nat.le_of_ble_eq_true rfl⟩ ⟨Nat.zero_le _, Nat.zero_le _⟩ hl.1 rfl (Nat.le_of_ble_eq_true rfl) d_m_heavy_22 ?_
        refine lv_lstore (lv' := [(5, .long (f_m_weight vc vh vt vg vo vd vu vw va vq vf ta xi)), (0, .ref mo), (1, .int ta), (2, .long (f_m_total vc vh vt vg vo vd vu vw va vq vf ta)), (4, .int xi)]) hx hb d_m_heavy_25 hl (by decide) rfl (fun ls hl => ?_)
        refine lv_lload hx hb d_m_heavy_27 (lv_at hl 0 rfl) ?_
        refine lv_lconst (v := 0) hx hb d_m_heavy_29 (by decide) ?_
        refine W.lcmp hx hb d_m_heavy_30 ?_
        refine lv_if_le (tgt := 56) hx hb d_m_heavy_31 (by decide) (fun c2 => ?_) (fun c2 => ?_)
        · have c2 := cp_le c2
          refine lv_iinc (v := xi + 1) (lv' := [(4, .int (xi + 1)), (5, .long (f_m_weight vc vh vt vg vo vd vu vw va vq vf ta xi)), (0, .ref mo), (1, .int ta), (2, .long (f_m_total vc vh vt vg vo vd vu vw va vq vf ta))]) hx hb d_m_heavy_56 hl (k := 4) rfl rfl (by decide) rfl (fun ls hl => ?_)
          refine lv_goto (tgt := 9) hx hb d_m_heavy_59 (by decide) ?_
          refine ro_to (by rw [L_m_heavy_9_s, if_neg c1, if_neg c2]) ?_
          exact ih (k + 1) (xi + 1) ls (by omega) (by omega) (by rw [hxi]; exact nI_1 _)  (lv_sub hl [2, 3, 4, 0] rfl)
        · have c2 := cp_nle c2
          refine lv_ldc2 (v := 100) hx hb hown (hts _ kl_m_92) d_m_heavy_34 ?_
          refine lv_lload hx hb d_m_heavy_37 (lv_at hl 0 rfl) ?_
          refine lv_lmul hx hb d_m_heavy_39 ?_
          refine lv_aload_n hx hb d_m_heavy_40 rfl (lv_at hl 1 rfl) ?_
          refine ro_get (v := .ref qs) FX hK hP 0 11 rfl rfl rfl i_m (by decide) kf_m_38 d_m_heavy_41 ?_
          refine lv_iload_n hx hb d_m_heavy_44 rfl (lv_at hl 2 rfl) ?_
          refine va_iald hx hb hK.1 hP 10 2 rfl rfl (vin htt (by omega) (by decide)) d_m_heavy_45 ?_
          refine lv_i2l (v := (vs ta.toNatClampNeg).toInt64) hx hb d_m_heavy_46 rfl ?_
          refine lv_lload_n hx hb d_m_heavy_47 rfl (lv_at hl 3 rfl) ?_
          refine lv_lmul hx hb d_m_heavy_48 ?_
          refine W.lcmp hx hb d_m_heavy_49 ?_
          refine lv_if_lt (tgt := 56) hx hb d_m_heavy_50 (by decide) (fun c3 => ?_) (fun c3 => ?_)
          · have c3 := cp_lt c3
            refine lv_iinc (v := xi + 1) (lv' := [(4, .int (xi + 1)), (5, .long (f_m_weight vc vh vt vg vo vd vu vw va vq vf ta xi)), (0, .ref mo), (1, .int ta), (2, .long (f_m_total vc vh vt vg vo vd vu vw va vq vf ta))]) hx hb d_m_heavy_56 hl (k := 4) rfl rfl (by decide) rfl (fun ls hl => ?_)
            refine lv_goto (tgt := 9) hx hb d_m_heavy_59 (by decide) ?_
            refine ro_to (by rw [L_m_heavy_9_s, if_neg c1, if_pos c2, if_pos c3]) ?_
            exact ih (k + 1) (xi + 1) ls (by omega) (by omega) (by rw [hxi]; exact nI_1 _)  (lv_sub hl [2, 3, 4, 0] rfl)
          · have c3 := cp_nlt c3
            refine lv_iload hx hb d_m_heavy_53 (lv_at hl 4 rfl) ?_
            exact ro_iret FX (by rw [L_m_heavy_9_s, if_neg c1, if_pos c2, if_neg c3]) d_m_heavy_55
  refine ro_to (by rw [f_m_heavy]) ?_
  exact loop 41 0 0 ls rfl (Nat.zero_le _) rfl  (lv_sub hl [2, 3, 1, 0] rfl)
theorem d_m_even_0 : decode b_m_even 0 = .ok (.aload_n 0, 1) := by decide +kernel
theorem d_m_even_1 : decode b_m_even 1 = .ok (.iload_n 1, 1) := by decide +kernel
theorem d_m_even_2 : decode b_m_even 2 = .ok (.invokevirtual 88, 3) := by decide +kernel
theorem d_m_even_5 : decode b_m_even 5 = .ok (.lstore_n 2, 1) := by decide +kernel
theorem d_m_even_6 : decode b_m_even 6 = .ok (.iconst (-1), 1) := by decide +kernel
theorem d_m_even_7 : decode b_m_even 7 = .ok (.istore 4, 2) := by decide +kernel
theorem d_m_even_9 : decode b_m_even 9 = .ok (.lconst 0, 1) := by decide +kernel
theorem d_m_even_10 : decode b_m_even 10 = .ok (.lstore 5, 2) := by decide +kernel
theorem d_m_even_12 : decode b_m_even 12 = .ok (.iconst 0, 1) := by decide +kernel
theorem d_m_even_13 : decode b_m_even 13 = .ok (.istore 7, 2) := by decide +kernel
theorem d_m_even_15 : decode b_m_even 15 = .ok (.iload 7, 2) := by decide +kernel
theorem d_m_even_17 : decode b_m_even 17 = .ok (.aload_n 0, 1) := by decide +kernel
theorem d_m_even_18 : decode b_m_even 18 = .ok (.getfield 53, 3) := by decide +kernel
theorem d_m_even_21 : decode b_m_even 21 = .ok (.if_icmp .ge 127, 3) := by decide +kernel
theorem d_m_even_24 : decode b_m_even 24 = .ok (.aload_n 0, 1) := by decide +kernel
theorem d_m_even_25 : decode b_m_even 25 = .ok (.iload_n 1, 1) := by decide +kernel
theorem d_m_even_26 : decode b_m_even 26 = .ok (.iload 7, 2) := by decide +kernel
theorem d_m_even_28 : decode b_m_even 28 = .ok (.invokevirtual 94, 3) := by decide +kernel
theorem d_m_even_31 : decode b_m_even 31 = .ok (.lstore 8, 2) := by decide +kernel
theorem d_m_even_33 : decode b_m_even 33 = .ok (.aload_n 0, 1) := by decide +kernel
theorem d_m_even_34 : decode b_m_even 34 = .ok (.getfield 17, 3) := by decide +kernel
theorem d_m_even_37 : decode b_m_even 37 = .ok (.iload 7, 2) := by decide +kernel
theorem d_m_even_39 : decode b_m_even 39 = .ok (.baload, 1) := by decide +kernel
theorem d_m_even_40 : decode b_m_even 40 = .ok (.ifCond .ne 102, 3) := by decide +kernel
theorem d_m_even_43 : decode b_m_even 43 = .ok (.lload 8, 2) := by decide +kernel
theorem d_m_even_45 : decode b_m_even 45 = .ok (.lconst 0, 1) := by decide +kernel
theorem d_m_even_46 : decode b_m_even 46 = .ok (.lcmp, 1) := by decide +kernel
theorem d_m_even_47 : decode b_m_even 47 = .ok (.ifCond .le 95, 3) := by decide +kernel
theorem d_m_even_50 : decode b_m_even 50 = .ok (.lload 8, 2) := by decide +kernel
theorem d_m_even_52 : decode b_m_even 52 = .ok (.lload_n 2, 1) := by decide +kernel
theorem d_m_even_53 : decode b_m_even 53 = .ok (.lcmp, 1) := by decide +kernel
theorem d_m_even_54 : decode b_m_even 54 = .ok (.ifCond .lt 6, 3) := by decide +kernel
theorem d_m_even_57 : decode b_m_even 57 = .ok (.goto 85, 3) := by decide +kernel
theorem d_m_even_60 : decode b_m_even 60 = .ok (.ldc2_w 97, 3) := by decide +kernel
theorem d_m_even_63 : decode b_m_even 63 = .ok (.lload 8, 2) := by decide +kernel
theorem d_m_even_65 : decode b_m_even 65 = .ok (.lmul, 1) := by decide +kernel
theorem d_m_even_66 : decode b_m_even 66 = .ok (.lload_n 2, 1) := by decide +kernel
theorem d_m_even_67 : decode b_m_even 67 = .ok (.lcmp, 1) := by decide +kernel
theorem d_m_even_68 : decode b_m_even 68 = .ok (.ifCond .le 14, 3) := by decide +kernel
theorem d_m_even_71 : decode b_m_even 71 = .ok (.ldc2_w 97, 3) := by decide +kernel
theorem d_m_even_74 : decode b_m_even 74 = .ok (.lload 8, 2) := by decide +kernel
theorem d_m_even_76 : decode b_m_even 76 = .ok (.lmul, 1) := by decide +kernel
theorem d_m_even_77 : decode b_m_even 77 = .ok (.lload_n 2, 1) := by decide +kernel
theorem d_m_even_78 : decode b_m_even 78 = .ok (.lsub, 1) := by decide +kernel
theorem d_m_even_79 : decode b_m_even 79 = .ok (.goto 11, 3) := by decide +kernel
theorem d_m_even_82 : decode b_m_even 82 = .ok (.lload_n 2, 1) := by decide +kernel
theorem d_m_even_83 : decode b_m_even 83 = .ok (.ldc2_w 97, 3) := by decide +kernel
theorem d_m_even_86 : decode b_m_even 86 = .ok (.lload 8, 2) := by decide +kernel
theorem d_m_even_88 : decode b_m_even 88 = .ok (.lmul, 1) := by decide +kernel
theorem d_m_even_89 : decode b_m_even 89 = .ok (.lsub, 1) := by decide +kernel
theorem d_m_even_90 : decode b_m_even 90 = .ok (.lstore 10, 2) := by decide +kernel
theorem d_m_even_92 : decode b_m_even 92 = .ok (.iload 4, 2) := by decide +kernel
theorem d_m_even_94 : decode b_m_even 94 = .ok (.iconst (-1), 1) := by decide +kernel
theorem d_m_even_95 : decode b_m_even 95 = .ok (.if_icmp .eq 39, 3) := by decide +kernel
theorem d_m_even_98 : decode b_m_even 98 = .ok (.lload 10, 2) := by decide +kernel
theorem d_m_even_100 : decode b_m_even 100 = .ok (.lload 5, 2) := by decide +kernel
theorem d_m_even_102 : decode b_m_even 102 = .ok (.lcmp, 1) := by decide +kernel
theorem d_m_even_103 : decode b_m_even 103 = .ok (.ifCond .lt 31, 3) := by decide +kernel
theorem d_m_even_106 : decode b_m_even 106 = .ok (.lload 10, 2) := by decide +kernel
theorem d_m_even_108 : decode b_m_even 108 = .ok (.lload 5, 2) := by decide +kernel
theorem d_m_even_110 : decode b_m_even 110 = .ok (.lcmp, 1) := by decide +kernel
theorem d_m_even_111 : decode b_m_even 111 = .ok (.ifCond .ne 31, 3) := by decide +kernel
theorem d_m_even_114 : decode b_m_even 114 = .ok (.aload_n 0, 1) := by decide +kernel
theorem d_m_even_115 : decode b_m_even 115 = .ok (.getfield 20, 3) := by decide +kernel
theorem d_m_even_118 : decode b_m_even 118 = .ok (.iload 7, 2) := by decide +kernel
theorem d_m_even_120 : decode b_m_even 120 = .ok (.baload, 1) := by decide +kernel
theorem d_m_even_121 : decode b_m_even 121 = .ok (.ifCond .eq 21, 3) := by decide +kernel
theorem d_m_even_124 : decode b_m_even 124 = .ok (.aload_n 0, 1) := by decide +kernel
theorem d_m_even_125 : decode b_m_even 125 = .ok (.getfield 20, 3) := by decide +kernel
theorem d_m_even_128 : decode b_m_even 128 = .ok (.iload 4, 2) := by decide +kernel
theorem d_m_even_130 : decode b_m_even 130 = .ok (.baload, 1) := by decide +kernel
theorem d_m_even_131 : decode b_m_even 131 = .ok (.ifCond .ne 11, 3) := by decide +kernel
theorem d_m_even_134 : decode b_m_even 134 = .ok (.iload 7, 2) := by decide +kernel
theorem d_m_even_136 : decode b_m_even 136 = .ok (.istore 4, 2) := by decide +kernel
theorem d_m_even_138 : decode b_m_even 138 = .ok (.lload 10, 2) := by decide +kernel
theorem d_m_even_140 : decode b_m_even 140 = .ok (.lstore 5, 2) := by decide +kernel
theorem d_m_even_142 : decode b_m_even 142 = .ok (.iinc 7 1, 3) := by decide +kernel
theorem d_m_even_145 : decode b_m_even 145 = .ok (.goto (-130), 3) := by decide +kernel
theorem d_m_even_148 : decode b_m_even 148 = .ok (.iload 4, 2) := by decide +kernel
theorem d_m_even_150 : decode b_m_even 150 = .ok (.ireturn, 1) := by decide +kernel
def L_m_even_15 (vc : Int32) (vh : Nat → Bool) (vk : Nat → Bool) (vb : Nat → Bool) (vt : Int32) (vg : Nat → Bool) (vo : Nat → Bool) (vd : Nat → Int32) (vu : Nat → Int32) (vw : Nat → Int32) (va : Nat → Int32) (vq : Nat → Int32) (vf : Nat → Bool) (ta : Int32) : Nat → Int32 → Int64 → Int32 → Int32
  | 0, _, _, _ => 0
  | n + 1, be, bg, xi => if vc ≤ xi then
    (be)
  else
    (if (vk xi.toNatClampNeg) = true then
      (L_m_even_15 vc vh vk vb vt vg vo vd vu vw va vq vf ta n be bg (xi + 1))
    else
      (if 0 < (f_m_part vc vh vt vg vo vd vu vw va vq vf ta xi) then
        (if (f_m_part vc vh vt vg vo vd vu vw va vq vf ta xi) < (f_m_total vc vh vt vg vo vd vu vw va vq vf ta) then
          (if (f_m_total vc vh vt vg vo vd vu vw va vq vf ta) < (2 * (f_m_part vc vh vt vg vo vd vu vw va vq vf ta xi)) then
            (if be = (-1) then
              (L_m_even_15 vc vh vk vb vt vg vo vd vu vw va vq vf ta n xi ((2 * (f_m_part vc vh vt vg vo vd vu vw va vq vf ta xi)) - (f_m_total vc vh vt vg vo vd vu vw va vq vf ta)) (xi + 1))
            else
              (if ((2 * (f_m_part vc vh vt vg vo vd vu vw va vq vf ta xi)) - (f_m_total vc vh vt vg vo vd vu vw va vq vf ta)) < bg then
                (L_m_even_15 vc vh vk vb vt vg vo vd vu vw va vq vf ta n xi ((2 * (f_m_part vc vh vt vg vo vd vu vw va vq vf ta xi)) - (f_m_total vc vh vt vg vo vd vu vw va vq vf ta)) (xi + 1))
              else
                (if ((2 * (f_m_part vc vh vt vg vo vd vu vw va vq vf ta xi)) - (f_m_total vc vh vt vg vo vd vu vw va vq vf ta)) = bg then
                  (if (vb xi.toNatClampNeg) = true then
                    (if (vb be.toNatClampNeg) = true then
                      (L_m_even_15 vc vh vk vb vt vg vo vd vu vw va vq vf ta n be bg (xi + 1))
                    else
                      (L_m_even_15 vc vh vk vb vt vg vo vd vu vw va vq vf ta n xi ((2 * (f_m_part vc vh vt vg vo vd vu vw va vq vf ta xi)) - (f_m_total vc vh vt vg vo vd vu vw va vq vf ta)) (xi + 1)))
                  else
                    (L_m_even_15 vc vh vk vb vt vg vo vd vu vw va vq vf ta n be bg (xi + 1)))
                else
                  (L_m_even_15 vc vh vk vb vt vg vo vd vu vw va vq vf ta n be bg (xi + 1)))))
          else
            (if be = (-1) then
              (L_m_even_15 vc vh vk vb vt vg vo vd vu vw va vq vf ta n xi ((f_m_total vc vh vt vg vo vd vu vw va vq vf ta) - (2 * (f_m_part vc vh vt vg vo vd vu vw va vq vf ta xi))) (xi + 1))
            else
              (if ((f_m_total vc vh vt vg vo vd vu vw va vq vf ta) - (2 * (f_m_part vc vh vt vg vo vd vu vw va vq vf ta xi))) < bg then
                (L_m_even_15 vc vh vk vb vt vg vo vd vu vw va vq vf ta n xi ((f_m_total vc vh vt vg vo vd vu vw va vq vf ta) - (2 * (f_m_part vc vh vt vg vo vd vu vw va vq vf ta xi))) (xi + 1))
              else
                (if ((f_m_total vc vh vt vg vo vd vu vw va vq vf ta) - (2 * (f_m_part vc vh vt vg vo vd vu vw va vq vf ta xi))) = bg then
                  (if (vb xi.toNatClampNeg) = true then
                    (if (vb be.toNatClampNeg) = true then
                      (L_m_even_15 vc vh vk vb vt vg vo vd vu vw va vq vf ta n be bg (xi + 1))
                    else
                      (L_m_even_15 vc vh vk vb vt vg vo vd vu vw va vq vf ta n xi ((f_m_total vc vh vt vg vo vd vu vw va vq vf ta) - (2 * (f_m_part vc vh vt vg vo vd vu vw va vq vf ta xi))) (xi + 1)))
                  else
                    (L_m_even_15 vc vh vk vb vt vg vo vd vu vw va vq vf ta n be bg (xi + 1)))
                else
                  (L_m_even_15 vc vh vk vb vt vg vo vd vu vw va vq vf ta n be bg (xi + 1))))))
        else
          (L_m_even_15 vc vh vk vb vt vg vo vd vu vw va vq vf ta n be bg (xi + 1)))
      else
        (L_m_even_15 vc vh vk vb vt vg vo vd vu vw va vq vf ta n be bg (xi + 1))))
theorem L_m_even_15_s (vc : Int32) (vh : Nat → Bool) (vk : Nat → Bool) (vb : Nat → Bool) (vt : Int32) (vg : Nat → Bool) (vo : Nat → Bool) (vd : Nat → Int32) (vu : Nat → Int32) (vw : Nat → Int32) (va : Nat → Int32) (vq : Nat → Int32) (vf : Nat → Bool) (ta : Int32) (n : Nat) (be : Int32) (bg : Int64) (xi : Int32) : L_m_even_15 vc vh vk vb vt vg vo vd vu vw va vq vf ta (n + 1) be bg xi = if vc ≤ xi then
    (be)
  else
    (if (vk xi.toNatClampNeg) = true then
      (L_m_even_15 vc vh vk vb vt vg vo vd vu vw va vq vf ta n be bg (xi + 1))
    else
      (if 0 < (f_m_part vc vh vt vg vo vd vu vw va vq vf ta xi) then
        (if (f_m_part vc vh vt vg vo vd vu vw va vq vf ta xi) < (f_m_total vc vh vt vg vo vd vu vw va vq vf ta) then
          (if (f_m_total vc vh vt vg vo vd vu vw va vq vf ta) < (2 * (f_m_part vc vh vt vg vo vd vu vw va vq vf ta xi)) then
            (if be = (-1) then
              (L_m_even_15 vc vh vk vb vt vg vo vd vu vw va vq vf ta n xi ((2 * (f_m_part vc vh vt vg vo vd vu vw va vq vf ta xi)) - (f_m_total vc vh vt vg vo vd vu vw va vq vf ta)) (xi + 1))
            else
              (if ((2 * (f_m_part vc vh vt vg vo vd vu vw va vq vf ta xi)) - (f_m_total vc vh vt vg vo vd vu vw va vq vf ta)) < bg then
                (L_m_even_15 vc vh vk vb vt vg vo vd vu vw va vq vf ta n xi ((2 * (f_m_part vc vh vt vg vo vd vu vw va vq vf ta xi)) - (f_m_total vc vh vt vg vo vd vu vw va vq vf ta)) (xi + 1))
              else
                (if ((2 * (f_m_part vc vh vt vg vo vd vu vw va vq vf ta xi)) - (f_m_total vc vh vt vg vo vd vu vw va vq vf ta)) = bg then
                  (if (vb xi.toNatClampNeg) = true then
                    (if (vb be.toNatClampNeg) = true then
                      (L_m_even_15 vc vh vk vb vt vg vo vd vu vw va vq vf ta n be bg (xi + 1))
                    else
                      (L_m_even_15 vc vh vk vb vt vg vo vd vu vw va vq vf ta n xi ((2 * (f_m_part vc vh vt vg vo vd vu vw va vq vf ta xi)) - (f_m_total vc vh vt vg vo vd vu vw va vq vf ta)) (xi + 1)))
                  else
                    (L_m_even_15 vc vh vk vb vt vg vo vd vu vw va vq vf ta n be bg (xi + 1)))
                else
                  (L_m_even_15 vc vh vk vb vt vg vo vd vu vw va vq vf ta n be bg (xi + 1)))))
          else
            (if be = (-1) then
              (L_m_even_15 vc vh vk vb vt vg vo vd vu vw va vq vf ta n xi ((f_m_total vc vh vt vg vo vd vu vw va vq vf ta) - (2 * (f_m_part vc vh vt vg vo vd vu vw va vq vf ta xi))) (xi + 1))
            else
              (if ((f_m_total vc vh vt vg vo vd vu vw va vq vf ta) - (2 * (f_m_part vc vh vt vg vo vd vu vw va vq vf ta xi))) < bg then
                (L_m_even_15 vc vh vk vb vt vg vo vd vu vw va vq vf ta n xi ((f_m_total vc vh vt vg vo vd vu vw va vq vf ta) - (2 * (f_m_part vc vh vt vg vo vd vu vw va vq vf ta xi))) (xi + 1))
              else
                (if ((f_m_total vc vh vt vg vo vd vu vw va vq vf ta) - (2 * (f_m_part vc vh vt vg vo vd vu vw va vq vf ta xi))) = bg then
                  (if (vb xi.toNatClampNeg) = true then
                    (if (vb be.toNatClampNeg) = true then
                      (L_m_even_15 vc vh vk vb vt vg vo vd vu vw va vq vf ta n be bg (xi + 1))
                    else
                      (L_m_even_15 vc vh vk vb vt vg vo vd vu vw va vq vf ta n xi ((f_m_total vc vh vt vg vo vd vu vw va vq vf ta) - (2 * (f_m_part vc vh vt vg vo vd vu vw va vq vf ta xi))) (xi + 1)))
                  else
                    (L_m_even_15 vc vh vk vb vt vg vo vd vu vw va vq vf ta n be bg (xi + 1)))
                else
                  (L_m_even_15 vc vh vk vb vt vg vo vd vu vw va vq vf ta n be bg (xi + 1))))))
        else
          (L_m_even_15 vc vh vk vb vt vg vo vd vu vw va vq vf ta n be bg (xi + 1)))
      else
        (L_m_even_15 vc vh vk vb vt vg vo vd vu vw va vq vf ta n be bg (xi + 1)))) := rfl
def f_m_even (vc : Int32) (vh : Nat → Bool) (vk : Nat → Bool) (vb : Nat → Bool) (vt : Int32) (vg : Nat → Bool) (vo : Nat → Bool) (vd : Nat → Int32) (vu : Nat → Int32) (vw : Nat → Int32) (va : Nat → Int32) (vq : Nat → Int32) (vf : Nat → Bool) (ta : Int32) : Int32 := L_m_even_15 vc vh vk vb vt vg vo vd vu vw va vq vf ta 41 (-1) 0 0
set_option maxHeartbeats 4000000 in
set_option maxRecDepth 100000 in
theorem c_m_even (l : Launch) (D : va_G) (cA : Nat → ClassId) (mo qp qh qk qb qg qo qd qu qw qs qx qa qq qf : Nat) (vc : Int32) (vp : Nat → Int32) (vh : Nat → Bool) (vk : Nat → Bool) (vb : Nat → Bool) (vt : Int32) (vg : Nat → Bool) (vo : Nat → Bool) (vd : Nat → Int32) (vu : Nat → Int32) (vw : Nat → Int32) (vs : Nat → Int32) (vx : Nat → Int32) (va : Nat → Int32) (vq : Nat → Int32) (vf : Nat → Bool) (ta : Int32) (cn : Nat) (hcn : cn ≤ 40) (hvc : vc = nI cn) (tn : Nat) (htn : tn ≤ 4) (hvt : vt = nI tn) (hva : ∀ i, i < 4 → ∃ a, a ≤ 15 ∧ va i = nI a) : Met l y_m_even (.code y_m_even b_m_even 12 (some .int) :: tb) (rmd 6) (Pro D cA [.ref mo, .int ta] (va_P D classes [(mo, .inr (3, [.int vc, .ref qp, .ref qh, .ref qk, .ref qb, .int vt, .ref qg, .ref qo, .ref qd, .ref qu, .ref qw, .ref qs, .ref qx, .ref qa, .ref qq, .ref qf])), (qp, .inl (cA 2, 120, .inl vp)), (qh, .inl (cA 3, 1600, .inl (fun i => bz (vh i)))), (qk, .inl (cA 3, 40, .inl (fun i => bz (vk i)))), (qb, .inl (cA 3, 40, .inl (fun i => bz (vb i)))), (qg, .inl (cA 3, 160, .inl (fun i => bz (vg i)))), (qo, .inl (cA 3, 4, .inl (fun i => bz (vo i)))), (qd, .inl (cA 2, 4, .inl vd)), (qu, .inl (cA 2, 4, .inl vu)), (qw, .inl (cA 2, 4, .inl vw)), (qs, .inl (cA 2, 4, .inl vs)), (qx, .inl (cA 2, 4, .inl vx)), (qa, .inl (cA 2, 4, .inl va)), (qq, .inl (cA 2, 60, .inl vq)), (qf, .inl (cA 3, 60, .inl (fun i => bz (vf i))))])) (Qro (.int (f_m_even vc vh vk vb vt vg vo vd vu vw va vq vf ta))) 0 0 nof := by
  refine ro_in (by decide) (Nat.le_of_ble_eq_true rfl) (fun p e s m below meth c ls FX hnm hK hP hl => ?_)
  have hl : lv_has ls 12 [(0, .ref mo), (1, .int ta)] := hl
  have hP : va_P D classes [(mo, .inr (3, [.int vc, .ref qp, .ref qh, .ref qk, .ref qb, .int vt, .ref qg, .ref qo, .ref qd, .ref qu, .ref qw, .ref qs, .ref qx, .ref qa, .ref qq, .ref qf])), (qp, .inl (cA 2, 120, .inl vp)), (qh, .inl (cA 3, 1600, .inl (fun i => bz (vh i)))), (qk, .inl (cA 3, 40, .inl (fun i => bz (vk i)))), (qb, .inl (cA 3, 40, .inl (fun i => bz (vb i)))), (qg, .inl (cA 3, 160, .inl (fun i => bz (vg i)))), (qo, .inl (cA 3, 4, .inl (fun i => bz (vo i)))), (qd, .inl (cA 2, 4, .inl vd)), (qu, .inl (cA 2, 4, .inl vu)), (qw, .inl (cA 2, 4, .inl vw)), (qs, .inl (cA 2, 4, .inl vs)), (qx, .inl (cA 2, 4, .inl vx)), (qa, .inl (cA 2, 4, .inl va)), (qq, .inl (cA 2, 60, .inl vq)), (qf, .inl (cA 3, 60, .inl (fun i => bz (vf i))))] s.heap := hP
  generalize ([.ref mo, .int ta] : List Value).toArray = args at FX ⊢
  obtain ⟨hx, hb, hml, hown, hts, hr, hlk⟩ := id FX
  refine lv_aload_n hx hb d_m_even_0 rfl (lv_at hl 0 rfl) ?_
  refine lv_iload_n hx hb d_m_even_1 rfl (lv_at hl 1 rfl) ?_
  refine ro_V (v := .long (f_m_total vc vh vt vg vo vd vu vw va vq vf ta)) (As := [.int ta]) (rest := []) (q0 := 0) FX hK (c_m_total l D cA mo qp qh qk qb qg qo qd qu qw qs qx qa qq qf vc vp vh vk vb vt vg vo vd vu vw vs vx va vq vf ta cn hcn hvc tn htn hvt hva) hP hP rfl rfl rfl kc_m_total km_m_88 ki_m ks_m_total ke_m_total rfl ok_m_total ⟨Nat.le_of_ble_eq_true rfl, Nat.le_of_ble_eq_true rfl⟩ ⟨Nat.zero_le _, Nat.zero_le _⟩ hl.1 rfl (Nat.le_of_ble_eq_true rfl) d_m_even_2 ?_
  refine lv_lstore_n (lv' := [(2, .long (f_m_total vc vh vt vg vo vd vu vw va vq vf ta)), (0, .ref mo), (1, .int ta)]) hx hb d_m_even_5 rfl hl (by decide) rfl (fun ls hl => ?_)
  refine lv_iconst (v := (-1)) hx hb d_m_even_6 (by decide) ?_
  refine lv_istore (lv' := [(4, .int (-1)), (2, .long (f_m_total vc vh vt vg vo vd vu vw va vq vf ta)), (0, .ref mo), (1, .int ta)]) hx hb d_m_even_7 hl (by decide) rfl (fun ls hl => ?_)
  refine lv_lconst (v := 0) hx hb d_m_even_9 (by decide) ?_
  refine lv_lstore (lv' := [(5, .long 0), (4, .int (-1)), (2, .long (f_m_total vc vh vt vg vo vd vu vw va vq vf ta)), (0, .ref mo), (1, .int ta)]) hx hb d_m_even_10 hl (by decide) rfl (fun ls hl => ?_)
  refine lv_iconst (v := 0) hx hb d_m_even_12 (by decide) ?_
  refine lv_istore (lv' := [(7, .int 0), (5, .long 0), (4, .int (-1)), (2, .long (f_m_total vc vh vt vg vo vd vu vw va vq vf ta)), (0, .ref mo), (1, .int ta)]) hx hb d_m_even_13 hl (by decide) rfl (fun ls hl => ?_)
  have loop : ∀ (n k : Nat) (be : Int32) (bg : Int64) (xi : Int32) (ls : Array Slot), k + n = 41 → k ≤ 40 → xi = nI k → (be = (-1) ∨ ∃ b0, b0 < 40 ∧ be = nI b0) → lv_has ls 12 [(0, .ref mo), (1, .int ta), (2, .long (f_m_total vc vh vt vg vo vd vu vw va vq vf ta)), (4, .int be), (5, .long bg), (7, .int xi)] → W p l e (rmd 6) s m args below meth c s.heap [] 0 0 (MQ below (Qro (.int (L_m_even_15 vc vh vk vb vt vg vo vd vu vw va vq vf ta n be bg xi))) args s 0 0 nof) (F0 m 15 ls []) := by
    intro n
    induction n with
    | zero =>
      intro k be bg xi ls h1 h2
      exact absurd h1 (by omega)
    | succ n ih =>
      intro k be bg xi ls hkn hk hxi hbe hl
      refine lv_iload hx hb d_m_even_15 (lv_at hl 5 rfl) ?_
      refine lv_aload_n hx hb d_m_even_17 rfl (lv_at hl 0 rfl) ?_
      refine ro_get (v := .int vc) FX hK hP 0 0 rfl rfl rfl i_m (by decide) kf_m_53 d_m_even_18 ?_
      refine lv_icmp_ge (tgt := 148) hx hb d_m_even_21 (by decide) (fun c1 => ?_) (fun c1 => ?_)
      · have c1 := c1
        refine lv_iload hx hb d_m_even_148 (lv_at hl 3 rfl) ?_
        exact ro_iret FX (by rw [L_m_even_15_s, if_pos c1]) d_m_even_150
      · have c1 := c1
        have hk1 : k < cn := k_lt hxi hvc c1 (by omega)
        refine lv_aload_n hx hb d_m_even_24 rfl (lv_at hl 0 rfl) ?_
        refine lv_iload_n hx hb d_m_even_25 rfl (lv_at hl 1 rfl) ?_
        refine lv_iload hx hb d_m_even_26 (lv_at hl 5 rfl) ?_
        refine ro_V (v := .long (f_m_part vc vh vt vg vo vd vu vw va vq vf ta xi)) (As := [.int ta, .int xi]) (rest := []) (q0 := 0) FX hK (c_m_part l D cA mo qp qh qk qb qg qo qd qu qw qs qx qa qq qf vc vp vh vk vb vt vg vo vd vu vw vs vx va vq vf ta xi cn hcn hvc tn htn hvt hva) hP hP rfl rfl rfl kc_m_part km_m_94 ki_m ks_m_part ke_m_part rfl ok_m_part ⟨Nat.le_of_ble_eq_true rfl, Nat.le_of_ble_eq_true rfl⟩ ⟨Nat.zero_le _, Nat.zero_le _⟩ hl.1 rfl (Nat.le_of_ble_eq_true rfl) d_m_even_28 ?_
        refine lv_lstore (lv' := [(8, .long (f_m_part vc vh vt vg vo vd vu vw va vq vf ta xi)), (0, .ref mo), (1, .int ta), (2, .long (f_m_total vc vh vt vg vo vd vu vw va vq vf ta)), (4, .int be), (5, .long bg), (7, .int xi)]) hx hb d_m_even_31 hl (by decide) rfl (fun ls hl => ?_)
        refine lv_aload_n hx hb d_m_even_33 rfl (lv_at hl 1 rfl) ?_
        refine ro_get (v := .ref qk) FX hK hP 0 3 rfl rfl rfl i_m (by decide) kf_m_17 d_m_even_34 ?_
        refine lv_iload hx hb d_m_even_37 (lv_at hl 6 rfl) ?_
        refine va_zald hx hb hK.1 hP 3 3 rfl rfl (vin hxi (Nat.lt_of_lt_of_le hk1 (by omega)) (by decide)) d_m_even_39 ?_
        refine W.eq (g2 := F0 m 40 ls [.int (bz (vk xi.toNatClampNeg))]) rfl ?_
        refine lv_if_ne (tgt := 142) hx hb d_m_even_40 (by decide) (fun c2 => ?_) (fun c2 => ?_)
        · have c2 := bz_t c2
          refine lv_iinc (v := xi + 1) (lv' := [(7, .int (xi + 1)), (8, .long (f_m_part vc vh vt vg vo vd vu vw va vq vf ta xi)), (0, .ref mo), (1, .int ta), (2, .long (f_m_total vc vh vt vg vo vd vu vw va vq vf ta)), (4, .int be), (5, .long bg)]) hx hb d_m_even_142 hl (k := 6) rfl rfl (by decide) rfl (fun ls hl => ?_)
          refine lv_goto (tgt := 15) hx hb d_m_even_145 (by decide) ?_
          refine ro_to (by rw [L_m_even_15_s, if_neg c1, if_pos c2]) ?_
          exact ih (k + 1) be bg (xi + 1) ls (by omega) (by omega) (by rw [hxi]; exact nI_1 _) hbe (lv_sub hl [2, 3, 4, 5, 6, 0] rfl)
        · have c2 := bz_f c2
          refine lv_lload hx hb d_m_even_43 (lv_at hl 0 rfl) ?_
          refine lv_lconst (v := 0) hx hb d_m_even_45 (by decide) ?_
          refine W.lcmp hx hb d_m_even_46 ?_
          refine lv_if_le (tgt := 142) hx hb d_m_even_47 (by decide) (fun c3 => ?_) (fun c3 => ?_)
          · have c3 := cp_le c3
            refine lv_iinc (v := xi + 1) (lv' := [(7, .int (xi + 1)), (8, .long (f_m_part vc vh vt vg vo vd vu vw va vq vf ta xi)), (0, .ref mo), (1, .int ta), (2, .long (f_m_total vc vh vt vg vo vd vu vw va vq vf ta)), (4, .int be), (5, .long bg)]) hx hb d_m_even_142 hl (k := 6) rfl rfl (by decide) rfl (fun ls hl => ?_)
            refine lv_goto (tgt := 15) hx hb d_m_even_145 (by decide) ?_
            refine ro_to (by rw [L_m_even_15_s, if_neg c1, if_neg c2, if_neg c3]) ?_
            exact ih (k + 1) be bg (xi + 1) ls (by omega) (by omega) (by rw [hxi]; exact nI_1 _) hbe (lv_sub hl [2, 3, 4, 5, 6, 0] rfl)
          · have c3 := cp_nle c3
            refine lv_lload hx hb d_m_even_50 (lv_at hl 0 rfl) ?_
            refine lv_lload_n hx hb d_m_even_52 rfl (lv_at hl 3 rfl) ?_
            refine W.lcmp hx hb d_m_even_53 ?_
            refine lv_if_lt (tgt := 60) hx hb d_m_even_54 (by decide) (fun c4 => ?_) (fun c4 => ?_)
            · have c4 := cp_lt c4
              refine lv_ldc2 (v := 2) hx hb hown (hts _ kl_m_97) d_m_even_60 ?_
              refine lv_lload hx hb d_m_even_63 (lv_at hl 0 rfl) ?_
              refine lv_lmul hx hb d_m_even_65 ?_
              refine lv_lload_n hx hb d_m_even_66 rfl (lv_at hl 3 rfl) ?_
              refine W.lcmp hx hb d_m_even_67 ?_
              refine lv_if_le (tgt := 82) hx hb d_m_even_68 (by decide) (fun c5 => ?_) (fun c5 => ?_)
              · have c5 := cp_le c5
                refine lv_lload_n hx hb d_m_even_82 rfl (lv_at hl 3 rfl) ?_
                refine lv_ldc2 (v := 2) hx hb hown (hts _ kl_m_97) d_m_even_83 ?_
                refine lv_lload hx hb d_m_even_86 (lv_at hl 0 rfl) ?_
                refine lv_lmul hx hb d_m_even_88 ?_
                refine lv_lsub hx hb d_m_even_89 ?_
                refine lv_lstore (lv' := [(10, .long ((f_m_total vc vh vt vg vo vd vu vw va vq vf ta) - (2 * (f_m_part vc vh vt vg vo vd vu vw va vq vf ta xi)))), (8, .long (f_m_part vc vh vt vg vo vd vu vw va vq vf ta xi)), (0, .ref mo), (1, .int ta), (2, .long (f_m_total vc vh vt vg vo vd vu vw va vq vf ta)), (4, .int be), (5, .long bg), (7, .int xi)]) hx hb d_m_even_90 hl (by decide) rfl (fun ls hl => ?_)
                refine lv_iload hx hb d_m_even_92 (lv_at hl 5 rfl) ?_
                refine lv_iconst (v := (-1)) hx hb d_m_even_94 (by decide) ?_
                refine lv_icmp_eq (tgt := 134) hx hb d_m_even_95 (by decide) (fun c6 => ?_) (fun c6 => ?_)
                · have c6 := c6
                  refine lv_iload hx hb d_m_even_134 (lv_at hl 7 rfl) ?_
                  refine lv_istore (lv' := [(4, .int xi), (10, .long ((f_m_total vc vh vt vg vo vd vu vw va vq vf ta) - (2 * (f_m_part vc vh vt vg vo vd vu vw va vq vf ta xi)))), (8, .long (f_m_part vc vh vt vg vo vd vu vw va vq vf ta xi)), (0, .ref mo), (1, .int ta), (2, .long (f_m_total vc vh vt vg vo vd vu vw va vq vf ta)), (5, .long bg), (7, .int xi)]) hx hb d_m_even_136 hl (by decide) rfl (fun ls hl => ?_)
                  refine lv_lload hx hb d_m_even_138 (lv_at hl 1 rfl) ?_
                  refine lv_lstore (lv' := [(5, .long ((f_m_total vc vh vt vg vo vd vu vw va vq vf ta) - (2 * (f_m_part vc vh vt vg vo vd vu vw va vq vf ta xi)))), (4, .int xi), (10, .long ((f_m_total vc vh vt vg vo vd vu vw va vq vf ta) - (2 * (f_m_part vc vh vt vg vo vd vu vw va vq vf ta xi)))), (8, .long (f_m_part vc vh vt vg vo vd vu vw va vq vf ta xi)), (0, .ref mo), (1, .int ta), (2, .long (f_m_total vc vh vt vg vo vd vu vw va vq vf ta)), (7, .int xi)]) hx hb d_m_even_140 hl (by decide) rfl (fun ls hl => ?_)
                  refine lv_iinc (v := xi + 1) (lv' := [(7, .int (xi + 1)), (5, .long ((f_m_total vc vh vt vg vo vd vu vw va vq vf ta) - (2 * (f_m_part vc vh vt vg vo vd vu vw va vq vf ta xi)))), (4, .int xi), (10, .long ((f_m_total vc vh vt vg vo vd vu vw va vq vf ta) - (2 * (f_m_part vc vh vt vg vo vd vu vw va vq vf ta xi)))), (8, .long (f_m_part vc vh vt vg vo vd vu vw va vq vf ta xi)), (0, .ref mo), (1, .int ta), (2, .long (f_m_total vc vh vt vg vo vd vu vw va vq vf ta))]) hx hb d_m_even_142 hl (k := 7) rfl rfl (by decide) rfl (fun ls hl => ?_)
                  refine lv_goto (tgt := 15) hx hb d_m_even_145 (by decide) ?_
                  refine ro_to (by rw [L_m_even_15_s, if_neg c1, if_neg c2, if_pos c3, if_pos c4, if_neg c5, if_pos c6]) ?_
                  exact ih (k + 1) xi ((f_m_total vc vh vt vg vo vd vu vw va vq vf ta) - (2 * (f_m_part vc vh vt vg vo vd vu vw va vq vf ta xi))) (xi + 1) ls (by omega) (by omega) (by rw [hxi]; exact nI_1 _) (Or.inr ⟨k, by omega, hxi⟩) (lv_sub hl [5, 6, 7, 2, 1, 0] rfl)
                · have c6 := c6
                  refine lv_lload hx hb d_m_even_98 (lv_at hl 0 rfl) ?_
                  refine lv_lload hx hb d_m_even_100 (lv_at hl 6 rfl) ?_
                  refine W.lcmp hx hb d_m_even_102 ?_
                  refine lv_if_lt (tgt := 134) hx hb d_m_even_103 (by decide) (fun c7 => ?_) (fun c7 => ?_)
                  · have c7 := cp_lt c7
                    refine lv_iload hx hb d_m_even_134 (lv_at hl 7 rfl) ?_
                    refine lv_istore (lv' := [(4, .int xi), (10, .long ((f_m_total vc vh vt vg vo vd vu vw va vq vf ta) - (2 * (f_m_part vc vh vt vg vo vd vu vw va vq vf ta xi)))), (8, .long (f_m_part vc vh vt vg vo vd vu vw va vq vf ta xi)), (0, .ref mo), (1, .int ta), (2, .long (f_m_total vc vh vt vg vo vd vu vw va vq vf ta)), (5, .long bg), (7, .int xi)]) hx hb d_m_even_136 hl (by decide) rfl (fun ls hl => ?_)
                    refine lv_lload hx hb d_m_even_138 (lv_at hl 1 rfl) ?_
                    refine lv_lstore (lv' := [(5, .long ((f_m_total vc vh vt vg vo vd vu vw va vq vf ta) - (2 * (f_m_part vc vh vt vg vo vd vu vw va vq vf ta xi)))), (4, .int xi), (10, .long ((f_m_total vc vh vt vg vo vd vu vw va vq vf ta) - (2 * (f_m_part vc vh vt vg vo vd vu vw va vq vf ta xi)))), (8, .long (f_m_part vc vh vt vg vo vd vu vw va vq vf ta xi)), (0, .ref mo), (1, .int ta), (2, .long (f_m_total vc vh vt vg vo vd vu vw va vq vf ta)), (7, .int xi)]) hx hb d_m_even_140 hl (by decide) rfl (fun ls hl => ?_)
                    refine lv_iinc (v := xi + 1) (lv' := [(7, .int (xi + 1)), (5, .long ((f_m_total vc vh vt vg vo vd vu vw va vq vf ta) - (2 * (f_m_part vc vh vt vg vo vd vu vw va vq vf ta xi)))), (4, .int xi), (10, .long ((f_m_total vc vh vt vg vo vd vu vw va vq vf ta) - (2 * (f_m_part vc vh vt vg vo vd vu vw va vq vf ta xi)))), (8, .long (f_m_part vc vh vt vg vo vd vu vw va vq vf ta xi)), (0, .ref mo), (1, .int ta), (2, .long (f_m_total vc vh vt vg vo vd vu vw va vq vf ta))]) hx hb d_m_even_142 hl (k := 7) rfl rfl (by decide) rfl (fun ls hl => ?_)
                    refine lv_goto (tgt := 15) hx hb d_m_even_145 (by decide) ?_
                    refine ro_to (by rw [L_m_even_15_s, if_neg c1, if_neg c2, if_pos c3, if_pos c4, if_neg c5, if_neg c6, if_pos c7]) ?_
                    exact ih (k + 1) xi ((f_m_total vc vh vt vg vo vd vu vw va vq vf ta) - (2 * (f_m_part vc vh vt vg vo vd vu vw va vq vf ta xi))) (xi + 1) ls (by omega) (by omega) (by rw [hxi]; exact nI_1 _) (Or.inr ⟨k, by omega, hxi⟩) (lv_sub hl [5, 6, 7, 2, 1, 0] rfl)
                  · have c7 := cp_nlt c7
                    refine lv_lload hx hb d_m_even_106 (lv_at hl 0 rfl) ?_
                    refine lv_lload hx hb d_m_even_108 (lv_at hl 6 rfl) ?_
                    refine W.lcmp hx hb d_m_even_110 ?_
                    refine lv_if_ne (tgt := 142) hx hb d_m_even_111 (by decide) (fun c8 => ?_) (fun c8 => ?_)
                    · have c8 := cp_ne c8
                      refine lv_iinc (v := xi + 1) (lv' := [(7, .int (xi + 1)), (10, .long ((f_m_total vc vh vt vg vo vd vu vw va vq vf ta) - (2 * (f_m_part vc vh vt vg vo vd vu vw va vq vf ta xi)))), (8, .long (f_m_part vc vh vt vg vo vd vu vw va vq vf ta xi)), (0, .ref mo), (1, .int ta), (2, .long (f_m_total vc vh vt vg vo vd vu vw va vq vf ta)), (4, .int be), (5, .long bg)]) hx hb d_m_even_142 hl (k := 7) rfl rfl (by decide) rfl (fun ls hl => ?_)
                      refine lv_goto (tgt := 15) hx hb d_m_even_145 (by decide) ?_
                      refine ro_to (by rw [L_m_even_15_s, if_neg c1, if_neg c2, if_pos c3, if_pos c4, if_neg c5, if_neg c6, if_neg c7, if_neg c8]) ?_
                      exact ih (k + 1) be bg (xi + 1) ls (by omega) (by omega) (by rw [hxi]; exact nI_1 _) hbe (lv_sub hl [3, 4, 5, 6, 7, 0] rfl)
                    · have c8 := cp_eq c8
                      refine lv_aload_n hx hb d_m_even_114 rfl (lv_at hl 2 rfl) ?_
                      refine ro_get (v := .ref qb) FX hK hP 0 4 rfl rfl rfl i_m (by decide) kf_m_20 d_m_even_115 ?_
                      refine lv_iload hx hb d_m_even_118 (lv_at hl 7 rfl) ?_
                      refine va_zald hx hb hK.1 hP 4 3 rfl rfl (vin hxi (Nat.lt_of_lt_of_le hk1 (by omega)) (by decide)) d_m_even_120 ?_
                      refine W.eq (g2 := F0 m 121 ls [.int (bz (vb xi.toNatClampNeg))]) rfl ?_
                      refine lv_if_eq (tgt := 142) hx hb d_m_even_121 (by decide) (fun c9 => ?_) (fun c9 => ?_)
                      · have c9 := bz_f c9
                        refine lv_iinc (v := xi + 1) (lv' := [(7, .int (xi + 1)), (10, .long ((f_m_total vc vh vt vg vo vd vu vw va vq vf ta) - (2 * (f_m_part vc vh vt vg vo vd vu vw va vq vf ta xi)))), (8, .long (f_m_part vc vh vt vg vo vd vu vw va vq vf ta xi)), (0, .ref mo), (1, .int ta), (2, .long (f_m_total vc vh vt vg vo vd vu vw va vq vf ta)), (4, .int be), (5, .long bg)]) hx hb d_m_even_142 hl (k := 7) rfl rfl (by decide) rfl (fun ls hl => ?_)
                        refine lv_goto (tgt := 15) hx hb d_m_even_145 (by decide) ?_
                        refine ro_to (by rw [L_m_even_15_s, if_neg c1, if_neg c2, if_pos c3, if_pos c4, if_neg c5, if_neg c6, if_neg c7, if_pos c8, if_neg c9]) ?_
                        exact ih (k + 1) be bg (xi + 1) ls (by omega) (by omega) (by rw [hxi]; exact nI_1 _) hbe (lv_sub hl [3, 4, 5, 6, 7, 0] rfl)
                      · have c9 := bz_t c9
                        refine lv_aload_n hx hb d_m_even_124 rfl (lv_at hl 2 rfl) ?_
                        refine ro_get (v := .ref qb) FX hK hP 0 4 rfl rfl rfl i_m (by decide) kf_m_20 d_m_even_125 ?_
                        refine lv_iload hx hb d_m_even_128 (lv_at hl 5 rfl) ?_
                        refine va_zald hx hb hK.1 hP 4 3 rfl rfl (be_in hbe c6) d_m_even_130 ?_
                        refine W.eq (g2 := F0 m 131 ls [.int (bz (vb be.toNatClampNeg))]) rfl ?_
                        refine lv_if_ne (tgt := 142) hx hb d_m_even_131 (by decide) (fun c10 => ?_) (fun c10 => ?_)
                        · have c10 := bz_t c10
                          refine lv_iinc (v := xi + 1) (lv' := [(7, .int (xi + 1)), (10, .long ((f_m_total vc vh vt vg vo vd vu vw va vq vf ta) - (2 * (f_m_part vc vh vt vg vo vd vu vw va vq vf ta xi)))), (8, .long (f_m_part vc vh vt vg vo vd vu vw va vq vf ta xi)), (0, .ref mo), (1, .int ta), (2, .long (f_m_total vc vh vt vg vo vd vu vw va vq vf ta)), (4, .int be), (5, .long bg)]) hx hb d_m_even_142 hl (k := 7) rfl rfl (by decide) rfl (fun ls hl => ?_)
                          refine lv_goto (tgt := 15) hx hb d_m_even_145 (by decide) ?_
                          refine ro_to (by rw [L_m_even_15_s, if_neg c1, if_neg c2, if_pos c3, if_pos c4, if_neg c5, if_neg c6, if_neg c7, if_pos c8, if_pos c9, if_pos c10]) ?_
                          exact ih (k + 1) be bg (xi + 1) ls (by omega) (by omega) (by rw [hxi]; exact nI_1 _) hbe (lv_sub hl [3, 4, 5, 6, 7, 0] rfl)
                        · have c10 := bz_f c10
                          refine lv_iload hx hb d_m_even_134 (lv_at hl 7 rfl) ?_
                          refine lv_istore (lv' := [(4, .int xi), (10, .long ((f_m_total vc vh vt vg vo vd vu vw va vq vf ta) - (2 * (f_m_part vc vh vt vg vo vd vu vw va vq vf ta xi)))), (8, .long (f_m_part vc vh vt vg vo vd vu vw va vq vf ta xi)), (0, .ref mo), (1, .int ta), (2, .long (f_m_total vc vh vt vg vo vd vu vw va vq vf ta)), (5, .long bg), (7, .int xi)]) hx hb d_m_even_136 hl (by decide) rfl (fun ls hl => ?_)
                          refine lv_lload hx hb d_m_even_138 (lv_at hl 1 rfl) ?_
                          refine lv_lstore (lv' := [(5, .long ((f_m_total vc vh vt vg vo vd vu vw va vq vf ta) - (2 * (f_m_part vc vh vt vg vo vd vu vw va vq vf ta xi)))), (4, .int xi), (10, .long ((f_m_total vc vh vt vg vo vd vu vw va vq vf ta) - (2 * (f_m_part vc vh vt vg vo vd vu vw va vq vf ta xi)))), (8, .long (f_m_part vc vh vt vg vo vd vu vw va vq vf ta xi)), (0, .ref mo), (1, .int ta), (2, .long (f_m_total vc vh vt vg vo vd vu vw va vq vf ta)), (7, .int xi)]) hx hb d_m_even_140 hl (by decide) rfl (fun ls hl => ?_)
                          refine lv_iinc (v := xi + 1) (lv' := [(7, .int (xi + 1)), (5, .long ((f_m_total vc vh vt vg vo vd vu vw va vq vf ta) - (2 * (f_m_part vc vh vt vg vo vd vu vw va vq vf ta xi)))), (4, .int xi), (10, .long ((f_m_total vc vh vt vg vo vd vu vw va vq vf ta) - (2 * (f_m_part vc vh vt vg vo vd vu vw va vq vf ta xi)))), (8, .long (f_m_part vc vh vt vg vo vd vu vw va vq vf ta xi)), (0, .ref mo), (1, .int ta), (2, .long (f_m_total vc vh vt vg vo vd vu vw va vq vf ta))]) hx hb d_m_even_142 hl (k := 7) rfl rfl (by decide) rfl (fun ls hl => ?_)
                          refine lv_goto (tgt := 15) hx hb d_m_even_145 (by decide) ?_
                          refine ro_to (by rw [L_m_even_15_s, if_neg c1, if_neg c2, if_pos c3, if_pos c4, if_neg c5, if_neg c6, if_neg c7, if_pos c8, if_pos c9, if_neg c10]) ?_
                          exact ih (k + 1) xi ((f_m_total vc vh vt vg vo vd vu vw va vq vf ta) - (2 * (f_m_part vc vh vt vg vo vd vu vw va vq vf ta xi))) (xi + 1) ls (by omega) (by omega) (by rw [hxi]; exact nI_1 _) (Or.inr ⟨k, by omega, hxi⟩) (lv_sub hl [5, 6, 7, 2, 1, 0] rfl)
              · have c5 := cp_nle c5
                refine lv_ldc2 (v := 2) hx hb hown (hts _ kl_m_97) d_m_even_71 ?_
                refine lv_lload hx hb d_m_even_74 (lv_at hl 0 rfl) ?_
                refine lv_lmul hx hb d_m_even_76 ?_
                refine lv_lload_n hx hb d_m_even_77 rfl (lv_at hl 3 rfl) ?_
                refine lv_lsub hx hb d_m_even_78 ?_
                refine lv_goto (tgt := 90) hx hb d_m_even_79 (by decide) ?_
                refine lv_lstore (lv' := [(10, .long ((2 * (f_m_part vc vh vt vg vo vd vu vw va vq vf ta xi)) - (f_m_total vc vh vt vg vo vd vu vw va vq vf ta))), (8, .long (f_m_part vc vh vt vg vo vd vu vw va vq vf ta xi)), (0, .ref mo), (1, .int ta), (2, .long (f_m_total vc vh vt vg vo vd vu vw va vq vf ta)), (4, .int be), (5, .long bg), (7, .int xi)]) hx hb d_m_even_90 hl (by decide) rfl (fun ls hl => ?_)
                refine lv_iload hx hb d_m_even_92 (lv_at hl 5 rfl) ?_
                refine lv_iconst (v := (-1)) hx hb d_m_even_94 (by decide) ?_
                refine lv_icmp_eq (tgt := 134) hx hb d_m_even_95 (by decide) (fun c11 => ?_) (fun c11 => ?_)
                · have c11 := c11
                  refine lv_iload hx hb d_m_even_134 (lv_at hl 7 rfl) ?_
                  refine lv_istore (lv' := [(4, .int xi), (10, .long ((2 * (f_m_part vc vh vt vg vo vd vu vw va vq vf ta xi)) - (f_m_total vc vh vt vg vo vd vu vw va vq vf ta))), (8, .long (f_m_part vc vh vt vg vo vd vu vw va vq vf ta xi)), (0, .ref mo), (1, .int ta), (2, .long (f_m_total vc vh vt vg vo vd vu vw va vq vf ta)), (5, .long bg), (7, .int xi)]) hx hb d_m_even_136 hl (by decide) rfl (fun ls hl => ?_)
                  refine lv_lload hx hb d_m_even_138 (lv_at hl 1 rfl) ?_
                  refine lv_lstore (lv' := [(5, .long ((2 * (f_m_part vc vh vt vg vo vd vu vw va vq vf ta xi)) - (f_m_total vc vh vt vg vo vd vu vw va vq vf ta))), (4, .int xi), (10, .long ((2 * (f_m_part vc vh vt vg vo vd vu vw va vq vf ta xi)) - (f_m_total vc vh vt vg vo vd vu vw va vq vf ta))), (8, .long (f_m_part vc vh vt vg vo vd vu vw va vq vf ta xi)), (0, .ref mo), (1, .int ta), (2, .long (f_m_total vc vh vt vg vo vd vu vw va vq vf ta)), (7, .int xi)]) hx hb d_m_even_140 hl (by decide) rfl (fun ls hl => ?_)
                  refine lv_iinc (v := xi + 1) (lv' := [(7, .int (xi + 1)), (5, .long ((2 * (f_m_part vc vh vt vg vo vd vu vw va vq vf ta xi)) - (f_m_total vc vh vt vg vo vd vu vw va vq vf ta))), (4, .int xi), (10, .long ((2 * (f_m_part vc vh vt vg vo vd vu vw va vq vf ta xi)) - (f_m_total vc vh vt vg vo vd vu vw va vq vf ta))), (8, .long (f_m_part vc vh vt vg vo vd vu vw va vq vf ta xi)), (0, .ref mo), (1, .int ta), (2, .long (f_m_total vc vh vt vg vo vd vu vw va vq vf ta))]) hx hb d_m_even_142 hl (k := 7) rfl rfl (by decide) rfl (fun ls hl => ?_)
                  refine lv_goto (tgt := 15) hx hb d_m_even_145 (by decide) ?_
                  refine ro_to (by rw [L_m_even_15_s, if_neg c1, if_neg c2, if_pos c3, if_pos c4, if_pos c5, if_pos c11]) ?_
                  exact ih (k + 1) xi ((2 * (f_m_part vc vh vt vg vo vd vu vw va vq vf ta xi)) - (f_m_total vc vh vt vg vo vd vu vw va vq vf ta)) (xi + 1) ls (by omega) (by omega) (by rw [hxi]; exact nI_1 _) (Or.inr ⟨k, by omega, hxi⟩) (lv_sub hl [5, 6, 7, 2, 1, 0] rfl)
                · have c11 := c11
                  refine lv_lload hx hb d_m_even_98 (lv_at hl 0 rfl) ?_
                  refine lv_lload hx hb d_m_even_100 (lv_at hl 6 rfl) ?_
                  refine W.lcmp hx hb d_m_even_102 ?_
                  refine lv_if_lt (tgt := 134) hx hb d_m_even_103 (by decide) (fun c12 => ?_) (fun c12 => ?_)
                  · have c12 := cp_lt c12
                    refine lv_iload hx hb d_m_even_134 (lv_at hl 7 rfl) ?_
                    refine lv_istore (lv' := [(4, .int xi), (10, .long ((2 * (f_m_part vc vh vt vg vo vd vu vw va vq vf ta xi)) - (f_m_total vc vh vt vg vo vd vu vw va vq vf ta))), (8, .long (f_m_part vc vh vt vg vo vd vu vw va vq vf ta xi)), (0, .ref mo), (1, .int ta), (2, .long (f_m_total vc vh vt vg vo vd vu vw va vq vf ta)), (5, .long bg), (7, .int xi)]) hx hb d_m_even_136 hl (by decide) rfl (fun ls hl => ?_)
                    refine lv_lload hx hb d_m_even_138 (lv_at hl 1 rfl) ?_
                    refine lv_lstore (lv' := [(5, .long ((2 * (f_m_part vc vh vt vg vo vd vu vw va vq vf ta xi)) - (f_m_total vc vh vt vg vo vd vu vw va vq vf ta))), (4, .int xi), (10, .long ((2 * (f_m_part vc vh vt vg vo vd vu vw va vq vf ta xi)) - (f_m_total vc vh vt vg vo vd vu vw va vq vf ta))), (8, .long (f_m_part vc vh vt vg vo vd vu vw va vq vf ta xi)), (0, .ref mo), (1, .int ta), (2, .long (f_m_total vc vh vt vg vo vd vu vw va vq vf ta)), (7, .int xi)]) hx hb d_m_even_140 hl (by decide) rfl (fun ls hl => ?_)
                    refine lv_iinc (v := xi + 1) (lv' := [(7, .int (xi + 1)), (5, .long ((2 * (f_m_part vc vh vt vg vo vd vu vw va vq vf ta xi)) - (f_m_total vc vh vt vg vo vd vu vw va vq vf ta))), (4, .int xi), (10, .long ((2 * (f_m_part vc vh vt vg vo vd vu vw va vq vf ta xi)) - (f_m_total vc vh vt vg vo vd vu vw va vq vf ta))), (8, .long (f_m_part vc vh vt vg vo vd vu vw va vq vf ta xi)), (0, .ref mo), (1, .int ta), (2, .long (f_m_total vc vh vt vg vo vd vu vw va vq vf ta))]) hx hb d_m_even_142 hl (k := 7) rfl rfl (by decide) rfl (fun ls hl => ?_)
                    refine lv_goto (tgt := 15) hx hb d_m_even_145 (by decide) ?_
                    refine ro_to (by rw [L_m_even_15_s, if_neg c1, if_neg c2, if_pos c3, if_pos c4, if_pos c5, if_neg c11, if_pos c12]) ?_
                    exact ih (k + 1) xi ((2 * (f_m_part vc vh vt vg vo vd vu vw va vq vf ta xi)) - (f_m_total vc vh vt vg vo vd vu vw va vq vf ta)) (xi + 1) ls (by omega) (by omega) (by rw [hxi]; exact nI_1 _) (Or.inr ⟨k, by omega, hxi⟩) (lv_sub hl [5, 6, 7, 2, 1, 0] rfl)
                  · have c12 := cp_nlt c12
                    refine lv_lload hx hb d_m_even_106 (lv_at hl 0 rfl) ?_
                    refine lv_lload hx hb d_m_even_108 (lv_at hl 6 rfl) ?_
                    refine W.lcmp hx hb d_m_even_110 ?_
                    refine lv_if_ne (tgt := 142) hx hb d_m_even_111 (by decide) (fun c13 => ?_) (fun c13 => ?_)
                    · have c13 := cp_ne c13
                      refine lv_iinc (v := xi + 1) (lv' := [(7, .int (xi + 1)), (10, .long ((2 * (f_m_part vc vh vt vg vo vd vu vw va vq vf ta xi)) - (f_m_total vc vh vt vg vo vd vu vw va vq vf ta))), (8, .long (f_m_part vc vh vt vg vo vd vu vw va vq vf ta xi)), (0, .ref mo), (1, .int ta), (2, .long (f_m_total vc vh vt vg vo vd vu vw va vq vf ta)), (4, .int be), (5, .long bg)]) hx hb d_m_even_142 hl (k := 7) rfl rfl (by decide) rfl (fun ls hl => ?_)
                      refine lv_goto (tgt := 15) hx hb d_m_even_145 (by decide) ?_
                      refine ro_to (by rw [L_m_even_15_s, if_neg c1, if_neg c2, if_pos c3, if_pos c4, if_pos c5, if_neg c11, if_neg c12, if_neg c13]) ?_
                      exact ih (k + 1) be bg (xi + 1) ls (by omega) (by omega) (by rw [hxi]; exact nI_1 _) hbe (lv_sub hl [3, 4, 5, 6, 7, 0] rfl)
                    · have c13 := cp_eq c13
                      refine lv_aload_n hx hb d_m_even_114 rfl (lv_at hl 2 rfl) ?_
                      refine ro_get (v := .ref qb) FX hK hP 0 4 rfl rfl rfl i_m (by decide) kf_m_20 d_m_even_115 ?_
                      refine lv_iload hx hb d_m_even_118 (lv_at hl 7 rfl) ?_
                      refine va_zald hx hb hK.1 hP 4 3 rfl rfl (vin hxi (Nat.lt_of_lt_of_le hk1 (by omega)) (by decide)) d_m_even_120 ?_
                      refine W.eq (g2 := F0 m 121 ls [.int (bz (vb xi.toNatClampNeg))]) rfl ?_
                      refine lv_if_eq (tgt := 142) hx hb d_m_even_121 (by decide) (fun c14 => ?_) (fun c14 => ?_)
                      · have c14 := bz_f c14
                        refine lv_iinc (v := xi + 1) (lv' := [(7, .int (xi + 1)), (10, .long ((2 * (f_m_part vc vh vt vg vo vd vu vw va vq vf ta xi)) - (f_m_total vc vh vt vg vo vd vu vw va vq vf ta))), (8, .long (f_m_part vc vh vt vg vo vd vu vw va vq vf ta xi)), (0, .ref mo), (1, .int ta), (2, .long (f_m_total vc vh vt vg vo vd vu vw va vq vf ta)), (4, .int be), (5, .long bg)]) hx hb d_m_even_142 hl (k := 7) rfl rfl (by decide) rfl (fun ls hl => ?_)
                        refine lv_goto (tgt := 15) hx hb d_m_even_145 (by decide) ?_
                        refine ro_to (by rw [L_m_even_15_s, if_neg c1, if_neg c2, if_pos c3, if_pos c4, if_pos c5, if_neg c11, if_neg c12, if_pos c13, if_neg c14]) ?_
                        exact ih (k + 1) be bg (xi + 1) ls (by omega) (by omega) (by rw [hxi]; exact nI_1 _) hbe (lv_sub hl [3, 4, 5, 6, 7, 0] rfl)
                      · have c14 := bz_t c14
                        refine lv_aload_n hx hb d_m_even_124 rfl (lv_at hl 2 rfl) ?_
                        refine ro_get (v := .ref qb) FX hK hP 0 4 rfl rfl rfl i_m (by decide) kf_m_20 d_m_even_125 ?_
                        refine lv_iload hx hb d_m_even_128 (lv_at hl 5 rfl) ?_
                        refine va_zald hx hb hK.1 hP 4 3 rfl rfl (be_in hbe c11) d_m_even_130 ?_
                        refine W.eq (g2 := F0 m 131 ls [.int (bz (vb be.toNatClampNeg))]) rfl ?_
                        refine lv_if_ne (tgt := 142) hx hb d_m_even_131 (by decide) (fun c15 => ?_) (fun c15 => ?_)
                        · have c15 := bz_t c15
                          refine lv_iinc (v := xi + 1) (lv' := [(7, .int (xi + 1)), (10, .long ((2 * (f_m_part vc vh vt vg vo vd vu vw va vq vf ta xi)) - (f_m_total vc vh vt vg vo vd vu vw va vq vf ta))), (8, .long (f_m_part vc vh vt vg vo vd vu vw va vq vf ta xi)), (0, .ref mo), (1, .int ta), (2, .long (f_m_total vc vh vt vg vo vd vu vw va vq vf ta)), (4, .int be), (5, .long bg)]) hx hb d_m_even_142 hl (k := 7) rfl rfl (by decide) rfl (fun ls hl => ?_)
                          refine lv_goto (tgt := 15) hx hb d_m_even_145 (by decide) ?_
                          refine ro_to (by rw [L_m_even_15_s, if_neg c1, if_neg c2, if_pos c3, if_pos c4, if_pos c5, if_neg c11, if_neg c12, if_pos c13, if_pos c14, if_pos c15]) ?_
                          exact ih (k + 1) be bg (xi + 1) ls (by omega) (by omega) (by rw [hxi]; exact nI_1 _) hbe (lv_sub hl [3, 4, 5, 6, 7, 0] rfl)
                        · have c15 := bz_f c15
                          refine lv_iload hx hb d_m_even_134 (lv_at hl 7 rfl) ?_
                          refine lv_istore (lv' := [(4, .int xi), (10, .long ((2 * (f_m_part vc vh vt vg vo vd vu vw va vq vf ta xi)) - (f_m_total vc vh vt vg vo vd vu vw va vq vf ta))), (8, .long (f_m_part vc vh vt vg vo vd vu vw va vq vf ta xi)), (0, .ref mo), (1, .int ta), (2, .long (f_m_total vc vh vt vg vo vd vu vw va vq vf ta)), (5, .long bg), (7, .int xi)]) hx hb d_m_even_136 hl (by decide) rfl (fun ls hl => ?_)
                          refine lv_lload hx hb d_m_even_138 (lv_at hl 1 rfl) ?_
                          refine lv_lstore (lv' := [(5, .long ((2 * (f_m_part vc vh vt vg vo vd vu vw va vq vf ta xi)) - (f_m_total vc vh vt vg vo vd vu vw va vq vf ta))), (4, .int xi), (10, .long ((2 * (f_m_part vc vh vt vg vo vd vu vw va vq vf ta xi)) - (f_m_total vc vh vt vg vo vd vu vw va vq vf ta))), (8, .long (f_m_part vc vh vt vg vo vd vu vw va vq vf ta xi)), (0, .ref mo), (1, .int ta), (2, .long (f_m_total vc vh vt vg vo vd vu vw va vq vf ta)), (7, .int xi)]) hx hb d_m_even_140 hl (by decide) rfl (fun ls hl => ?_)
                          refine lv_iinc (v := xi + 1) (lv' := [(7, .int (xi + 1)), (5, .long ((2 * (f_m_part vc vh vt vg vo vd vu vw va vq vf ta xi)) - (f_m_total vc vh vt vg vo vd vu vw va vq vf ta))), (4, .int xi), (10, .long ((2 * (f_m_part vc vh vt vg vo vd vu vw va vq vf ta xi)) - (f_m_total vc vh vt vg vo vd vu vw va vq vf ta))), (8, .long (f_m_part vc vh vt vg vo vd vu vw va vq vf ta xi)), (0, .ref mo), (1, .int ta), (2, .long (f_m_total vc vh vt vg vo vd vu vw va vq vf ta))]) hx hb d_m_even_142 hl (k := 7) rfl rfl (by decide) rfl (fun ls hl => ?_)
                          refine lv_goto (tgt := 15) hx hb d_m_even_145 (by decide) ?_
                          refine ro_to (by rw [L_m_even_15_s, if_neg c1, if_neg c2, if_pos c3, if_pos c4, if_pos c5, if_neg c11, if_neg c12, if_pos c13, if_pos c14, if_neg c15]) ?_
                          exact ih (k + 1) xi ((2 * (f_m_part vc vh vt vg vo vd vu vw va vq vf ta xi)) - (f_m_total vc vh vt vg vo vd vu vw va vq vf ta)) (xi + 1) ls (by omega) (by omega) (by rw [hxi]; exact nI_1 _) (Or.inr ⟨k, by omega, hxi⟩) (lv_sub hl [5, 6, 7, 2, 1, 0] rfl)
            · have c4 := cp_nlt c4
              refine lv_goto (tgt := 142) hx hb d_m_even_57 (by decide) ?_
              refine lv_iinc (v := xi + 1) (lv' := [(7, .int (xi + 1)), (8, .long (f_m_part vc vh vt vg vo vd vu vw va vq vf ta xi)), (0, .ref mo), (1, .int ta), (2, .long (f_m_total vc vh vt vg vo vd vu vw va vq vf ta)), (4, .int be), (5, .long bg)]) hx hb d_m_even_142 hl (k := 6) rfl rfl (by decide) rfl (fun ls hl => ?_)
              refine lv_goto (tgt := 15) hx hb d_m_even_145 (by decide) ?_
              refine ro_to (by rw [L_m_even_15_s, if_neg c1, if_neg c2, if_pos c3, if_neg c4]) ?_
              exact ih (k + 1) be bg (xi + 1) ls (by omega) (by omega) (by rw [hxi]; exact nI_1 _) hbe (lv_sub hl [2, 3, 4, 5, 6, 0] rfl)
  refine ro_to (by rw [f_m_even]) ?_
  exact loop 41 0 (-1) 0 0 ls rfl (Nat.zero_le _) rfl (Or.inl rfl) (lv_sub hl [4, 5, 3, 2, 1, 0] rfl)
theorem d_m_state_0 : decode b_m_state 0 = .ok (.aload_n 0, 1) := by decide +kernel
theorem d_m_state_1 : decode b_m_state 1 = .ok (.iload_n 1, 1) := by decide +kernel
theorem d_m_state_2 : decode b_m_state 2 = .ok (.invokevirtual 85, 3) := by decide +kernel
theorem d_m_state_5 : decode b_m_state 5 = .ok (.ifCond .ne 5, 3) := by decide +kernel
theorem d_m_state_8 : decode b_m_state 8 = .ok (.iconst (-1), 1) := by decide +kernel
theorem d_m_state_9 : decode b_m_state 9 = .ok (.ireturn, 1) := by decide +kernel
theorem d_m_state_10 : decode b_m_state 10 = .ok (.aload_n 0, 1) := by decide +kernel
theorem d_m_state_11 : decode b_m_state 11 = .ok (.iload_n 1, 1) := by decide +kernel
theorem d_m_state_12 : decode b_m_state 12 = .ok (.invokevirtual 99, 3) := by decide +kernel
theorem d_m_state_15 : decode b_m_state 15 = .ok (.iconst (-1), 1) := by decide +kernel
theorem d_m_state_16 : decode b_m_state 16 = .ok (.if_icmp .eq 5, 3) := by decide +kernel
theorem d_m_state_19 : decode b_m_state 19 = .ok (.iconst 1, 1) := by decide +kernel
theorem d_m_state_20 : decode b_m_state 20 = .ok (.ireturn, 1) := by decide +kernel
theorem d_m_state_21 : decode b_m_state 21 = .ok (.aload_n 0, 1) := by decide +kernel
theorem d_m_state_22 : decode b_m_state 22 = .ok (.getfield 44, 3) := by decide +kernel
theorem d_m_state_25 : decode b_m_state 25 = .ok (.iload_n 1, 1) := by decide +kernel
theorem d_m_state_26 : decode b_m_state 26 = .ok (.iaload, 1) := by decide +kernel
theorem d_m_state_27 : decode b_m_state 27 = .ok (.bipush 15, 2) := by decide +kernel
theorem d_m_state_29 : decode b_m_state 29 = .ok (.if_icmp .ne 5, 3) := by decide +kernel
theorem d_m_state_32 : decode b_m_state 32 = .ok (.iconst 3, 1) := by decide +kernel
theorem d_m_state_33 : decode b_m_state 33 = .ok (.ireturn, 1) := by decide +kernel
theorem d_m_state_34 : decode b_m_state 34 = .ok (.aload_n 0, 1) := by decide +kernel
theorem d_m_state_35 : decode b_m_state 35 = .ok (.iload_n 1, 1) := by decide +kernel
theorem d_m_state_36 : decode b_m_state 36 = .ok (.invokevirtual 103, 3) := by decide +kernel
theorem d_m_state_39 : decode b_m_state 39 = .ok (.iconst (-1), 1) := by decide +kernel
theorem d_m_state_40 : decode b_m_state 40 = .ok (.if_icmp .ne 7, 3) := by decide +kernel
theorem d_m_state_43 : decode b_m_state 43 = .ok (.iconst 2, 1) := by decide +kernel
theorem d_m_state_44 : decode b_m_state 44 = .ok (.goto 4, 3) := by decide +kernel
theorem d_m_state_47 : decode b_m_state 47 = .ok (.iconst 0, 1) := by decide +kernel
theorem d_m_state_48 : decode b_m_state 48 = .ok (.ireturn, 1) := by decide +kernel
def f_m_state (vc : Int32) (vh : Nat → Bool) (vk : Nat → Bool) (vb : Nat → Bool) (vt : Int32) (vg : Nat → Bool) (vo : Nat → Bool) (vd : Nat → Int32) (vu : Nat → Int32) (vw : Nat → Int32) (vs : Nat → Int32) (va : Nat → Int32) (vq : Nat → Int32) (vf : Nat → Bool) (ta : Int32) : Int32 := if (f_m_isSearch vt vo ta) = true then
    (if (f_m_heavy vc vh vt vg vo vd vu vw vs va vq vf ta) = (-1) then
      (if (va ta.toNatClampNeg) = 15 then
        (3)
      else
        (if (f_m_even vc vh vk vb vt vg vo vd vu vw va vq vf ta) = (-1) then
          (2)
        else
          (0)))
    else
      (1))
  else
    ((-1))
set_option maxHeartbeats 4000000 in
set_option maxRecDepth 100000 in
theorem c_m_state (l : Launch) (D : va_G) (cA : Nat → ClassId) (mo qp qh qk qb qg qo qd qu qw qs qx qa qq qf : Nat) (vc : Int32) (vp : Nat → Int32) (vh : Nat → Bool) (vk : Nat → Bool) (vb : Nat → Bool) (vt : Int32) (vg : Nat → Bool) (vo : Nat → Bool) (vd : Nat → Int32) (vu : Nat → Int32) (vw : Nat → Int32) (vs : Nat → Int32) (vx : Nat → Int32) (va : Nat → Int32) (vq : Nat → Int32) (vf : Nat → Bool) (ta : Int32) (cn : Nat) (hcn : cn ≤ 40) (hvc : vc = nI cn) (tn : Nat) (htn : tn ≤ 4) (hvt : vt = nI tn) (hva : ∀ i, i < 4 → ∃ a, a ≤ 15 ∧ va i = nI a) : Met l y_m_state (.code y_m_state b_m_state 2 (some .int) :: tb) (rmd 7) (Pro D cA [.ref mo, .int ta] (va_P D classes [(mo, .inr (3, [.int vc, .ref qp, .ref qh, .ref qk, .ref qb, .int vt, .ref qg, .ref qo, .ref qd, .ref qu, .ref qw, .ref qs, .ref qx, .ref qa, .ref qq, .ref qf])), (qp, .inl (cA 2, 120, .inl vp)), (qh, .inl (cA 3, 1600, .inl (fun i => bz (vh i)))), (qk, .inl (cA 3, 40, .inl (fun i => bz (vk i)))), (qb, .inl (cA 3, 40, .inl (fun i => bz (vb i)))), (qg, .inl (cA 3, 160, .inl (fun i => bz (vg i)))), (qo, .inl (cA 3, 4, .inl (fun i => bz (vo i)))), (qd, .inl (cA 2, 4, .inl vd)), (qu, .inl (cA 2, 4, .inl vu)), (qw, .inl (cA 2, 4, .inl vw)), (qs, .inl (cA 2, 4, .inl vs)), (qx, .inl (cA 2, 4, .inl vx)), (qa, .inl (cA 2, 4, .inl va)), (qq, .inl (cA 2, 60, .inl vq)), (qf, .inl (cA 3, 60, .inl (fun i => bz (vf i))))])) (Qro (.int (f_m_state vc vh vk vb vt vg vo vd vu vw vs va vq vf ta))) 0 0 nof := by
  refine ro_in (by decide) (Nat.le_of_ble_eq_true rfl) (fun p e s m below meth c ls FX hnm hK hP hl => ?_)
  have hl : lv_has ls 2 [(0, .ref mo), (1, .int ta)] := hl
  have hP : va_P D classes [(mo, .inr (3, [.int vc, .ref qp, .ref qh, .ref qk, .ref qb, .int vt, .ref qg, .ref qo, .ref qd, .ref qu, .ref qw, .ref qs, .ref qx, .ref qa, .ref qq, .ref qf])), (qp, .inl (cA 2, 120, .inl vp)), (qh, .inl (cA 3, 1600, .inl (fun i => bz (vh i)))), (qk, .inl (cA 3, 40, .inl (fun i => bz (vk i)))), (qb, .inl (cA 3, 40, .inl (fun i => bz (vb i)))), (qg, .inl (cA 3, 160, .inl (fun i => bz (vg i)))), (qo, .inl (cA 3, 4, .inl (fun i => bz (vo i)))), (qd, .inl (cA 2, 4, .inl vd)), (qu, .inl (cA 2, 4, .inl vu)), (qw, .inl (cA 2, 4, .inl vw)), (qs, .inl (cA 2, 4, .inl vs)), (qx, .inl (cA 2, 4, .inl vx)), (qa, .inl (cA 2, 4, .inl va)), (qq, .inl (cA 2, 60, .inl vq)), (qf, .inl (cA 3, 60, .inl (fun i => bz (vf i))))] s.heap := hP
  generalize ([.ref mo, .int ta] : List Value).toArray = args at FX ⊢
  obtain ⟨hx, hb, hml, hown, hts, hr, hlk⟩ := id FX
  refine lv_aload_n hx hb d_m_state_0 rfl (lv_at hl 0 rfl) ?_
  refine lv_iload_n hx hb d_m_state_1 rfl (lv_at hl 1 rfl) ?_
  refine ro_V (v := .int (bz (f_m_isSearch vt vo ta))) (As := [.int ta]) (rest := []) (q0 := 0) FX hK (c_m_isSearch l D cA mo qp qh qk qb qg qo qd qu qw qs qx qa qq qf vc vp vh vk vb vt vg vo vd vu vw vs vx va vq vf ta cn hcn hvc tn htn hvt hva) hP hP rfl rfl rfl kc_m_isSearch km_m_85 ki_m ks_m_isSearch ke_m_isSearch rfl ok_m_isSearch ⟨Nat.le_of_ble_eq_true rfl, Nat.le_of_ble_eq_true rfl⟩ ⟨Nat.zero_le _, Nat.zero_le _⟩ hl.1 rfl (Nat.le_of_ble_eq_true rfl) d_m_state_2 ?_
  refine lv_if_ne (tgt := 10) hx hb d_m_state_5 (by decide) (fun c1 => ?_) (fun c1 => ?_)
  · have c1 := bz_t c1
    obtain ⟨tj, htj, htt⟩ := tg_nI htn hvt (se_tg c1)
    refine lv_aload_n hx hb d_m_state_10 rfl (lv_at hl 0 rfl) ?_
    refine lv_iload_n hx hb d_m_state_11 rfl (lv_at hl 1 rfl) ?_
    refine ro_V (v := .int (f_m_heavy vc vh vt vg vo vd vu vw vs va vq vf ta)) (As := [.int ta]) (rest := []) (q0 := 0) FX hK (c_m_heavy l D cA mo qp qh qk qb qg qo qd qu qw qs qx qa qq qf vc vp vh vk vb vt vg vo vd vu vw vs vx va vq vf ta cn hcn hvc tn htn hvt hva tj (Nat.lt_of_lt_of_le htj htn) htt) hP hP rfl rfl rfl kc_m_heavy km_m_99 ki_m ks_m_heavy ke_m_heavy rfl ok_m_heavy ⟨Nat.le_of_ble_eq_true rfl, Nat.le_of_ble_eq_true rfl⟩ ⟨Nat.zero_le _, Nat.zero_le _⟩ hl.1 rfl (Nat.le_of_ble_eq_true rfl) d_m_state_12 ?_
    refine lv_iconst (v := (-1)) hx hb d_m_state_15 (by decide) ?_
    refine lv_icmp_eq (tgt := 21) hx hb d_m_state_16 (by decide) (fun c2 => ?_) (fun c2 => ?_)
    · have c2 := c2
      refine lv_aload_n hx hb d_m_state_21 rfl (lv_at hl 0 rfl) ?_
      refine ro_get (v := .ref qa) FX hK hP 0 13 rfl rfl rfl i_m (by decide) kf_m_44 d_m_state_22 ?_
      refine lv_iload_n hx hb d_m_state_25 rfl (lv_at hl 1 rfl) ?_
      refine va_iald hx hb hK.1 hP 12 2 rfl rfl (vin htt (by omega) (by decide)) d_m_state_26 ?_
      refine lv_bipush (v := 15) hx hb d_m_state_27 (by decide) ?_
      refine lv_icmp_ne (tgt := 34) hx hb d_m_state_29 (by decide) (fun c3 => ?_) (fun c3 => ?_)
      · have c3 := c3
        refine lv_aload_n hx hb d_m_state_34 rfl (lv_at hl 0 rfl) ?_
        refine lv_iload_n hx hb d_m_state_35 rfl (lv_at hl 1 rfl) ?_
        refine ro_V (v := .int (f_m_even vc vh vk vb vt vg vo vd vu vw va vq vf ta)) (As := [.int ta]) (rest := []) (q0 := 0) FX hK (c_m_even l D cA mo qp qh qk qb qg qo qd qu qw qs qx qa qq qf vc vp vh vk vb vt vg vo vd vu vw vs vx va vq vf ta cn hcn hvc tn htn hvt hva) hP hP rfl rfl rfl kc_m_even km_m_103 ki_m ks_m_even ke_m_even rfl ok_m_even ⟨Nat.le_of_ble_eq_true rfl, Nat.le_of_ble_eq_true rfl⟩ ⟨Nat.zero_le _, Nat.zero_le _⟩ hl.1 rfl (Nat.le_of_ble_eq_true rfl) d_m_state_36 ?_
        refine lv_iconst (v := (-1)) hx hb d_m_state_39 (by decide) ?_
        refine lv_icmp_ne (tgt := 47) hx hb d_m_state_40 (by decide) (fun c4 => ?_) (fun c4 => ?_)
        · have c4 := c4
          refine lv_iconst (v := 0) hx hb d_m_state_47 (by decide) ?_
          exact ro_iret FX (by rw [f_m_state, if_pos c1, if_pos c2, if_neg c3, if_neg c4]) d_m_state_48
        · have c4 := c4
          refine lv_iconst (v := 2) hx hb d_m_state_43 (by decide) ?_
          refine lv_goto (tgt := 48) hx hb d_m_state_44 (by decide) ?_
          exact ro_iret FX (by rw [f_m_state, if_pos c1, if_pos c2, if_neg c3, if_pos c4]) d_m_state_48
      · have c3 := c3
        refine lv_iconst (v := 3) hx hb d_m_state_32 (by decide) ?_
        exact ro_iret FX (by rw [f_m_state, if_pos c1, if_pos c2, if_pos c3]) d_m_state_33
    · have c2 := c2
      refine lv_iconst (v := 1) hx hb d_m_state_19 (by decide) ?_
      exact ro_iret FX (by rw [f_m_state, if_pos c1, if_neg c2]) d_m_state_20
  · have c1 := bz_f c1
    refine lv_iconst (v := (-1)) hx hb d_m_state_8 (by decide) ?_
    exact ro_iret FX (by rw [f_m_state, if_neg c1]) d_m_state_9
theorem d_m_next_0 : decode b_m_next 0 = .ok (.aload_n 0, 1) := by decide +kernel
theorem d_m_next_1 : decode b_m_next 1 = .ok (.iload_n 1, 1) := by decide +kernel
theorem d_m_next_2 : decode b_m_next 2 = .ok (.invokevirtual 106, 3) := by decide +kernel
theorem d_m_next_5 : decode b_m_next 5 = .ok (.ifCond .ne 11, 3) := by decide +kernel
theorem d_m_next_8 : decode b_m_next 8 = .ok (.aload_n 0, 1) := by decide +kernel
theorem d_m_next_9 : decode b_m_next 9 = .ok (.iload_n 1, 1) := by decide +kernel
theorem d_m_next_10 : decode b_m_next 10 = .ok (.invokevirtual 103, 3) := by decide +kernel
theorem d_m_next_13 : decode b_m_next 13 = .ok (.goto 4, 3) := by decide +kernel
theorem d_m_next_16 : decode b_m_next 16 = .ok (.iconst (-1), 1) := by decide +kernel
theorem d_m_next_17 : decode b_m_next 17 = .ok (.ireturn, 1) := by decide +kernel
def f_m_next (vc : Int32) (vh : Nat → Bool) (vk : Nat → Bool) (vb : Nat → Bool) (vt : Int32) (vg : Nat → Bool) (vo : Nat → Bool) (vd : Nat → Int32) (vu : Nat → Int32) (vw : Nat → Int32) (vs : Nat → Int32) (va : Nat → Int32) (vq : Nat → Int32) (vf : Nat → Bool) (ta : Int32) : Int32 := if (f_m_state vc vh vk vb vt vg vo vd vu vw vs va vq vf ta) = 0 then
    (f_m_even vc vh vk vb vt vg vo vd vu vw va vq vf ta)
  else
    ((-1))
set_option maxHeartbeats 4000000 in
set_option maxRecDepth 100000 in
theorem c_m_next (l : Launch) (D : va_G) (cA : Nat → ClassId) (mo qp qh qk qb qg qo qd qu qw qs qx qa qq qf : Nat) (vc : Int32) (vp : Nat → Int32) (vh : Nat → Bool) (vk : Nat → Bool) (vb : Nat → Bool) (vt : Int32) (vg : Nat → Bool) (vo : Nat → Bool) (vd : Nat → Int32) (vu : Nat → Int32) (vw : Nat → Int32) (vs : Nat → Int32) (vx : Nat → Int32) (va : Nat → Int32) (vq : Nat → Int32) (vf : Nat → Bool) (ta : Int32) (cn : Nat) (hcn : cn ≤ 40) (hvc : vc = nI cn) (tn : Nat) (htn : tn ≤ 4) (hvt : vt = nI tn) (hva : ∀ i, i < 4 → ∃ a, a ≤ 15 ∧ va i = nI a) : Met l y_m_next (.code y_m_next b_m_next 2 (some .int) :: tb) (rmd 8) (Pro D cA [.ref mo, .int ta] (va_P D classes [(mo, .inr (3, [.int vc, .ref qp, .ref qh, .ref qk, .ref qb, .int vt, .ref qg, .ref qo, .ref qd, .ref qu, .ref qw, .ref qs, .ref qx, .ref qa, .ref qq, .ref qf])), (qp, .inl (cA 2, 120, .inl vp)), (qh, .inl (cA 3, 1600, .inl (fun i => bz (vh i)))), (qk, .inl (cA 3, 40, .inl (fun i => bz (vk i)))), (qb, .inl (cA 3, 40, .inl (fun i => bz (vb i)))), (qg, .inl (cA 3, 160, .inl (fun i => bz (vg i)))), (qo, .inl (cA 3, 4, .inl (fun i => bz (vo i)))), (qd, .inl (cA 2, 4, .inl vd)), (qu, .inl (cA 2, 4, .inl vu)), (qw, .inl (cA 2, 4, .inl vw)), (qs, .inl (cA 2, 4, .inl vs)), (qx, .inl (cA 2, 4, .inl vx)), (qa, .inl (cA 2, 4, .inl va)), (qq, .inl (cA 2, 60, .inl vq)), (qf, .inl (cA 3, 60, .inl (fun i => bz (vf i))))])) (Qro (.int (f_m_next vc vh vk vb vt vg vo vd vu vw vs va vq vf ta))) 0 0 nof := by
  refine ro_in (by decide) (Nat.le_of_ble_eq_true rfl) (fun p e s m below meth c ls FX hnm hK hP hl => ?_)
  have hl : lv_has ls 2 [(0, .ref mo), (1, .int ta)] := hl
  have hP : va_P D classes [(mo, .inr (3, [.int vc, .ref qp, .ref qh, .ref qk, .ref qb, .int vt, .ref qg, .ref qo, .ref qd, .ref qu, .ref qw, .ref qs, .ref qx, .ref qa, .ref qq, .ref qf])), (qp, .inl (cA 2, 120, .inl vp)), (qh, .inl (cA 3, 1600, .inl (fun i => bz (vh i)))), (qk, .inl (cA 3, 40, .inl (fun i => bz (vk i)))), (qb, .inl (cA 3, 40, .inl (fun i => bz (vb i)))), (qg, .inl (cA 3, 160, .inl (fun i => bz (vg i)))), (qo, .inl (cA 3, 4, .inl (fun i => bz (vo i)))), (qd, .inl (cA 2, 4, .inl vd)), (qu, .inl (cA 2, 4, .inl vu)), (qw, .inl (cA 2, 4, .inl vw)), (qs, .inl (cA 2, 4, .inl vs)), (qx, .inl (cA 2, 4, .inl vx)), (qa, .inl (cA 2, 4, .inl va)), (qq, .inl (cA 2, 60, .inl vq)), (qf, .inl (cA 3, 60, .inl (fun i => bz (vf i))))] s.heap := hP
  generalize ([.ref mo, .int ta] : List Value).toArray = args at FX ⊢
  obtain ⟨hx, hb, hml, hown, hts, hr, hlk⟩ := id FX
  refine lv_aload_n hx hb d_m_next_0 rfl (lv_at hl 0 rfl) ?_
  refine lv_iload_n hx hb d_m_next_1 rfl (lv_at hl 1 rfl) ?_
  refine ro_V (v := .int (f_m_state vc vh vk vb vt vg vo vd vu vw vs va vq vf ta)) (As := [.int ta]) (rest := []) (q0 := 0) FX hK (c_m_state l D cA mo qp qh qk qb qg qo qd qu qw qs qx qa qq qf vc vp vh vk vb vt vg vo vd vu vw vs vx va vq vf ta cn hcn hvc tn htn hvt hva) hP hP rfl rfl rfl kc_m_state km_m_106 ki_m ks_m_state ke_m_state rfl ok_m_state ⟨Nat.le_of_ble_eq_true rfl, Nat.le_of_ble_eq_true rfl⟩ ⟨Nat.zero_le _, Nat.zero_le _⟩ hl.1 rfl (Nat.le_of_ble_eq_true rfl) d_m_next_2 ?_
  refine lv_if_ne (tgt := 16) hx hb d_m_next_5 (by decide) (fun c1 => ?_) (fun c1 => ?_)
  · have c1 := c1
    refine lv_iconst (v := (-1)) hx hb d_m_next_16 (by decide) ?_
    exact ro_iret FX (by rw [f_m_next, if_neg c1]) d_m_next_17
  · have c1 := c1
    refine lv_aload_n hx hb d_m_next_8 rfl (lv_at hl 0 rfl) ?_
    refine lv_iload_n hx hb d_m_next_9 rfl (lv_at hl 1 rfl) ?_
    refine ro_V (v := .int (f_m_even vc vh vk vb vt vg vo vd vu vw va vq vf ta)) (As := [.int ta]) (rest := []) (q0 := 0) FX hK (c_m_even l D cA mo qp qh qk qb qg qo qd qu qw qs qx qa qq qf vc vp vh vk vb vt vg vo vd vu vw vs vx va vq vf ta cn hcn hvc tn htn hvt hva) hP hP rfl rfl rfl kc_m_even km_m_103 ki_m ks_m_even ke_m_even rfl ok_m_even ⟨Nat.le_of_ble_eq_true rfl, Nat.le_of_ble_eq_true rfl⟩ ⟨Nat.zero_le _, Nat.zero_le _⟩ hl.1 rfl (Nat.le_of_ble_eq_true rfl) d_m_next_10 ?_
    refine lv_goto (tgt := 17) hx hb d_m_next_13 (by decide) ?_
    exact ro_iret FX (by rw [f_m_next, if_pos c1]) d_m_next_17
theorem d_m_found_0 : decode b_m_found 0 = .ok (.aload_n 0, 1) := by decide +kernel
theorem d_m_found_1 : decode b_m_found 1 = .ok (.iload_n 1, 1) := by decide +kernel
theorem d_m_found_2 : decode b_m_found 2 = .ok (.invokevirtual 85, 3) := by decide +kernel
theorem d_m_found_5 : decode b_m_found 5 = .ok (.ifCond .eq 11, 3) := by decide +kernel
theorem d_m_found_8 : decode b_m_found 8 = .ok (.aload_n 0, 1) := by decide +kernel
theorem d_m_found_9 : decode b_m_found 9 = .ok (.iload_n 1, 1) := by decide +kernel
theorem d_m_found_10 : decode b_m_found 10 = .ok (.invokevirtual 99, 3) := by decide +kernel
theorem d_m_found_13 : decode b_m_found 13 = .ok (.goto 4, 3) := by decide +kernel
theorem d_m_found_16 : decode b_m_found 16 = .ok (.iconst (-1), 1) := by decide +kernel
theorem d_m_found_17 : decode b_m_found 17 = .ok (.ireturn, 1) := by decide +kernel
def f_m_found (vc : Int32) (vh : Nat → Bool) (vt : Int32) (vg : Nat → Bool) (vo : Nat → Bool) (vd : Nat → Int32) (vu : Nat → Int32) (vw : Nat → Int32) (vs : Nat → Int32) (va : Nat → Int32) (vq : Nat → Int32) (vf : Nat → Bool) (ta : Int32) : Int32 := if (f_m_isSearch vt vo ta) = true then
    (f_m_heavy vc vh vt vg vo vd vu vw vs va vq vf ta)
  else
    ((-1))
set_option maxHeartbeats 4000000 in
set_option maxRecDepth 100000 in
theorem c_m_found (l : Launch) (D : va_G) (cA : Nat → ClassId) (mo qp qh qk qb qg qo qd qu qw qs qx qa qq qf : Nat) (vc : Int32) (vp : Nat → Int32) (vh : Nat → Bool) (vk : Nat → Bool) (vb : Nat → Bool) (vt : Int32) (vg : Nat → Bool) (vo : Nat → Bool) (vd : Nat → Int32) (vu : Nat → Int32) (vw : Nat → Int32) (vs : Nat → Int32) (vx : Nat → Int32) (va : Nat → Int32) (vq : Nat → Int32) (vf : Nat → Bool) (ta : Int32) (cn : Nat) (hcn : cn ≤ 40) (hvc : vc = nI cn) (tn : Nat) (htn : tn ≤ 4) (hvt : vt = nI tn) (hva : ∀ i, i < 4 → ∃ a, a ≤ 15 ∧ va i = nI a) : Met l y_m_found (.code y_m_found b_m_found 2 (some .int) :: tb) (rmd 7) (Pro D cA [.ref mo, .int ta] (va_P D classes [(mo, .inr (3, [.int vc, .ref qp, .ref qh, .ref qk, .ref qb, .int vt, .ref qg, .ref qo, .ref qd, .ref qu, .ref qw, .ref qs, .ref qx, .ref qa, .ref qq, .ref qf])), (qp, .inl (cA 2, 120, .inl vp)), (qh, .inl (cA 3, 1600, .inl (fun i => bz (vh i)))), (qk, .inl (cA 3, 40, .inl (fun i => bz (vk i)))), (qb, .inl (cA 3, 40, .inl (fun i => bz (vb i)))), (qg, .inl (cA 3, 160, .inl (fun i => bz (vg i)))), (qo, .inl (cA 3, 4, .inl (fun i => bz (vo i)))), (qd, .inl (cA 2, 4, .inl vd)), (qu, .inl (cA 2, 4, .inl vu)), (qw, .inl (cA 2, 4, .inl vw)), (qs, .inl (cA 2, 4, .inl vs)), (qx, .inl (cA 2, 4, .inl vx)), (qa, .inl (cA 2, 4, .inl va)), (qq, .inl (cA 2, 60, .inl vq)), (qf, .inl (cA 3, 60, .inl (fun i => bz (vf i))))])) (Qro (.int (f_m_found vc vh vt vg vo vd vu vw vs va vq vf ta))) 0 0 nof := by
  refine ro_in (by decide) (Nat.le_of_ble_eq_true rfl) (fun p e s m below meth c ls FX hnm hK hP hl => ?_)
  have hl : lv_has ls 2 [(0, .ref mo), (1, .int ta)] := hl
  have hP : va_P D classes [(mo, .inr (3, [.int vc, .ref qp, .ref qh, .ref qk, .ref qb, .int vt, .ref qg, .ref qo, .ref qd, .ref qu, .ref qw, .ref qs, .ref qx, .ref qa, .ref qq, .ref qf])), (qp, .inl (cA 2, 120, .inl vp)), (qh, .inl (cA 3, 1600, .inl (fun i => bz (vh i)))), (qk, .inl (cA 3, 40, .inl (fun i => bz (vk i)))), (qb, .inl (cA 3, 40, .inl (fun i => bz (vb i)))), (qg, .inl (cA 3, 160, .inl (fun i => bz (vg i)))), (qo, .inl (cA 3, 4, .inl (fun i => bz (vo i)))), (qd, .inl (cA 2, 4, .inl vd)), (qu, .inl (cA 2, 4, .inl vu)), (qw, .inl (cA 2, 4, .inl vw)), (qs, .inl (cA 2, 4, .inl vs)), (qx, .inl (cA 2, 4, .inl vx)), (qa, .inl (cA 2, 4, .inl va)), (qq, .inl (cA 2, 60, .inl vq)), (qf, .inl (cA 3, 60, .inl (fun i => bz (vf i))))] s.heap := hP
  generalize ([.ref mo, .int ta] : List Value).toArray = args at FX ⊢
  obtain ⟨hx, hb, hml, hown, hts, hr, hlk⟩ := id FX
  refine lv_aload_n hx hb d_m_found_0 rfl (lv_at hl 0 rfl) ?_
  refine lv_iload_n hx hb d_m_found_1 rfl (lv_at hl 1 rfl) ?_
  refine ro_V (v := .int (bz (f_m_isSearch vt vo ta))) (As := [.int ta]) (rest := []) (q0 := 0) FX hK (c_m_isSearch l D cA mo qp qh qk qb qg qo qd qu qw qs qx qa qq qf vc vp vh vk vb vt vg vo vd vu vw vs vx va vq vf ta cn hcn hvc tn htn hvt hva) hP hP rfl rfl rfl kc_m_isSearch km_m_85 ki_m ks_m_isSearch ke_m_isSearch rfl ok_m_isSearch ⟨Nat.le_of_ble_eq_true rfl, Nat.le_of_ble_eq_true rfl⟩ ⟨Nat.zero_le _, Nat.zero_le _⟩ hl.1 rfl (Nat.le_of_ble_eq_true rfl) d_m_found_2 ?_
  refine lv_if_eq (tgt := 16) hx hb d_m_found_5 (by decide) (fun c1 => ?_) (fun c1 => ?_)
  · have c1 := bz_f c1
    refine lv_iconst (v := (-1)) hx hb d_m_found_16 (by decide) ?_
    exact ro_iret FX (by rw [f_m_found, if_neg c1]) d_m_found_17
  · have c1 := bz_t c1
    obtain ⟨tj, htj, htt⟩ := tg_nI htn hvt (se_tg c1)
    refine lv_aload_n hx hb d_m_found_8 rfl (lv_at hl 0 rfl) ?_
    refine lv_iload_n hx hb d_m_found_9 rfl (lv_at hl 1 rfl) ?_
    refine ro_V (v := .int (f_m_heavy vc vh vt vg vo vd vu vw vs va vq vf ta)) (As := [.int ta]) (rest := []) (q0 := 0) FX hK (c_m_heavy l D cA mo qp qh qk qb qg qo qd qu qw qs qx qa qq qf vc vp vh vk vb vt vg vo vd vu vw vs vx va vq vf ta cn hcn hvc tn htn hvt hva tj (Nat.lt_of_lt_of_le htj htn) htt) hP hP rfl rfl rfl kc_m_heavy km_m_99 ki_m ks_m_heavy ke_m_heavy rfl ok_m_heavy ⟨Nat.le_of_ble_eq_true rfl, Nat.le_of_ble_eq_true rfl⟩ ⟨Nat.zero_le _, Nat.zero_le _⟩ hl.1 rfl (Nat.le_of_ble_eq_true rfl) d_m_found_10 ?_
    refine lv_goto (tgt := 17) hx hb d_m_found_13 (by decide) ?_
    exact ro_iret FX (by rw [f_m_found, if_pos c1]) d_m_found_17
theorem d_m_told_0 : decode b_m_told 0 = .ok (.aload_n 0, 1) := by decide +kernel
theorem d_m_told_1 : decode b_m_told 1 = .ok (.iload_n 1, 1) := by decide +kernel
theorem d_m_told_2 : decode b_m_told 2 = .ok (.invokevirtual 85, 3) := by decide +kernel
theorem d_m_told_5 : decode b_m_told 5 = .ok (.ifCond .ne 5, 3) := by decide +kernel
theorem d_m_told_8 : decode b_m_told 8 = .ok (.iconst (-1), 1) := by decide +kernel
theorem d_m_told_9 : decode b_m_told 9 = .ok (.ireturn, 1) := by decide +kernel
theorem d_m_told_10 : decode b_m_told 10 = .ok (.iconst 0, 1) := by decide +kernel
theorem d_m_told_11 : decode b_m_told 11 = .ok (.istore_n 3, 1) := by decide +kernel
theorem d_m_told_12 : decode b_m_told 12 = .ok (.iload_n 3, 1) := by decide +kernel
theorem d_m_told_13 : decode b_m_told 13 = .ok (.aload_n 0, 1) := by decide +kernel
theorem d_m_told_14 : decode b_m_told 14 = .ok (.getfield 53, 3) := by decide +kernel
theorem d_m_told_17 : decode b_m_told 17 = .ok (.if_icmp .ge 90, 3) := by decide +kernel
theorem d_m_told_20 : decode b_m_told 20 = .ok (.aload_n 0, 1) := by decide +kernel
theorem d_m_told_21 : decode b_m_told 21 = .ok (.iload_n 1, 1) := by decide +kernel
theorem d_m_told_22 : decode b_m_told 22 = .ok (.iload_n 3, 1) := by decide +kernel
theorem d_m_told_23 : decode b_m_told 23 = .ok (.invokevirtual 81, 3) := by decide +kernel
theorem d_m_told_26 : decode b_m_told 26 = .ok (.lstore 4, 2) := by decide +kernel
theorem d_m_told_28 : decode b_m_told 28 = .ok (.lload 4, 2) := by decide +kernel
theorem d_m_told_30 : decode b_m_told 30 = .ok (.lconst 0, 1) := by decide +kernel
theorem d_m_told_31 : decode b_m_told 31 = .ok (.lcmp, 1) := by decide +kernel
theorem d_m_told_32 : decode b_m_told 32 = .ok (.ifCond .ne 6, 3) := by decide +kernel
theorem d_m_told_35 : decode b_m_told 35 = .ok (.goto 66, 3) := by decide +kernel
theorem d_m_told_38 : decode b_m_told 38 = .ok (.iconst 0, 1) := by decide +kernel
theorem d_m_told_39 : decode b_m_told 39 = .ok (.istore 6, 2) := by decide +kernel
theorem d_m_told_41 : decode b_m_told 41 = .ok (.iconst 0, 1) := by decide +kernel
theorem d_m_told_42 : decode b_m_told 42 = .ok (.istore 7, 2) := by decide +kernel
theorem d_m_told_44 : decode b_m_told 44 = .ok (.iload 7, 2) := by decide +kernel
theorem d_m_told_46 : decode b_m_told 46 = .ok (.aload_n 0, 1) := by decide +kernel
theorem d_m_told_47 : decode b_m_told 47 = .ok (.getfield 53, 3) := by decide +kernel
theorem d_m_told_50 : decode b_m_told 50 = .ok (.if_icmp .ge 43, 3) := by decide +kernel
theorem d_m_told_53 : decode b_m_told 53 = .ok (.aload_n 0, 1) := by decide +kernel
theorem d_m_told_54 : decode b_m_told 54 = .ok (.iload_n 1, 1) := by decide +kernel
theorem d_m_told_55 : decode b_m_told 55 = .ok (.iload 7, 2) := by decide +kernel
theorem d_m_told_57 : decode b_m_told 57 = .ok (.invokevirtual 81, 3) := by decide +kernel
theorem d_m_told_60 : decode b_m_told 60 = .ok (.lstore 8, 2) := by decide +kernel
theorem d_m_told_62 : decode b_m_told 62 = .ok (.lload 8, 2) := by decide +kernel
theorem d_m_told_64 : decode b_m_told 64 = .ok (.lload 4, 2) := by decide +kernel
theorem d_m_told_66 : decode b_m_told 66 = .ok (.lcmp, 1) := by decide +kernel
theorem d_m_told_67 : decode b_m_told 67 = .ok (.ifCond .gt 17, 3) := by decide +kernel
theorem d_m_told_70 : decode b_m_told 70 = .ok (.lload 8, 2) := by decide +kernel
theorem d_m_told_72 : decode b_m_told 72 = .ok (.lload 4, 2) := by decide +kernel
theorem d_m_told_74 : decode b_m_told 74 = .ok (.lcmp, 1) := by decide +kernel
theorem d_m_told_75 : decode b_m_told 75 = .ok (.ifCond .ne 12, 3) := by decide +kernel
theorem d_m_told_78 : decode b_m_told 78 = .ok (.iload 7, 2) := by decide +kernel
theorem d_m_told_80 : decode b_m_told 80 = .ok (.iload_n 3, 1) := by decide +kernel
theorem d_m_told_81 : decode b_m_told 81 = .ok (.if_icmp .ge 6, 3) := by decide +kernel
theorem d_m_told_84 : decode b_m_told 84 = .ok (.iinc 6 1, 3) := by decide +kernel
theorem d_m_told_87 : decode b_m_told 87 = .ok (.iinc 7 1, 3) := by decide +kernel
theorem d_m_told_90 : decode b_m_told 90 = .ok (.goto (-46), 3) := by decide +kernel
theorem d_m_told_93 : decode b_m_told 93 = .ok (.iload 6, 2) := by decide +kernel
theorem d_m_told_95 : decode b_m_told 95 = .ok (.iload_n 2, 1) := by decide +kernel
theorem d_m_told_96 : decode b_m_told 96 = .ok (.if_icmp .ne 5, 3) := by decide +kernel
theorem d_m_told_99 : decode b_m_told 99 = .ok (.iload_n 3, 1) := by decide +kernel
theorem d_m_told_100 : decode b_m_told 100 = .ok (.ireturn, 1) := by decide +kernel
theorem d_m_told_101 : decode b_m_told 101 = .ok (.iinc 3 1, 3) := by decide +kernel
theorem d_m_told_104 : decode b_m_told 104 = .ok (.goto (-92), 3) := by decide +kernel
theorem d_m_told_107 : decode b_m_told 107 = .ok (.iconst (-1), 1) := by decide +kernel
theorem d_m_told_108 : decode b_m_told 108 = .ok (.ireturn, 1) := by decide +kernel
def L_m_told_44 (vc : Int32) (vh : Nat → Bool) (vt : Int32) (vg : Nat → Bool) (vo : Nat → Bool) (vd : Nat → Int32) (vu : Nat → Int32) (vw : Nat → Int32) (va : Nat → Int32) (vq : Nat → Int32) (vf : Nat → Bool) (ta : Int32) (kk : Int32) (xi : Int32) : Nat → Int32 → Int32 → Int32 × Int32
  | 0, _, _ => (0, 0)
  | n + 1, ah, xo => if vc ≤ xo then
    ((ah, xo))
  else
    (if (f_m_weight vc vh vt vg vo vd vu vw va vq vf ta xi) < (f_m_weight vc vh vt vg vo vd vu vw va vq vf ta xo) then
      (L_m_told_44 vc vh vt vg vo vd vu vw va vq vf ta kk xi n (ah + 1) (xo + 1))
    else
      (if (f_m_weight vc vh vt vg vo vd vu vw va vq vf ta xo) = (f_m_weight vc vh vt vg vo vd vu vw va vq vf ta xi) then
        (if xi ≤ xo then
          (L_m_told_44 vc vh vt vg vo vd vu vw va vq vf ta kk xi n ah (xo + 1))
        else
          (L_m_told_44 vc vh vt vg vo vd vu vw va vq vf ta kk xi n (ah + 1) (xo + 1)))
      else
        (L_m_told_44 vc vh vt vg vo vd vu vw va vq vf ta kk xi n ah (xo + 1))))
theorem L_m_told_44_s (vc : Int32) (vh : Nat → Bool) (vt : Int32) (vg : Nat → Bool) (vo : Nat → Bool) (vd : Nat → Int32) (vu : Nat → Int32) (vw : Nat → Int32) (va : Nat → Int32) (vq : Nat → Int32) (vf : Nat → Bool) (ta : Int32) (kk : Int32) (xi : Int32) (n : Nat) (ah : Int32) (xo : Int32) : L_m_told_44 vc vh vt vg vo vd vu vw va vq vf ta kk xi (n + 1) ah xo = if vc ≤ xo then
    ((ah, xo))
  else
    (if (f_m_weight vc vh vt vg vo vd vu vw va vq vf ta xi) < (f_m_weight vc vh vt vg vo vd vu vw va vq vf ta xo) then
      (L_m_told_44 vc vh vt vg vo vd vu vw va vq vf ta kk xi n (ah + 1) (xo + 1))
    else
      (if (f_m_weight vc vh vt vg vo vd vu vw va vq vf ta xo) = (f_m_weight vc vh vt vg vo vd vu vw va vq vf ta xi) then
        (if xi ≤ xo then
          (L_m_told_44 vc vh vt vg vo vd vu vw va vq vf ta kk xi n ah (xo + 1))
        else
          (L_m_told_44 vc vh vt vg vo vd vu vw va vq vf ta kk xi n (ah + 1) (xo + 1)))
      else
        (L_m_told_44 vc vh vt vg vo vd vu vw va vq vf ta kk xi n ah (xo + 1)))) := rfl
def L_m_told_12 (vc : Int32) (vh : Nat → Bool) (vt : Int32) (vg : Nat → Bool) (vo : Nat → Bool) (vd : Nat → Int32) (vu : Nat → Int32) (vw : Nat → Int32) (va : Nat → Int32) (vq : Nat → Int32) (vf : Nat → Bool) (ta : Int32) (kk : Int32) : Nat → Int32 → Int32
  | 0, _ => 0
  | n + 1, xi => if vc ≤ xi then
    ((-1))
  else
    (if (f_m_weight vc vh vt vg vo vd vu vw va vq vf ta xi) = 0 then
      (L_m_told_12 vc vh vt vg vo vd vu vw va vq vf ta kk n (xi + 1))
    else
      (if ((L_m_told_44 vc vh vt vg vo vd vu vw va vq vf ta kk xi 41 0 0).1) = kk then
        (xi)
      else
        (L_m_told_12 vc vh vt vg vo vd vu vw va vq vf ta kk n (xi + 1))))
theorem L_m_told_12_s (vc : Int32) (vh : Nat → Bool) (vt : Int32) (vg : Nat → Bool) (vo : Nat → Bool) (vd : Nat → Int32) (vu : Nat → Int32) (vw : Nat → Int32) (va : Nat → Int32) (vq : Nat → Int32) (vf : Nat → Bool) (ta : Int32) (kk : Int32) (n : Nat) (xi : Int32) : L_m_told_12 vc vh vt vg vo vd vu vw va vq vf ta kk (n + 1) xi = if vc ≤ xi then
    ((-1))
  else
    (if (f_m_weight vc vh vt vg vo vd vu vw va vq vf ta xi) = 0 then
      (L_m_told_12 vc vh vt vg vo vd vu vw va vq vf ta kk n (xi + 1))
    else
      (if ((L_m_told_44 vc vh vt vg vo vd vu vw va vq vf ta kk xi 41 0 0).1) = kk then
        (xi)
      else
        (L_m_told_12 vc vh vt vg vo vd vu vw va vq vf ta kk n (xi + 1)))) := rfl
def f_m_told (vc : Int32) (vh : Nat → Bool) (vt : Int32) (vg : Nat → Bool) (vo : Nat → Bool) (vd : Nat → Int32) (vu : Nat → Int32) (vw : Nat → Int32) (va : Nat → Int32) (vq : Nat → Int32) (vf : Nat → Bool) (ta : Int32) (kk : Int32) : Int32 := if (f_m_isSearch vt vo ta) = true then
    (L_m_told_12 vc vh vt vg vo vd vu vw va vq vf ta kk 41 0)
  else
    ((-1))
set_option maxHeartbeats 4000000 in
set_option maxRecDepth 100000 in
theorem c_m_told (l : Launch) (D : va_G) (cA : Nat → ClassId) (mo qp qh qk qb qg qo qd qu qw qs qx qa qq qf : Nat) (vc : Int32) (vp : Nat → Int32) (vh : Nat → Bool) (vk : Nat → Bool) (vb : Nat → Bool) (vt : Int32) (vg : Nat → Bool) (vo : Nat → Bool) (vd : Nat → Int32) (vu : Nat → Int32) (vw : Nat → Int32) (vs : Nat → Int32) (vx : Nat → Int32) (va : Nat → Int32) (vq : Nat → Int32) (vf : Nat → Bool) (ta : Int32) (kk : Int32) (cn : Nat) (hcn : cn ≤ 40) (hvc : vc = nI cn) (tn : Nat) (htn : tn ≤ 4) (hvt : vt = nI tn) (hva : ∀ i, i < 4 → ∃ a, a ≤ 15 ∧ va i = nI a) : Met l y_m_told (.code y_m_told b_m_told 10 (some .int) :: tb) (rmd 5) (Pro D cA [.ref mo, .int ta, .int kk] (va_P D classes [(mo, .inr (3, [.int vc, .ref qp, .ref qh, .ref qk, .ref qb, .int vt, .ref qg, .ref qo, .ref qd, .ref qu, .ref qw, .ref qs, .ref qx, .ref qa, .ref qq, .ref qf])), (qp, .inl (cA 2, 120, .inl vp)), (qh, .inl (cA 3, 1600, .inl (fun i => bz (vh i)))), (qk, .inl (cA 3, 40, .inl (fun i => bz (vk i)))), (qb, .inl (cA 3, 40, .inl (fun i => bz (vb i)))), (qg, .inl (cA 3, 160, .inl (fun i => bz (vg i)))), (qo, .inl (cA 3, 4, .inl (fun i => bz (vo i)))), (qd, .inl (cA 2, 4, .inl vd)), (qu, .inl (cA 2, 4, .inl vu)), (qw, .inl (cA 2, 4, .inl vw)), (qs, .inl (cA 2, 4, .inl vs)), (qx, .inl (cA 2, 4, .inl vx)), (qa, .inl (cA 2, 4, .inl va)), (qq, .inl (cA 2, 60, .inl vq)), (qf, .inl (cA 3, 60, .inl (fun i => bz (vf i))))])) (Qro (.int (f_m_told vc vh vt vg vo vd vu vw va vq vf ta kk))) 0 0 nof := by
  refine ro_in (by decide) (Nat.le_of_ble_eq_true rfl) (fun p e s m below meth c ls FX hnm hK hP hl => ?_)
  have hl : lv_has ls 10 [(0, .ref mo), (1, .int ta), (2, .int kk)] := hl
  have hP : va_P D classes [(mo, .inr (3, [.int vc, .ref qp, .ref qh, .ref qk, .ref qb, .int vt, .ref qg, .ref qo, .ref qd, .ref qu, .ref qw, .ref qs, .ref qx, .ref qa, .ref qq, .ref qf])), (qp, .inl (cA 2, 120, .inl vp)), (qh, .inl (cA 3, 1600, .inl (fun i => bz (vh i)))), (qk, .inl (cA 3, 40, .inl (fun i => bz (vk i)))), (qb, .inl (cA 3, 40, .inl (fun i => bz (vb i)))), (qg, .inl (cA 3, 160, .inl (fun i => bz (vg i)))), (qo, .inl (cA 3, 4, .inl (fun i => bz (vo i)))), (qd, .inl (cA 2, 4, .inl vd)), (qu, .inl (cA 2, 4, .inl vu)), (qw, .inl (cA 2, 4, .inl vw)), (qs, .inl (cA 2, 4, .inl vs)), (qx, .inl (cA 2, 4, .inl vx)), (qa, .inl (cA 2, 4, .inl va)), (qq, .inl (cA 2, 60, .inl vq)), (qf, .inl (cA 3, 60, .inl (fun i => bz (vf i))))] s.heap := hP
  generalize ([.ref mo, .int ta, .int kk] : List Value).toArray = args at FX ⊢
  obtain ⟨hx, hb, hml, hown, hts, hr, hlk⟩ := id FX
  refine lv_aload_n hx hb d_m_told_0 rfl (lv_at hl 0 rfl) ?_
  refine lv_iload_n hx hb d_m_told_1 rfl (lv_at hl 1 rfl) ?_
  refine ro_V (v := .int (bz (f_m_isSearch vt vo ta))) (As := [.int ta]) (rest := []) (q0 := 0) FX hK (c_m_isSearch l D cA mo qp qh qk qb qg qo qd qu qw qs qx qa qq qf vc vp vh vk vb vt vg vo vd vu vw vs vx va vq vf ta cn hcn hvc tn htn hvt hva) hP hP rfl rfl rfl kc_m_isSearch km_m_85 ki_m ks_m_isSearch ke_m_isSearch rfl ok_m_isSearch ⟨Nat.le_of_ble_eq_true rfl, Nat.le_of_ble_eq_true rfl⟩ ⟨Nat.zero_le _, Nat.zero_le _⟩ hl.1 rfl (Nat.le_of_ble_eq_true rfl) d_m_told_2 ?_
  refine lv_if_ne (tgt := 10) hx hb d_m_told_5 (by decide) (fun c1 => ?_) (fun c1 => ?_)
  · have c1 := bz_t c1
    refine lv_iconst (v := 0) hx hb d_m_told_10 (by decide) ?_
    refine lv_istore_n (lv' := [(3, .int 0), (0, .ref mo), (1, .int ta), (2, .int kk)]) hx hb d_m_told_11 rfl hl (by decide) rfl (fun ls hl => ?_)
    have loop : ∀ (n k : Nat) (xi : Int32) (ls : Array Slot), k + n = 41 → k ≤ 40 → xi = nI k → lv_has ls 10 [(0, .ref mo), (1, .int ta), (2, .int kk), (3, .int xi)] → W p l e (rmd 5) s m args below meth c s.heap [] 0 0 (MQ below (Qro (.int (L_m_told_12 vc vh vt vg vo vd vu vw va vq vf ta kk n xi))) args s 0 0 nof) (F0 m 12 ls []) := by
      intro n
      induction n with
      | zero =>
        intro k xi ls h1 h2
        exact absurd h1 (by omega)
      | succ n ih =>
        intro k xi ls hkn hk hxi hl
        refine lv_iload_n hx hb d_m_told_12 rfl (lv_at hl 3 rfl) ?_
        refine lv_aload_n hx hb d_m_told_13 rfl (lv_at hl 0 rfl) ?_
        refine ro_get (v := .int vc) FX hK hP 0 0 rfl rfl rfl i_m (by decide) kf_m_53 d_m_told_14 ?_
        refine lv_icmp_ge (tgt := 107) hx hb d_m_told_17 (by decide) (fun c2 => ?_) (fun c2 => ?_)
        · have c2 := c2
          refine lv_iconst (v := (-1)) hx hb d_m_told_107 (by decide) ?_
          exact ro_iret FX (by rw [L_m_told_12_s, if_pos c2]) d_m_told_108
        · have c2 := c2
          have hk1 : k < cn := k_lt hxi hvc c2 (by omega)
          refine lv_aload_n hx hb d_m_told_20 rfl (lv_at hl 0 rfl) ?_
          refine lv_iload_n hx hb d_m_told_21 rfl (lv_at hl 1 rfl) ?_
          refine lv_iload_n hx hb d_m_told_22 rfl (lv_at hl 3 rfl) ?_
          refine ro_V (v := .long (f_m_weight vc vh vt vg vo vd vu vw va vq vf ta xi)) (As := [.int ta, .int xi]) (rest := []) (q0 := 0) FX hK (c_m_weight l D cA mo qp qh qk qb qg qo qd qu qw qs qx qa qq qf vc vp vh vk vb vt vg vo vd vu vw vs vx va vq vf ta xi cn hcn hvc tn htn hvt hva) hP hP rfl rfl rfl kc_m_weight km_m_81 ki_m ks_m_weight ke_m_weight rfl ok_m_weight ⟨Nat.le_of_ble_eq_true rfl, Nat.le_of_ble_eq_true rfl⟩ ⟨Nat.zero_le _, Nat.zero_le _⟩ hl.1 rfl (Nat.le_of_ble_eq_true rfl) d_m_told_23 ?_
          refine lv_lstore (lv' := [(4, .long (f_m_weight vc vh vt vg vo vd vu vw va vq vf ta xi)), (0, .ref mo), (1, .int ta), (2, .int kk), (3, .int xi)]) hx hb d_m_told_26 hl (by decide) rfl (fun ls hl => ?_)
          refine lv_lload hx hb d_m_told_28 (lv_at hl 0 rfl) ?_
          refine lv_lconst (v := 0) hx hb d_m_told_30 (by decide) ?_
          refine W.lcmp hx hb d_m_told_31 ?_
          refine lv_if_ne (tgt := 38) hx hb d_m_told_32 (by decide) (fun c3 => ?_) (fun c3 => ?_)
          · have c3 := cp_ne c3
            refine lv_iconst (v := 0) hx hb d_m_told_38 (by decide) ?_
            refine lv_istore (lv' := [(6, .int 0), (4, .long (f_m_weight vc vh vt vg vo vd vu vw va vq vf ta xi)), (0, .ref mo), (1, .int ta), (2, .int kk), (3, .int xi)]) hx hb d_m_told_39 hl (by decide) rfl (fun ls hl => ?_)
            refine lv_iconst (v := 0) hx hb d_m_told_41 (by decide) ?_
            refine lv_istore (lv' := [(7, .int 0), (6, .int 0), (4, .long (f_m_weight vc vh vt vg vo vd vu vw va vq vf ta xi)), (0, .ref mo), (1, .int ta), (2, .int kk), (3, .int xi)]) hx hb d_m_told_42 hl (by decide) rfl (fun ls hl => ?_)
            have loop2 : ∀ (Q : State → Prop) (n2 k2 : Nat) (ah : Int32) (xo : Int32) (ls : Array Slot), k2 + n2 = 41 → k2 ≤ 40 → xo = nI k2 → lv_has ls 10 [(0, .ref mo), (1, .int ta), (2, .int kk), (3, .int xi), (4, .long (f_m_weight vc vh vt vg vo vd vu vw va vq vf ta xi)), (6, .int ah), (7, .int xo)] → (∀ ls : Array Slot, lv_has ls 10 [(0, .ref mo), (1, .int ta), (2, .int kk), (3, .int xi), (4, .long (f_m_weight vc vh vt vg vo vd vu vw va vq vf ta xi)), (6, .int ((L_m_told_44 vc vh vt vg vo vd vu vw va vq vf ta kk xi n2 ah xo).1)), (7, .int ((L_m_told_44 vc vh vt vg vo vd vu vw va vq vf ta kk xi n2 ah xo).2))] → W p l e (rmd 5) s m args below meth c s.heap [] 0 0 Q (F0 m 93 ls [])) → W p l e (rmd 5) s m args below meth c s.heap [] 0 0 Q (F0 m 44 ls []) := by
              intro Q n2
              induction n2 with
              | zero =>
                intro k2 ah xo ls h1 h2
                exact absurd h1 (by omega)
              | succ n2 ih2 =>
                intro k2 ah xo ls hkn2 hk2 hxi2 hl kk2
                refine lv_iload hx hb d_m_told_44 (lv_at hl 6 rfl) ?_
                refine lv_aload_n hx hb d_m_told_46 rfl (lv_at hl 0 rfl) ?_
                refine ro_get (v := .int vc) FX hK hP 0 0 rfl rfl rfl i_m (by decide) kf_m_53 d_m_told_47 ?_
                refine lv_icmp_ge (tgt := 93) hx hb d_m_told_50 (by decide) (fun c4 => ?_) (fun c4 => ?_)
                · have c4 := c4
                  exact kk2 ls (by rw [L_m_told_44_s, if_pos c4]; exact lv_sub hl [0, 1, 2, 3, 4, 5, 6] rfl)
                · have c4 := c4
                  have hk12 : k2 < cn := k_lt hxi2 hvc c4 (by omega)
                  refine lv_aload_n hx hb d_m_told_53 rfl (lv_at hl 0 rfl) ?_
                  refine lv_iload_n hx hb d_m_told_54 rfl (lv_at hl 1 rfl) ?_
                  refine lv_iload hx hb d_m_told_55 (lv_at hl 6 rfl) ?_
                  refine ro_V (v := .long (f_m_weight vc vh vt vg vo vd vu vw va vq vf ta xo)) (As := [.int ta, .int xo]) (rest := []) (q0 := 0) FX hK (c_m_weight l D cA mo qp qh qk qb qg qo qd qu qw qs qx qa qq qf vc vp vh vk vb vt vg vo vd vu vw vs vx va vq vf ta xo cn hcn hvc tn htn hvt hva) hP hP rfl rfl rfl kc_m_weight km_m_81 ki_m ks_m_weight ke_m_weight rfl ok_m_weight ⟨Nat.le_of_ble_eq_true rfl, Nat.le_of_ble_eq_true rfl⟩ ⟨Nat.zero_le _, Nat.zero_le _⟩ hl.1 rfl (Nat.le_of_ble_eq_true rfl) d_m_told_57 ?_
                  refine lv_lstore (lv' := [(8, .long (f_m_weight vc vh vt vg vo vd vu vw va vq vf ta xo)), (0, .ref mo), (1, .int ta), (2, .int kk), (3, .int xi), (4, .long (f_m_weight vc vh vt vg vo vd vu vw va vq vf ta xi)), (6, .int ah), (7, .int xo)]) hx hb d_m_told_60 hl (by decide) rfl (fun ls hl => ?_)
                  refine lv_lload hx hb d_m_told_62 (lv_at hl 0 rfl) ?_
                  refine lv_lload hx hb d_m_told_64 (lv_at hl 5 rfl) ?_
                  refine W.lcmp hx hb d_m_told_66 ?_
                  refine lv_if_gt (tgt := 84) hx hb d_m_told_67 (by decide) (fun c5 => ?_) (fun c5 => ?_)
                  · have c5 := cp_gt c5
                    refine lv_iinc (v := ah + 1) (lv' := [(6, .int (ah + 1)), (8, .long (f_m_weight vc vh vt vg vo vd vu vw va vq vf ta xo)), (0, .ref mo), (1, .int ta), (2, .int kk), (3, .int xi), (4, .long (f_m_weight vc vh vt vg vo vd vu vw va vq vf ta xi)), (7, .int xo)]) hx hb d_m_told_84 hl (k := 6) rfl rfl (by decide) rfl (fun ls hl => ?_)
                    refine lv_iinc (v := xo + 1) (lv' := [(7, .int (xo + 1)), (6, .int (ah + 1)), (8, .long (f_m_weight vc vh vt vg vo vd vu vw va vq vf ta xo)), (0, .ref mo), (1, .int ta), (2, .int kk), (3, .int xi), (4, .long (f_m_weight vc vh vt vg vo vd vu vw va vq vf ta xi))]) hx hb d_m_told_87 hl (k := 7) rfl rfl (by decide) rfl (fun ls hl => ?_)
                    refine lv_goto (tgt := 44) hx hb d_m_told_90 (by decide) ?_
                    exact ih2 (k2 + 1) (ah + 1) (xo + 1) ls (by omega) (by omega) (by rw [hxi2]; exact nI_1 _)  (lv_sub hl [3, 4, 5, 6, 7, 1, 0] rfl) (fun ls hl => kk2 ls (by rw [L_m_told_44_s, if_neg c4, if_pos c5]; exact hl))
                  · have c5 := cp_ngt c5
                    refine lv_lload hx hb d_m_told_70 (lv_at hl 0 rfl) ?_
                    refine lv_lload hx hb d_m_told_72 (lv_at hl 5 rfl) ?_
                    refine W.lcmp hx hb d_m_told_74 ?_
                    refine lv_if_ne (tgt := 87) hx hb d_m_told_75 (by decide) (fun c6 => ?_) (fun c6 => ?_)
                    · have c6 := cp_ne c6
                      refine lv_iinc (v := xo + 1) (lv' := [(7, .int (xo + 1)), (8, .long (f_m_weight vc vh vt vg vo vd vu vw va vq vf ta xo)), (0, .ref mo), (1, .int ta), (2, .int kk), (3, .int xi), (4, .long (f_m_weight vc vh vt vg vo vd vu vw va vq vf ta xi)), (6, .int ah)]) hx hb d_m_told_87 hl (k := 7) rfl rfl (by decide) rfl (fun ls hl => ?_)
                      refine lv_goto (tgt := 44) hx hb d_m_told_90 (by decide) ?_
                      exact ih2 (k2 + 1) ah (xo + 1) ls (by omega) (by omega) (by rw [hxi2]; exact nI_1 _)  (lv_sub hl [2, 3, 4, 5, 6, 7, 0] rfl) (fun ls hl => kk2 ls (by rw [L_m_told_44_s, if_neg c4, if_neg c5, if_neg c6]; exact hl))
                    · have c6 := cp_eq c6
                      refine lv_iload hx hb d_m_told_78 (lv_at hl 7 rfl) ?_
                      refine lv_iload_n hx hb d_m_told_80 rfl (lv_at hl 4 rfl) ?_
                      refine lv_icmp_ge (tgt := 87) hx hb d_m_told_81 (by decide) (fun c7 => ?_) (fun c7 => ?_)
                      · have c7 := c7
                        refine lv_iinc (v := xo + 1) (lv' := [(7, .int (xo + 1)), (8, .long (f_m_weight vc vh vt vg vo vd vu vw va vq vf ta xo)), (0, .ref mo), (1, .int ta), (2, .int kk), (3, .int xi), (4, .long (f_m_weight vc vh vt vg vo vd vu vw va vq vf ta xi)), (6, .int ah)]) hx hb d_m_told_87 hl (k := 7) rfl rfl (by decide) rfl (fun ls hl => ?_)
                        refine lv_goto (tgt := 44) hx hb d_m_told_90 (by decide) ?_
                        exact ih2 (k2 + 1) ah (xo + 1) ls (by omega) (by omega) (by rw [hxi2]; exact nI_1 _)  (lv_sub hl [2, 3, 4, 5, 6, 7, 0] rfl) (fun ls hl => kk2 ls (by rw [L_m_told_44_s, if_neg c4, if_neg c5, if_pos c6, if_pos c7]; exact hl))
                      · have c7 := c7
                        refine lv_iinc (v := ah + 1) (lv' := [(6, .int (ah + 1)), (8, .long (f_m_weight vc vh vt vg vo vd vu vw va vq vf ta xo)), (0, .ref mo), (1, .int ta), (2, .int kk), (3, .int xi), (4, .long (f_m_weight vc vh vt vg vo vd vu vw va vq vf ta xi)), (7, .int xo)]) hx hb d_m_told_84 hl (k := 6) rfl rfl (by decide) rfl (fun ls hl => ?_)
                        refine lv_iinc (v := xo + 1) (lv' := [(7, .int (xo + 1)), (6, .int (ah + 1)), (8, .long (f_m_weight vc vh vt vg vo vd vu vw va vq vf ta xo)), (0, .ref mo), (1, .int ta), (2, .int kk), (3, .int xi), (4, .long (f_m_weight vc vh vt vg vo vd vu vw va vq vf ta xi))]) hx hb d_m_told_87 hl (k := 7) rfl rfl (by decide) rfl (fun ls hl => ?_)
                        refine lv_goto (tgt := 44) hx hb d_m_told_90 (by decide) ?_
                        exact ih2 (k2 + 1) (ah + 1) (xo + 1) ls (by omega) (by omega) (by rw [hxi2]; exact nI_1 _)  (lv_sub hl [3, 4, 5, 6, 7, 1, 0] rfl) (fun ls hl => kk2 ls (by rw [L_m_told_44_s, if_neg c4, if_neg c5, if_pos c6, if_neg c7]; exact hl))
            refine loop2 _ 41 0 0 0 ls rfl (Nat.zero_le _) rfl  (lv_sub hl [3, 4, 5, 6, 2, 1, 0] rfl) (fun ls hl => ?_)
            refine lv_iload hx hb d_m_told_93 (lv_at hl 5 rfl) ?_
            refine lv_iload_n hx hb d_m_told_95 rfl (lv_at hl 2 rfl) ?_
            refine lv_icmp_ne (tgt := 101) hx hb d_m_told_96 (by decide) (fun c8 => ?_) (fun c8 => ?_)
            · have c8 := c8
              refine lv_iinc (v := xi + 1) (lv' := [(3, .int (xi + 1)), (0, .ref mo), (1, .int ta), (2, .int kk), (4, .long (f_m_weight vc vh vt vg vo vd vu vw va vq vf ta xi)), (6, .int ((L_m_told_44 vc vh vt vg vo vd vu vw va vq vf ta kk xi 41 0 0).1)), (7, .int ((L_m_told_44 vc vh vt vg vo vd vu vw va vq vf ta kk xi 41 0 0).2))]) hx hb d_m_told_101 hl (k := 3) rfl rfl (by decide) rfl (fun ls hl => ?_)
              refine lv_goto (tgt := 12) hx hb d_m_told_104 (by decide) ?_
              refine ro_to (by rw [L_m_told_12_s, if_neg c2, if_neg c3, if_neg c8]) ?_
              exact ih (k + 1) (xi + 1) ls (by omega) (by omega) (by rw [hxi]; exact nI_1 _)  (lv_sub hl [1, 2, 3, 0] rfl)
            · have c8 := c8
              refine lv_iload_n hx hb d_m_told_99 rfl (lv_at hl 3 rfl) ?_
              exact ro_iret FX (by rw [L_m_told_12_s, if_neg c2, if_neg c3, if_pos c8]) d_m_told_100
          · have c3 := cp_eq c3
            refine lv_goto (tgt := 101) hx hb d_m_told_35 (by decide) ?_
            refine lv_iinc (v := xi + 1) (lv' := [(3, .int (xi + 1)), (4, .long (f_m_weight vc vh vt vg vo vd vu vw va vq vf ta xi)), (0, .ref mo), (1, .int ta), (2, .int kk)]) hx hb d_m_told_101 hl (k := 4) rfl rfl (by decide) rfl (fun ls hl => ?_)
            refine lv_goto (tgt := 12) hx hb d_m_told_104 (by decide) ?_
            refine ro_to (by rw [L_m_told_12_s, if_neg c2, if_pos c3]) ?_
            exact ih (k + 1) (xi + 1) ls (by omega) (by omega) (by rw [hxi]; exact nI_1 _)  (lv_sub hl [2, 3, 4, 0] rfl)
    refine ro_to (by rw [f_m_told, if_pos c1]) ?_
    exact loop 41 0 0 ls rfl (Nat.zero_le _) rfl  (lv_sub hl [1, 2, 3, 0] rfl)
  · have c1 := bz_f c1
    refine lv_iconst (v := (-1)) hx hb d_m_told_8 (by decide) ?_
    exact ro_iret FX (by rw [f_m_told, if_neg c1]) d_m_told_9
theorem d_m_counted_0 : decode b_m_counted 0 = .ok (.iload_n 2, 1) := by decide +kernel
theorem d_m_counted_1 : decode b_m_counted 1 = .ok (.iconst 2, 1) := by decide +kernel
theorem d_m_counted_2 : decode b_m_counted 2 = .ok (.if_icmp .ne 43, 3) := by decide +kernel
theorem d_m_counted_5 : decode b_m_counted 5 = .ok (.iconst 0, 1) := by decide +kernel
theorem d_m_counted_6 : decode b_m_counted 6 = .ok (.istore_n 3, 1) := by decide +kernel
theorem d_m_counted_7 : decode b_m_counted 7 = .ok (.iconst 0, 1) := by decide +kernel
theorem d_m_counted_8 : decode b_m_counted 8 = .ok (.istore 4, 2) := by decide +kernel
theorem d_m_counted_10 : decode b_m_counted 10 = .ok (.iload 4, 2) := by decide +kernel
theorem d_m_counted_12 : decode b_m_counted 12 = .ok (.aload_n 0, 1) := by decide +kernel
theorem d_m_counted_13 : decode b_m_counted 13 = .ok (.getfield 53, 3) := by decide +kernel
theorem d_m_counted_16 : decode b_m_counted 16 = .ok (.if_icmp .ge 27, 3) := by decide +kernel
theorem d_m_counted_19 : decode b_m_counted 19 = .ok (.iload_n 3, 1) := by decide +kernel
theorem d_m_counted_20 : decode b_m_counted 20 = .ok (.aload_n 0, 1) := by decide +kernel
theorem d_m_counted_21 : decode b_m_counted 21 = .ok (.getfield 20, 3) := by decide +kernel
theorem d_m_counted_24 : decode b_m_counted 24 = .ok (.iload 4, 2) := by decide +kernel
theorem d_m_counted_26 : decode b_m_counted 26 = .ok (.baload, 1) := by decide +kernel
theorem d_m_counted_27 : decode b_m_counted 27 = .ok (.ifCond .eq 7, 3) := by decide +kernel
theorem d_m_counted_30 : decode b_m_counted 30 = .ok (.iconst 1, 1) := by decide +kernel
theorem d_m_counted_31 : decode b_m_counted 31 = .ok (.goto 4, 3) := by decide +kernel
theorem d_m_counted_34 : decode b_m_counted 34 = .ok (.iconst 0, 1) := by decide +kernel
theorem d_m_counted_35 : decode b_m_counted 35 = .ok (.iadd, 1) := by decide +kernel
theorem d_m_counted_36 : decode b_m_counted 36 = .ok (.istore_n 3, 1) := by decide +kernel
theorem d_m_counted_37 : decode b_m_counted 37 = .ok (.iinc 4 1, 3) := by decide +kernel
theorem d_m_counted_40 : decode b_m_counted 40 = .ok (.goto (-30), 3) := by decide +kernel
theorem d_m_counted_43 : decode b_m_counted 43 = .ok (.iload_n 3, 1) := by decide +kernel
theorem d_m_counted_44 : decode b_m_counted 44 = .ok (.ireturn, 1) := by decide +kernel
theorem d_m_counted_45 : decode b_m_counted 45 = .ok (.aload_n 0, 1) := by decide +kernel
theorem d_m_counted_46 : decode b_m_counted 46 = .ok (.iload_n 1, 1) := by decide +kernel
theorem d_m_counted_47 : decode b_m_counted 47 = .ok (.invokevirtual 64, 3) := by decide +kernel
theorem d_m_counted_50 : decode b_m_counted 50 = .ok (.ifCond .ne 5, 3) := by decide +kernel
theorem d_m_counted_53 : decode b_m_counted 53 = .ok (.iconst (-1), 1) := by decide +kernel
theorem d_m_counted_54 : decode b_m_counted 54 = .ok (.ireturn, 1) := by decide +kernel
theorem d_m_counted_55 : decode b_m_counted 55 = .ok (.iload_n 2, 1) := by decide +kernel
theorem d_m_counted_56 : decode b_m_counted 56 = .ok (.iconst 1, 1) := by decide +kernel
theorem d_m_counted_57 : decode b_m_counted 57 = .ok (.if_icmp .ne 10, 3) := by decide +kernel
theorem d_m_counted_60 : decode b_m_counted 60 = .ok (.aload_n 0, 1) := by decide +kernel
theorem d_m_counted_61 : decode b_m_counted 61 = .ok (.getfield 41, 3) := by decide +kernel
theorem d_m_counted_64 : decode b_m_counted 64 = .ok (.iload_n 1, 1) := by decide +kernel
theorem d_m_counted_65 : decode b_m_counted 65 = .ok (.iaload, 1) := by decide +kernel
theorem d_m_counted_66 : decode b_m_counted 66 = .ok (.ireturn, 1) := by decide +kernel
theorem d_m_counted_67 : decode b_m_counted 67 = .ok (.aload_n 0, 1) := by decide +kernel
theorem d_m_counted_68 : decode b_m_counted 68 = .ok (.getfield 26, 3) := by decide +kernel
theorem d_m_counted_71 : decode b_m_counted 71 = .ok (.iload_n 1, 1) := by decide +kernel
theorem d_m_counted_72 : decode b_m_counted 72 = .ok (.baload, 1) := by decide +kernel
theorem d_m_counted_73 : decode b_m_counted 73 = .ok (.ifCond .ne 5, 3) := by decide +kernel
theorem d_m_counted_76 : decode b_m_counted 76 = .ok (.iconst (-1), 1) := by decide +kernel
theorem d_m_counted_77 : decode b_m_counted 77 = .ok (.ireturn, 1) := by decide +kernel
theorem d_m_counted_78 : decode b_m_counted 78 = .ok (.iload_n 2, 1) := by decide +kernel
theorem d_m_counted_79 : decode b_m_counted 79 = .ok (.ifCond .ne 12, 3) := by decide +kernel
theorem d_m_counted_82 : decode b_m_counted 82 = .ok (.aload_n 0, 1) := by decide +kernel
theorem d_m_counted_83 : decode b_m_counted 83 = .ok (.getfield 44, 3) := by decide +kernel
theorem d_m_counted_86 : decode b_m_counted 86 = .ok (.iload_n 1, 1) := by decide +kernel
theorem d_m_counted_87 : decode b_m_counted 87 = .ok (.iaload, 1) := by decide +kernel
theorem d_m_counted_88 : decode b_m_counted 88 = .ok (.goto 18, 3) := by decide +kernel
theorem d_m_counted_91 : decode b_m_counted 91 = .ok (.iload_n 2, 1) := by decide +kernel
theorem d_m_counted_92 : decode b_m_counted 92 = .ok (.iconst 3, 1) := by decide +kernel
theorem d_m_counted_93 : decode b_m_counted 93 = .ok (.if_icmp .ne 12, 3) := by decide +kernel
theorem d_m_counted_96 : decode b_m_counted 96 = .ok (.aload_n 0, 1) := by decide +kernel
theorem d_m_counted_97 : decode b_m_counted 97 = .ok (.getfield 29, 3) := by decide +kernel
theorem d_m_counted_100 : decode b_m_counted 100 = .ok (.iload_n 1, 1) := by decide +kernel
theorem d_m_counted_101 : decode b_m_counted 101 = .ok (.iaload, 1) := by decide +kernel
theorem d_m_counted_102 : decode b_m_counted 102 = .ok (.goto 4, 3) := by decide +kernel
theorem d_m_counted_105 : decode b_m_counted 105 = .ok (.iconst (-1), 1) := by decide +kernel
theorem d_m_counted_106 : decode b_m_counted 106 = .ok (.ireturn, 1) := by decide +kernel
def L_m_counted_10 (vc : Int32) (vb : Nat → Bool) (vt : Int32) (vo : Nat → Bool) (vd : Nat → Int32) (vx : Nat → Int32) (va : Nat → Int32) (ta : Int32) (wh : Int32) : Nat → Int32 → Int32 → Int32
  | 0, _, _ => 0
  | n + 1, mn, xi => if vc ≤ xi then
    (mn)
  else
    (if (vb xi.toNatClampNeg) = true then
      (L_m_counted_10 vc vb vt vo vd vx va ta wh n (mn + 1) (xi + 1))
    else
      (L_m_counted_10 vc vb vt vo vd vx va ta wh n (mn + 0) (xi + 1)))
theorem L_m_counted_10_s (vc : Int32) (vb : Nat → Bool) (vt : Int32) (vo : Nat → Bool) (vd : Nat → Int32) (vx : Nat → Int32) (va : Nat → Int32) (ta : Int32) (wh : Int32) (n : Nat) (mn : Int32) (xi : Int32) : L_m_counted_10 vc vb vt vo vd vx va ta wh (n + 1) mn xi = if vc ≤ xi then
    (mn)
  else
    (if (vb xi.toNatClampNeg) = true then
      (L_m_counted_10 vc vb vt vo vd vx va ta wh n (mn + 1) (xi + 1))
    else
      (L_m_counted_10 vc vb vt vo vd vx va ta wh n (mn + 0) (xi + 1))) := rfl
def f_m_counted (vc : Int32) (vb : Nat → Bool) (vt : Int32) (vo : Nat → Bool) (vd : Nat → Int32) (vx : Nat → Int32) (va : Nat → Int32) (ta : Int32) (wh : Int32) : Int32 := if wh = 2 then
    (L_m_counted_10 vc vb vt vo vd vx va ta wh 41 0 0)
  else
    (if (f_m_isTarget vt ta) = true then
      (if wh = 1 then
        (vx ta.toNatClampNeg)
      else
        (if (vo ta.toNatClampNeg) = true then
          (if wh = 0 then
            (va ta.toNatClampNeg)
          else
            (if wh = 3 then
              (vd ta.toNatClampNeg)
            else
              ((-1))))
        else
          ((-1))))
    else
      ((-1)))
set_option maxHeartbeats 4000000 in
set_option maxRecDepth 100000 in
theorem c_m_counted (l : Launch) (D : va_G) (cA : Nat → ClassId) (mo qp qh qk qb qg qo qd qu qw qs qx qa qq qf : Nat) (vc : Int32) (vp : Nat → Int32) (vh : Nat → Bool) (vk : Nat → Bool) (vb : Nat → Bool) (vt : Int32) (vg : Nat → Bool) (vo : Nat → Bool) (vd : Nat → Int32) (vu : Nat → Int32) (vw : Nat → Int32) (vs : Nat → Int32) (vx : Nat → Int32) (va : Nat → Int32) (vq : Nat → Int32) (vf : Nat → Bool) (ta : Int32) (wh : Int32) (cn : Nat) (hcn : cn ≤ 40) (hvc : vc = nI cn) (tn : Nat) (htn : tn ≤ 4) (hvt : vt = nI tn) (hva : ∀ i, i < 4 → ∃ a, a ≤ 15 ∧ va i = nI a) : Met l y_m_counted (.code y_m_counted b_m_counted 5 (some .int) :: tb) (rmd 2) (Pro D cA [.ref mo, .int ta, .int wh] (va_P D classes [(mo, .inr (3, [.int vc, .ref qp, .ref qh, .ref qk, .ref qb, .int vt, .ref qg, .ref qo, .ref qd, .ref qu, .ref qw, .ref qs, .ref qx, .ref qa, .ref qq, .ref qf])), (qp, .inl (cA 2, 120, .inl vp)), (qh, .inl (cA 3, 1600, .inl (fun i => bz (vh i)))), (qk, .inl (cA 3, 40, .inl (fun i => bz (vk i)))), (qb, .inl (cA 3, 40, .inl (fun i => bz (vb i)))), (qg, .inl (cA 3, 160, .inl (fun i => bz (vg i)))), (qo, .inl (cA 3, 4, .inl (fun i => bz (vo i)))), (qd, .inl (cA 2, 4, .inl vd)), (qu, .inl (cA 2, 4, .inl vu)), (qw, .inl (cA 2, 4, .inl vw)), (qs, .inl (cA 2, 4, .inl vs)), (qx, .inl (cA 2, 4, .inl vx)), (qa, .inl (cA 2, 4, .inl va)), (qq, .inl (cA 2, 60, .inl vq)), (qf, .inl (cA 3, 60, .inl (fun i => bz (vf i))))])) (Qro (.int (f_m_counted vc vb vt vo vd vx va ta wh))) 0 0 nof := by
  refine ro_in (by decide) (Nat.le_of_ble_eq_true rfl) (fun p e s m below meth c ls FX hnm hK hP hl => ?_)
  have hl : lv_has ls 5 [(0, .ref mo), (1, .int ta), (2, .int wh)] := hl
  have hP : va_P D classes [(mo, .inr (3, [.int vc, .ref qp, .ref qh, .ref qk, .ref qb, .int vt, .ref qg, .ref qo, .ref qd, .ref qu, .ref qw, .ref qs, .ref qx, .ref qa, .ref qq, .ref qf])), (qp, .inl (cA 2, 120, .inl vp)), (qh, .inl (cA 3, 1600, .inl (fun i => bz (vh i)))), (qk, .inl (cA 3, 40, .inl (fun i => bz (vk i)))), (qb, .inl (cA 3, 40, .inl (fun i => bz (vb i)))), (qg, .inl (cA 3, 160, .inl (fun i => bz (vg i)))), (qo, .inl (cA 3, 4, .inl (fun i => bz (vo i)))), (qd, .inl (cA 2, 4, .inl vd)), (qu, .inl (cA 2, 4, .inl vu)), (qw, .inl (cA 2, 4, .inl vw)), (qs, .inl (cA 2, 4, .inl vs)), (qx, .inl (cA 2, 4, .inl vx)), (qa, .inl (cA 2, 4, .inl va)), (qq, .inl (cA 2, 60, .inl vq)), (qf, .inl (cA 3, 60, .inl (fun i => bz (vf i))))] s.heap := hP
  generalize ([.ref mo, .int ta, .int wh] : List Value).toArray = args at FX ⊢
  obtain ⟨hx, hb, hml, hown, hts, hr, hlk⟩ := id FX
  refine lv_iload_n hx hb d_m_counted_0 rfl (lv_at hl 2 rfl) ?_
  refine lv_iconst (v := 2) hx hb d_m_counted_1 (by decide) ?_
  refine lv_icmp_ne (tgt := 45) hx hb d_m_counted_2 (by decide) (fun c1 => ?_) (fun c1 => ?_)
  · have c1 := c1
    refine lv_aload_n hx hb d_m_counted_45 rfl (lv_at hl 0 rfl) ?_
    refine lv_iload_n hx hb d_m_counted_46 rfl (lv_at hl 1 rfl) ?_
    refine ro_V (v := .int (bz (f_m_isTarget vt ta))) (As := [.int ta]) (rest := []) (q0 := 0) FX hK (c_m_isTarget l D cA mo qp qh qk qb qg qo qd qu qw qs qx qa qq qf vc vp vh vk vb vt vg vo vd vu vw vs vx va vq vf ta) hP hP rfl rfl rfl kc_m_isTarget km_m_64 ki_m ks_m_isTarget ke_m_isTarget rfl ok_m_isTarget ⟨Nat.le_of_ble_eq_true rfl, Nat.le_of_ble_eq_true rfl⟩ ⟨Nat.zero_le _, Nat.zero_le _⟩ hl.1 rfl (Nat.le_of_ble_eq_true rfl) d_m_counted_47 ?_
    refine lv_if_ne (tgt := 55) hx hb d_m_counted_50 (by decide) (fun c2 => ?_) (fun c2 => ?_)
    · have c2 := bz_t c2
      obtain ⟨tj, htj, htt⟩ := tg_nI htn hvt c2
      refine lv_iload_n hx hb d_m_counted_55 rfl (lv_at hl 2 rfl) ?_
      refine lv_iconst (v := 1) hx hb d_m_counted_56 (by decide) ?_
      refine lv_icmp_ne (tgt := 67) hx hb d_m_counted_57 (by decide) (fun c3 => ?_) (fun c3 => ?_)
      · have c3 := c3
        refine lv_aload_n hx hb d_m_counted_67 rfl (lv_at hl 0 rfl) ?_
        refine ro_get (v := .ref qo) FX hK hP 0 7 rfl rfl rfl i_m (by decide) kf_m_26 d_m_counted_68 ?_
        refine lv_iload_n hx hb d_m_counted_71 rfl (lv_at hl 1 rfl) ?_
        refine va_zald hx hb hK.1 hP 6 3 rfl rfl (vin htt (by omega) (by decide)) d_m_counted_72 ?_
        refine W.eq (g2 := F0 m 73 ls [.int (bz (vo ta.toNatClampNeg))]) rfl ?_
        refine lv_if_ne (tgt := 78) hx hb d_m_counted_73 (by decide) (fun c4 => ?_) (fun c4 => ?_)
        · have c4 := bz_t c4
          refine lv_iload_n hx hb d_m_counted_78 rfl (lv_at hl 2 rfl) ?_
          refine lv_if_ne (tgt := 91) hx hb d_m_counted_79 (by decide) (fun c5 => ?_) (fun c5 => ?_)
          · have c5 := c5
            refine lv_iload_n hx hb d_m_counted_91 rfl (lv_at hl 2 rfl) ?_
            refine lv_iconst (v := 3) hx hb d_m_counted_92 (by decide) ?_
            refine lv_icmp_ne (tgt := 105) hx hb d_m_counted_93 (by decide) (fun c6 => ?_) (fun c6 => ?_)
            · have c6 := c6
              refine lv_iconst (v := (-1)) hx hb d_m_counted_105 (by decide) ?_
              exact ro_iret FX (by rw [f_m_counted, if_neg c1, if_pos c2, if_neg c3, if_pos c4, if_neg c5, if_neg c6]) d_m_counted_106
            · have c6 := c6
              refine lv_aload_n hx hb d_m_counted_96 rfl (lv_at hl 0 rfl) ?_
              refine ro_get (v := .ref qd) FX hK hP 0 8 rfl rfl rfl i_m (by decide) kf_m_29 d_m_counted_97 ?_
              refine lv_iload_n hx hb d_m_counted_100 rfl (lv_at hl 1 rfl) ?_
              refine va_iald hx hb hK.1 hP 7 2 rfl rfl (vin htt (by omega) (by decide)) d_m_counted_101 ?_
              refine lv_goto (tgt := 106) hx hb d_m_counted_102 (by decide) ?_
              exact ro_iret FX (by rw [f_m_counted, if_neg c1, if_pos c2, if_neg c3, if_pos c4, if_neg c5, if_pos c6]) d_m_counted_106
          · have c5 := c5
            refine lv_aload_n hx hb d_m_counted_82 rfl (lv_at hl 0 rfl) ?_
            refine ro_get (v := .ref qa) FX hK hP 0 13 rfl rfl rfl i_m (by decide) kf_m_44 d_m_counted_83 ?_
            refine lv_iload_n hx hb d_m_counted_86 rfl (lv_at hl 1 rfl) ?_
            refine va_iald hx hb hK.1 hP 12 2 rfl rfl (vin htt (by omega) (by decide)) d_m_counted_87 ?_
            refine lv_goto (tgt := 106) hx hb d_m_counted_88 (by decide) ?_
            exact ro_iret FX (by rw [f_m_counted, if_neg c1, if_pos c2, if_neg c3, if_pos c4, if_pos c5]) d_m_counted_106
        · have c4 := bz_f c4
          refine lv_iconst (v := (-1)) hx hb d_m_counted_76 (by decide) ?_
          exact ro_iret FX (by rw [f_m_counted, if_neg c1, if_pos c2, if_neg c3, if_neg c4]) d_m_counted_77
      · have c3 := c3
        refine lv_aload_n hx hb d_m_counted_60 rfl (lv_at hl 0 rfl) ?_
        refine ro_get (v := .ref qx) FX hK hP 0 12 rfl rfl rfl i_m (by decide) kf_m_41 d_m_counted_61 ?_
        refine lv_iload_n hx hb d_m_counted_64 rfl (lv_at hl 1 rfl) ?_
        refine va_iald hx hb hK.1 hP 11 2 rfl rfl (vin htt (by omega) (by decide)) d_m_counted_65 ?_
        exact ro_iret FX (by rw [f_m_counted, if_neg c1, if_pos c2, if_pos c3]) d_m_counted_66
    · have c2 := bz_f c2
      refine lv_iconst (v := (-1)) hx hb d_m_counted_53 (by decide) ?_
      exact ro_iret FX (by rw [f_m_counted, if_neg c1, if_neg c2]) d_m_counted_54
  · have c1 := c1
    refine lv_iconst (v := 0) hx hb d_m_counted_5 (by decide) ?_
    refine lv_istore_n (lv' := [(3, .int 0), (0, .ref mo), (1, .int ta), (2, .int wh)]) hx hb d_m_counted_6 rfl hl (by decide) rfl (fun ls hl => ?_)
    refine lv_iconst (v := 0) hx hb d_m_counted_7 (by decide) ?_
    refine lv_istore (lv' := [(4, .int 0), (3, .int 0), (0, .ref mo), (1, .int ta), (2, .int wh)]) hx hb d_m_counted_8 hl (by decide) rfl (fun ls hl => ?_)
    have loop : ∀ (n k : Nat) (mn : Int32) (xi : Int32) (ls : Array Slot), k + n = 41 → k ≤ 40 → xi = nI k → lv_has ls 5 [(0, .ref mo), (1, .int ta), (2, .int wh), (3, .int mn), (4, .int xi)] → W p l e (rmd 2) s m args below meth c s.heap [] 0 0 (MQ below (Qro (.int (L_m_counted_10 vc vb vt vo vd vx va ta wh n mn xi))) args s 0 0 nof) (F0 m 10 ls []) := by
      intro n
      induction n with
      | zero =>
        intro k mn xi ls h1 h2
        exact absurd h1 (by omega)
      | succ n ih =>
        intro k mn xi ls hkn hk hxi hl
        refine lv_iload hx hb d_m_counted_10 (lv_at hl 4 rfl) ?_
        refine lv_aload_n hx hb d_m_counted_12 rfl (lv_at hl 0 rfl) ?_
        refine ro_get (v := .int vc) FX hK hP 0 0 rfl rfl rfl i_m (by decide) kf_m_53 d_m_counted_13 ?_
        refine lv_icmp_ge (tgt := 43) hx hb d_m_counted_16 (by decide) (fun c7 => ?_) (fun c7 => ?_)
        · have c7 := c7
          refine lv_iload_n hx hb d_m_counted_43 rfl (lv_at hl 3 rfl) ?_
          exact ro_iret FX (by rw [L_m_counted_10_s, if_pos c7]) d_m_counted_44
        · have c7 := c7
          have hk1 : k < cn := k_lt hxi hvc c7 (by omega)
          refine lv_iload_n hx hb d_m_counted_19 rfl (lv_at hl 3 rfl) ?_
          refine lv_aload_n hx hb d_m_counted_20 rfl (lv_at hl 0 rfl) ?_
          refine ro_get (v := .ref qb) FX hK hP 0 4 rfl rfl rfl i_m (by decide) kf_m_20 d_m_counted_21 ?_
          refine lv_iload hx hb d_m_counted_24 (lv_at hl 4 rfl) ?_
          refine va_zald hx hb hK.1 hP 4 3 rfl rfl (vin hxi (Nat.lt_of_lt_of_le hk1 (by omega)) (by decide)) d_m_counted_26 ?_
          refine W.eq (g2 := F0 m 27 ls [.int (bz (vb xi.toNatClampNeg)), .int mn]) rfl ?_
          refine lv_if_eq (tgt := 34) hx hb d_m_counted_27 (by decide) (fun c8 => ?_) (fun c8 => ?_)
          · have c8 := bz_f c8
            refine lv_iconst (v := 0) hx hb d_m_counted_34 (by decide) ?_
            refine lv_iadd hx hb d_m_counted_35 ?_
            refine lv_istore_n (lv' := [(3, .int (mn + 0)), (0, .ref mo), (1, .int ta), (2, .int wh), (4, .int xi)]) hx hb d_m_counted_36 rfl hl (by decide) rfl (fun ls hl => ?_)
            refine lv_iinc (v := xi + 1) (lv' := [(4, .int (xi + 1)), (3, .int (mn + 0)), (0, .ref mo), (1, .int ta), (2, .int wh)]) hx hb d_m_counted_37 hl (k := 4) rfl rfl (by decide) rfl (fun ls hl => ?_)
            refine lv_goto (tgt := 10) hx hb d_m_counted_40 (by decide) ?_
            refine ro_to (by rw [L_m_counted_10_s, if_neg c7, if_neg c8]) ?_
            exact ih (k + 1) (mn + 0) (xi + 1) ls (by omega) (by omega) (by rw [hxi]; exact nI_1 _)  (lv_sub hl [2, 3, 4, 1, 0] rfl)
          · have c8 := bz_t c8
            refine lv_iconst (v := 1) hx hb d_m_counted_30 (by decide) ?_
            refine lv_goto (tgt := 35) hx hb d_m_counted_31 (by decide) ?_
            refine lv_iadd hx hb d_m_counted_35 ?_
            refine lv_istore_n (lv' := [(3, .int (mn + 1)), (0, .ref mo), (1, .int ta), (2, .int wh), (4, .int xi)]) hx hb d_m_counted_36 rfl hl (by decide) rfl (fun ls hl => ?_)
            refine lv_iinc (v := xi + 1) (lv' := [(4, .int (xi + 1)), (3, .int (mn + 1)), (0, .ref mo), (1, .int ta), (2, .int wh)]) hx hb d_m_counted_37 hl (k := 4) rfl rfl (by decide) rfl (fun ls hl => ?_)
            refine lv_goto (tgt := 10) hx hb d_m_counted_40 (by decide) ?_
            refine ro_to (by rw [L_m_counted_10_s, if_neg c7, if_pos c8]) ?_
            exact ih (k + 1) (mn + 1) (xi + 1) ls (by omega) (by omega) (by rw [hxi]; exact nI_1 _)  (lv_sub hl [2, 3, 4, 1, 0] rfl)
    refine ro_to (by rw [f_m_counted, if_pos c1]) ?_
    exact loop 41 0 0 0 ls rfl (Nat.zero_le _) rfl  (lv_sub hl [2, 3, 4, 1, 0] rfl)
