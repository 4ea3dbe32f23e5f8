theorem d_m_target_0 : decode b_m_target 0 = .ok (.aload_n 0, 1) := by decide +kernel
theorem d_m_target_1 : decode b_m_target 1 = .ok (.getfield 61, 3) := by decide +kernel
theorem d_m_target_4 : decode b_m_target 4 = .ok (.iconst 4, 1) := by decide +kernel
theorem d_m_target_5 : decode b_m_target 5 = .ok (.if_icmp .ne 5, 3) := by decide +kernel
theorem d_m_target_8 : decode b_m_target 8 = .ok (.iconst (-1), 1) := by decide +kernel
theorem d_m_target_9 : decode b_m_target 9 = .ok (.ireturn, 1) := by decide +kernel
theorem d_m_target_10 : decode b_m_target 10 = .ok (.aload_n 0, 1) := by decide +kernel
theorem d_m_target_11 : decode b_m_target 11 = .ok (.dup, 1) := by decide +kernel
theorem d_m_target_12 : decode b_m_target 12 = .ok (.getfield 61, 3) := by decide +kernel
theorem d_m_target_15 : decode b_m_target 15 = .ok (.iconst 1, 1) := by decide +kernel
theorem d_m_target_16 : decode b_m_target 16 = .ok (.iadd, 1) := by decide +kernel
theorem d_m_target_17 : decode b_m_target 17 = .ok (.putfield 61, 3) := by decide +kernel
theorem d_m_target_20 : decode b_m_target 20 = .ok (.aload_n 0, 1) := by decide +kernel
theorem d_m_target_21 : decode b_m_target 21 = .ok (.getfield 61, 3) := by decide +kernel
theorem d_m_target_24 : decode b_m_target 24 = .ok (.iconst 1, 1) := by decide +kernel
theorem d_m_target_25 : decode b_m_target 25 = .ok (.isub, 1) := by decide +kernel
theorem d_m_target_26 : decode b_m_target 26 = .ok (.ireturn, 1) := by decide +kernel
def f_m_target (vt : Int32) : Int32 × Int32 := if vt = 4 then
    (((-1), vt))
  else
    (((vt + 1) - 1, vt + 1))
set_option maxHeartbeats 4000000 in
set_option maxRecDepth 100000 in
theorem c_m_target (l : Launch) (D : va_G) (cA : Nat → ClassId) (mo qp qh qk qb qg qo qd qu qw qs qx qa qq qf : Nat) (vc : Int32) (vp : Nat → Int32) (vh : Nat → Bool) (vk : Nat → Bool) (vb : Nat → Bool) (vt : Int32) (vg : Nat → Bool) (vo : Nat → Bool) (vd : Nat → Int32) (vu : Nat → Int32) (vw : Nat → Int32) (vs : Nat → Int32) (vx : Nat → Int32) (va : Nat → Int32) (vq : Nat → Int32) (vf : Nat → Bool) : Met l y_m_target (.code y_m_target b_m_target 1 (some .int) :: tb) (rmd 0) (Pro D cA [.ref mo] (fun H0 => va_P D classes [(mo, .inr (3, [.int vc, .ref qp, .ref qh, .ref qk, .ref qb, .int vt, .ref qg, .ref qo, .ref qd, .ref qu, .ref qw, .ref qs, .ref qx, .ref qa, .ref qq, .ref qf])), (qp, .inl (cA 2, 120, .inl vp)), (qh, .inl (cA 3, 1600, .inl (fun i => bz (vh i)))), (qk, .inl (cA 3, 40, .inl (fun i => bz (vk i)))), (qb, .inl (cA 3, 40, .inl (fun i => bz (vb i)))), (qg, .inl (cA 3, 160, .inl (fun i => bz (vg i)))), (qo, .inl (cA 3, 4, .inl (fun i => bz (vo i)))), (qd, .inl (cA 2, 4, .inl vd)), (qu, .inl (cA 2, 4, .inl vu)), (qw, .inl (cA 2, 4, .inl vw)), (qs, .inl (cA 2, 4, .inl vs)), (qx, .inl (cA 2, 4, .inl vx)), (qa, .inl (cA 2, 4, .inl va)), (qq, .inl (cA 2, 60, .inl vq)), (qf, .inl (cA 3, 60, .inl (fun i => bz (vf i))))] H0 ∧ va_D (fun _ => True) [(mo, .inr (3, [.int vc, .ref qp, .ref qh, .ref qk, .ref qb, .int vt, .ref qg, .ref qo, .ref qd, .ref qu, .ref qw, .ref qs, .ref qx, .ref qa, .ref qq, .ref qf])), (qp, .inl (cA 2, 120, .inl vp)), (qh, .inl (cA 3, 1600, .inl (fun i => bz (vh i)))), (qk, .inl (cA 3, 40, .inl (fun i => bz (vk i)))), (qb, .inl (cA 3, 40, .inl (fun i => bz (vb i)))), (qg, .inl (cA 3, 160, .inl (fun i => bz (vg i)))), (qo, .inl (cA 3, 4, .inl (fun i => bz (vo i)))), (qd, .inl (cA 2, 4, .inl vd)), (qu, .inl (cA 2, 4, .inl vu)), (qw, .inl (cA 2, 4, .inl vw)), (qs, .inl (cA 2, 4, .inl vs)), (qx, .inl (cA 2, 4, .inl vx)), (qa, .inl (cA 2, 4, .inl va)), (qq, .inl (cA 2, 60, .inl vq)), (qf, .inl (cA 3, 60, .inl (fun i => bz (vf i))))])) (Qmu (aw [(mo, .inr (3, [.int vc, .ref qp, .ref qh, .ref qk, .ref qb, .int vt, .ref qg, .ref qo, .ref qd, .ref qu, .ref qw, .ref qs, .ref qx, .ref qa, .ref qq, .ref qf])), (qp, .inl (cA 2, 120, .inl vp)), (qh, .inl (cA 3, 1600, .inl (fun i => bz (vh i)))), (qk, .inl (cA 3, 40, .inl (fun i => bz (vk i)))), (qb, .inl (cA 3, 40, .inl (fun i => bz (vb i)))), (qg, .inl (cA 3, 160, .inl (fun i => bz (vg i)))), (qo, .inl (cA 3, 4, .inl (fun i => bz (vo i)))), (qd, .inl (cA 2, 4, .inl vd)), (qu, .inl (cA 2, 4, .inl vu)), (qw, .inl (cA 2, 4, .inl vw)), (qs, .inl (cA 2, 4, .inl vs)), (qx, .inl (cA 2, 4, .inl vx)), (qa, .inl (cA 2, 4, .inl va)), (qq, .inl (cA 2, 60, .inl vq)), (qf, .inl (cA 3, 60, .inl (fun i => bz (vf i))))]) (fun v0 H0 => v0 = some (.int ((f_m_target vt).1)) ∧ va_P D classes [(mo, .inr (3, [.int vc, .ref qp, .ref qh, .ref qk, .ref qb, .int ((f_m_target vt).2), .ref qg, .ref qo, .ref qd, .ref qu, .ref qw, .ref qs, .ref qx, .ref qa, .ref qq, .ref qf])), (qp, .inl (cA 2, 120, .inl vp)), (qh, .inl (cA 3, 1600, .inl (fun i => bz (vh i)))), (qk, .inl (cA 3, 40, .inl (fun i => bz (vk i)))), (qb, .inl (cA 3, 40, .inl (fun i => bz (vb i)))), (qg, .inl (cA 3, 160, .inl (fun i => bz (vg i)))), (qo, .inl (cA 3, 4, .inl (fun i => bz (vo i)))), (qd, .inl (cA 2, 4, .inl vd)), (qu, .inl (cA 2, 4, .inl vu)), (qw, .inl (cA 2, 4, .inl vw)), (qs, .inl (cA 2, 4, .inl vs)), (qx, .inl (cA 2, 4, .inl vx)), (qa, .inl (cA 2, 4, .inl va)), (qq, .inl (cA 2, 60, .inl vq)), (qf, .inl (cA 3, 60, .inl (fun i => bz (vf i))))] H0 ∧ va_D (aw [(mo, .inr (3, [.int vc, .ref qp, .ref qh, .ref qk, .ref qb, .int vt, .ref qg, .ref qo, .ref qd, .ref qu, .ref qw, .ref qs, .ref qx, .ref qa, .ref qq, .ref qf])), (qp, .inl (cA 2, 120, .inl vp)), (qh, .inl (cA 3, 1600, .inl (fun i => bz (vh i)))), (qk, .inl (cA 3, 40, .inl (fun i => bz (vk i)))), (qb, .inl (cA 3, 40, .inl (fun i => bz (vb i)))), (qg, .inl (cA 3, 160, .inl (fun i => bz (vg i)))), (qo, .inl (cA 3, 4, .inl (fun i => bz (vo i)))), (qd, .inl (cA 2, 4, .inl vd)), (qu, .inl (cA 2, 4, .inl vu)), (qw, .inl (cA 2, 4, .inl vw)), (qs, .inl (cA 2, 4, .inl vs)), (qx, .inl (cA 2, 4, .inl vx)), (qa, .inl (cA 2, 4, .inl va)), (qq, .inl (cA 2, 60, .inl vq)), (qf, .inl (cA 3, 60, .inl (fun i => bz (vf i))))]) [(mo, .inr (3, [.int vc, .ref qp, .ref qh, .ref qk, .ref qb, .int ((f_m_target vt).2), .ref qg, .ref qo, .ref qd, .ref qu, .ref qw, .ref qs, .ref qx, .ref qa, .ref qq, .ref qf])), (qp, .inl (cA 2, 120, .inl vp)), (qh, .inl (cA 3, 1600, .inl (fun i => bz (vh i)))), (qk, .inl (cA 3, 40, .inl (fun i => bz (vk i)))), (qb, .inl (cA 3, 40, .inl (fun i => bz (vb i)))), (qg, .inl (cA 3, 160, .inl (fun i => bz (vg i)))), (qo, .inl (cA 3, 4, .inl (fun i => bz (vo i)))), (qd, .inl (cA 2, 4, .inl vd)), (qu, .inl (cA 2, 4, .inl vu)), (qw, .inl (cA 2, 4, .inl vw)), (qs, .inl (cA 2, 4, .inl vs)), (qx, .inl (cA 2, 4, .inl vx)), (qa, .inl (cA 2, 4, .inl va)), (qq, .inl (cA 2, 60, .inl vq)), (qf, .inl (cA 3, 60, .inl (fun i => bz (vf i))))])) 0 0 (aw [(mo, .inr (3, [.int vc, .ref qp, .ref qh, .ref qk, .ref qb, .int vt, .ref qg, .ref qo, .ref qd, .ref qu, .ref qw, .ref qs, .ref qx, .ref qa, .ref qq, .ref qf])), (qp, .inl (cA 2, 120, .inl vp)), (qh, .inl (cA 3, 1600, .inl (fun i => bz (vh i)))), (qk, .inl (cA 3, 40, .inl (fun i => bz (vk i)))), (qb, .inl (cA 3, 40, .inl (fun i => bz (vb i)))), (qg, .inl (cA 3, 160, .inl (fun i => bz (vg i)))), (qo, .inl (cA 3, 4, .inl (fun i => bz (vo i)))), (qd, .inl (cA 2, 4, .inl vd)), (qu, .inl (cA 2, 4, .inl vu)), (qw, .inl (cA 2, 4, .inl vw)), (qs, .inl (cA 2, 4, .inl vs)), (qx, .inl (cA 2, 4, .inl vx)), (qa, .inl (cA 2, 4, .inl va)), (qq, .inl (cA 2, 60, .inl vq)), (qf, .inl (cA 3, 60, .inl (fun i => bz (vf i))))]) := by
  refine ro_in (by decide) (Nat.le_of_ble_eq_true rfl) (fun p e s m below meth c ls FX hnm hK hP hl => ?_)
  have hl : lv_has ls 1 [(0, .ref mo)] := hl
  obtain ⟨hP, hD0⟩ := hP
  have hP : va_P D classes [(mo, .inr (3, [.int vc, .ref qp, .ref qh, .ref qk, .ref qb, .int vt, .ref qg, .ref qo, .ref qd, .ref qu, .ref qw, .ref qs, .ref qx, .ref qa, .ref qq, .ref qf])), (qp, .inl (cA 2, 120, .inl vp)), (qh, .inl (cA 3, 1600, .inl (fun i => bz (vh i)))), (qk, .inl (cA 3, 40, .inl (fun i => bz (vk i)))), (qb, .inl (cA 3, 40, .inl (fun i => bz (vb i)))), (qg, .inl (cA 3, 160, .inl (fun i => bz (vg i)))), (qo, .inl (cA 3, 4, .inl (fun i => bz (vo i)))), (qd, .inl (cA 2, 4, .inl vd)), (qu, .inl (cA 2, 4, .inl vu)), (qw, .inl (cA 2, 4, .inl vw)), (qs, .inl (cA 2, 4, .inl vs)), (qx, .inl (cA 2, 4, .inl vx)), (qa, .inl (cA 2, 4, .inl va)), (qq, .inl (cA 2, 60, .inl vq)), (qf, .inl (cA 3, 60, .inl (fun i => bz (vf i))))] s.heap := hP
  have hD : va_D (aw [(mo, .inr (3, [.int vc, .ref qp, .ref qh, .ref qk, .ref qb, .int vt, .ref qg, .ref qo, .ref qd, .ref qu, .ref qw, .ref qs, .ref qx, .ref qa, .ref qq, .ref qf])), (qp, .inl (cA 2, 120, .inl vp)), (qh, .inl (cA 3, 1600, .inl (fun i => bz (vh i)))), (qk, .inl (cA 3, 40, .inl (fun i => bz (vk i)))), (qb, .inl (cA 3, 40, .inl (fun i => bz (vb i)))), (qg, .inl (cA 3, 160, .inl (fun i => bz (vg i)))), (qo, .inl (cA 3, 4, .inl (fun i => bz (vo i)))), (qd, .inl (cA 2, 4, .inl vd)), (qu, .inl (cA 2, 4, .inl vu)), (qw, .inl (cA 2, 4, .inl vw)), (qs, .inl (cA 2, 4, .inl vs)), (qx, .inl (cA 2, 4, .inl vx)), (qa, .inl (cA 2, 4, .inl va)), (qq, .inl (cA 2, 60, .inl vq)), (qf, .inl (cA 3, 60, .inl (fun i => bz (vf i))))]) [(mo, .inr (3, [.int vc, .ref qp, .ref qh, .ref qk, .ref qb, .int vt, .ref qg, .ref qo, .ref qd, .ref qu, .ref qw, .ref qs, .ref qx, .ref qa, .ref qq, .ref qf])), (qp, .inl (cA 2, 120, .inl vp)), (qh, .inl (cA 3, 1600, .inl (fun i => bz (vh i)))), (qk, .inl (cA 3, 40, .inl (fun i => bz (vk i)))), (qb, .inl (cA 3, 40, .inl (fun i => bz (vb i)))), (qg, .inl (cA 3, 160, .inl (fun i => bz (vg i)))), (qo, .inl (cA 3, 4, .inl (fun i => bz (vo i)))), (qd, .inl (cA 2, 4, .inl vd)), (qu, .inl (cA 2, 4, .inl vu)), (qw, .inl (cA 2, 4, .inl vw)), (qs, .inl (cA 2, 4, .inl vs)), (qx, .inl (cA 2, 4, .inl vx)), (qa, .inl (cA 2, 4, .inl va)), (qq, .inl (cA 2, 60, .inl vq)), (qf, .inl (cA 3, 60, .inl (fun i => bz (vf i))))] := aw_self hD0
  generalize (aw [(mo, .inr (3, [.int vc, .ref qp, .ref qh, .ref qk, .ref qb, .int vt, .ref qg, .ref qo, .ref qd, .ref qu, .ref qw, .ref qs, .ref qx, .ref qa, .ref qq, .ref qf])), (qp, .inl (cA 2, 120, .inl vp)), (qh, .inl (cA 3, 1600, .inl (fun i => bz (vh i)))), (qk, .inl (cA 3, 40, .inl (fun i => bz (vk i)))), (qb, .inl (cA 3, 40, .inl (fun i => bz (vb i)))), (qg, .inl (cA 3, 160, .inl (fun i => bz (vg i)))), (qo, .inl (cA 3, 4, .inl (fun i => bz (vo i)))), (qd, .inl (cA 2, 4, .inl vd)), (qu, .inl (cA 2, 4, .inl vu)), (qw, .inl (cA 2, 4, .inl vw)), (qs, .inl (cA 2, 4, .inl vs)), (qx, .inl (cA 2, 4, .inl vx)), (qa, .inl (cA 2, 4, .inl va)), (qq, .inl (cA 2, 60, .inl vq)), (qf, .inl (cA 3, 60, .inl (fun i => bz (vf i))))]) = A at hD ⊢
  have hS : va_S A s.heap s.heap [] := va_S.rf
  generalize ([.ref mo] : List Value).toArray = args at FX ⊢
  obtain ⟨hx, hb, hml, hown, hts, hr, hlk⟩ := id FX
  refine lv_aload_n hx hb d_m_target_0 rfl (lv_at hl 0 rfl) ?_
  refine ro_get (v := .int vt) FX hK hP 0 5 rfl rfl rfl i_m (by decide) kf_m_61 d_m_target_1 ?_
  refine lv_iconst (v := 4) hx hb d_m_target_4 (by decide) ?_
  refine lv_icmp_ne (tgt := 10) hx hb d_m_target_5 (by decide) (fun c1 => ?_) (fun c1 => ?_)
  · have c1 := c1
    refine lv_aload_n hx hb d_m_target_10 rfl (lv_at hl 0 rfl) ?_
    refine lv_dup hx hb d_m_target_11 rfl ?_
    refine ro_get (v := .int vt) FX hK hP 0 5 rfl rfl rfl i_m (by decide) kf_m_61 d_m_target_12 ?_
    refine lv_iconst (v := 1) hx hb d_m_target_15 (by decide) ?_
    refine lv_iadd hx hb d_m_target_16 ?_
    refine va_put (D := D) (v := .int (vt + 1)) (ty := .int) hx hb hts i_m t_m t_m_ok n_m hown hK.1 hP hD hS 0 rfl rfl 5 (by decide) (hts _ kf_m_61) (fun _ h9 => h9) rfl (by decide +kernel) rfl rfl (Nat.le_of_ble_eq_true rfl) d_m_target_17 (fun H locs hP hD hS => ?_)
    have hP : va_P D classes [(mo, .inr (3, [.int vc, .ref qp, .ref qh, .ref qk, .ref qb, .int (vt + 1), .ref qg, .ref qo, .ref qd, .ref qu, .ref qw, .ref qs, .ref qx, .ref qa, .ref qq, .ref qf])), (qp, .inl (cA 2, 120, .inl vp)), (qh, .inl (cA 3, 1600, .inl (fun i => bz (vh i)))), (qk, .inl (cA 3, 40, .inl (fun i => bz (vk i)))), (qb, .inl (cA 3, 40, .inl (fun i => bz (vb i)))), (qg, .inl (cA 3, 160, .inl (fun i => bz (vg i)))), (qo, .inl (cA 3, 4, .inl (fun i => bz (vo i)))), (qd, .inl (cA 2, 4, .inl vd)), (qu, .inl (cA 2, 4, .inl vu)), (qw, .inl (cA 2, 4, .inl vw)), (qs, .inl (cA 2, 4, .inl vs)), (qx, .inl (cA 2, 4, .inl vx)), (qa, .inl (cA 2, 4, .inl va)), (qq, .inl (cA 2, 60, .inl vq)), (qf, .inl (cA 3, 60, .inl (fun i => bz (vf i))))] H := hP
    have hD : va_D A [(mo, .inr (3, [.int vc, .ref qp, .ref qh, .ref qk, .ref qb, .int (vt + 1), .ref qg, .ref qo, .ref qd, .ref qu, .ref qw, .ref qs, .ref qx, .ref qa, .ref qq, .ref qf])), (qp, .inl (cA 2, 120, .inl vp)), (qh, .inl (cA 3, 1600, .inl (fun i => bz (vh i)))), (qk, .inl (cA 3, 40, .inl (fun i => bz (vk i)))), (qb, .inl (cA 3, 40, .inl (fun i => bz (vb i)))), (qg, .inl (cA 3, 160, .inl (fun i => bz (vg i)))), (qo, .inl (cA 3, 4, .inl (fun i => bz (vo i)))), (qd, .inl (cA 2, 4, .inl vd)), (qu, .inl (cA 2, 4, .inl vu)), (qw, .inl (cA 2, 4, .inl vw)), (qs, .inl (cA 2, 4, .inl vs)), (qx, .inl (cA 2, 4, .inl vx)), (qa, .inl (cA 2, 4, .inl va)), (qq, .inl (cA 2, 60, .inl vq)), (qf, .inl (cA 3, 60, .inl (fun i => bz (vf i))))] := hD
    refine lv_aload_n hx hb d_m_target_20 rfl (lv_at hl 0 rfl) ?_
    refine ro_get (v := .int (vt + 1)) FX hK hP 0 5 rfl rfl rfl i_m (by decide) kf_m_61 d_m_target_21 ?_
    refine lv_iconst (v := 1) hx hb d_m_target_24 (by decide) ?_
    refine lv_isub hx hb d_m_target_25 ?_
    exact mu_iret FX hS (by rw [show (f_m_target vt) = ((vt + 1) - 1, vt + 1) from (by rw [f_m_target, if_neg c1])]; exact ⟨rfl, hP, hD⟩) d_m_target_26
  · have c1 := c1
    refine lv_iconst (v := (-1)) hx hb d_m_target_8 (by decide) ?_
    exact mu_iret FX hS (by rw [show (f_m_target vt) = ((-1), vt) from (by rw [f_m_target, if_pos c1])]; exact ⟨rfl, hP, hD⟩) d_m_target_9
theorem d_m_change_0 : decode b_m_change 0 = .ok (.aload_n 0, 1) := by decide +kernel
theorem d_m_change_1 : decode b_m_change 1 = .ok (.getfield 53, 3) := by decide +kernel
theorem d_m_change_4 : decode b_m_change 4 = .ok (.bipush 40, 2) := by decide +kernel
theorem d_m_change_6 : decode b_m_change 6 = .ok (.if_icmp .eq 42, 3) := by decide +kernel
theorem d_m_change_9 : decode b_m_change 9 = .ok (.iload_n 1, 1) := by decide +kernel
theorem d_m_change_10 : decode b_m_change 10 = .ok (.iconst (-1), 1) := by decide +kernel
theorem d_m_change_11 : decode b_m_change 11 = .ok (.if_icmp .eq 11, 3) := by decide +kernel
theorem d_m_change_14 : decode b_m_change 14 = .ok (.aload_n 0, 1) := by decide +kernel
theorem d_m_change_15 : decode b_m_change 15 = .ok (.iload_n 1, 1) := by decide +kernel
theorem d_m_change_16 : decode b_m_change 16 = .ok (.invokevirtual 68, 3) := by decide +kernel
theorem d_m_change_19 : decode b_m_change 19 = .ok (.ifCond .eq 29, 3) := by decide +kernel
theorem d_m_change_22 : decode b_m_change 22 = .ok (.iload_n 2, 1) := by decide +kernel
theorem d_m_change_23 : decode b_m_change 23 = .ok (.iconst (-1), 1) := by decide +kernel
theorem d_m_change_24 : decode b_m_change 24 = .ok (.if_icmp .eq 11, 3) := by decide +kernel
theorem d_m_change_27 : decode b_m_change 27 = .ok (.aload_n 0, 1) := by decide +kernel
theorem d_m_change_28 : decode b_m_change 28 = .ok (.iload_n 2, 1) := by decide +kernel
theorem d_m_change_29 : decode b_m_change 29 = .ok (.invokevirtual 68, 3) := by decide +kernel
theorem d_m_change_32 : decode b_m_change 32 = .ok (.ifCond .eq 16, 3) := by decide +kernel
theorem d_m_change_35 : decode b_m_change 35 = .ok (.iload_n 3, 1) := by decide +kernel
theorem d_m_change_36 : decode b_m_change 36 = .ok (.iconst (-1), 1) := by decide +kernel
theorem d_m_change_37 : decode b_m_change 37 = .ok (.if_icmp .eq 13, 3) := by decide +kernel
theorem d_m_change_40 : decode b_m_change 40 = .ok (.aload_n 0, 1) := by decide +kernel
theorem d_m_change_41 : decode b_m_change 41 = .ok (.iload_n 3, 1) := by decide +kernel
theorem d_m_change_42 : decode b_m_change 42 = .ok (.invokevirtual 68, 3) := by decide +kernel
theorem d_m_change_45 : decode b_m_change 45 = .ok (.ifCond .ne 5, 3) := by decide +kernel
theorem d_m_change_48 : decode b_m_change 48 = .ok (.iconst (-1), 1) := by decide +kernel
theorem d_m_change_49 : decode b_m_change 49 = .ok (.ireturn, 1) := by decide +kernel
theorem d_m_change_50 : decode b_m_change 50 = .ok (.aload_n 0, 1) := by decide +kernel
theorem d_m_change_51 : decode b_m_change 51 = .ok (.getfield 7, 3) := by decide +kernel
theorem d_m_change_54 : decode b_m_change 54 = .ok (.iconst 3, 1) := by decide +kernel
theorem d_m_change_55 : decode b_m_change 55 = .ok (.aload_n 0, 1) := by decide +kernel
theorem d_m_change_56 : decode b_m_change 56 = .ok (.getfield 53, 3) := by decide +kernel
theorem d_m_change_59 : decode b_m_change 59 = .ok (.imul, 1) := by decide +kernel
theorem d_m_change_60 : decode b_m_change 60 = .ok (.iload_n 1, 1) := by decide +kernel
theorem d_m_change_61 : decode b_m_change 61 = .ok (.iastore, 1) := by decide +kernel
theorem d_m_change_62 : decode b_m_change 62 = .ok (.aload_n 0, 1) := by decide +kernel
theorem d_m_change_63 : decode b_m_change 63 = .ok (.getfield 7, 3) := by decide +kernel
theorem d_m_change_66 : decode b_m_change 66 = .ok (.iconst 3, 1) := by decide +kernel
theorem d_m_change_67 : decode b_m_change 67 = .ok (.aload_n 0, 1) := by decide +kernel
theorem d_m_change_68 : decode b_m_change 68 = .ok (.getfield 53, 3) := by decide +kernel
theorem d_m_change_71 : decode b_m_change 71 = .ok (.imul, 1) := by decide +kernel
theorem d_m_change_72 : decode b_m_change 72 = .ok (.iconst 1, 1) := by decide +kernel
theorem d_m_change_73 : decode b_m_change 73 = .ok (.iadd, 1) := by decide +kernel
theorem d_m_change_74 : decode b_m_change 74 = .ok (.iload_n 2, 1) := by decide +kernel
theorem d_m_change_75 : decode b_m_change 75 = .ok (.iastore, 1) := by decide +kernel
theorem d_m_change_76 : decode b_m_change 76 = .ok (.aload_n 0, 1) := by decide +kernel
theorem d_m_change_77 : decode b_m_change 77 = .ok (.getfield 7, 3) := by decide +kernel
theorem d_m_change_80 : decode b_m_change 80 = .ok (.iconst 3, 1) := by decide +kernel
theorem d_m_change_81 : decode b_m_change 81 = .ok (.aload_n 0, 1) := by decide +kernel
theorem d_m_change_82 : decode b_m_change 82 = .ok (.getfield 53, 3) := by decide +kernel
theorem d_m_change_85 : decode b_m_change 85 = .ok (.imul, 1) := by decide +kernel
theorem d_m_change_86 : decode b_m_change 86 = .ok (.iconst 2, 1) := by decide +kernel
theorem d_m_change_87 : decode b_m_change 87 = .ok (.iadd, 1) := by decide +kernel
theorem d_m_change_88 : decode b_m_change 88 = .ok (.iload_n 3, 1) := by decide +kernel
theorem d_m_change_89 : decode b_m_change 89 = .ok (.iastore, 1) := by decide +kernel
theorem d_m_change_90 : decode b_m_change 90 = .ok (.iconst 0, 1) := by decide +kernel
theorem d_m_change_91 : decode b_m_change 91 = .ok (.istore 4, 2) := by decide +kernel
theorem d_m_change_93 : decode b_m_change 93 = .ok (.iload 4, 2) := by decide +kernel
theorem d_m_change_95 : decode b_m_change 95 = .ok (.bipush 40, 2) := by decide +kernel
theorem d_m_change_97 : decode b_m_change 97 = .ok (.if_icmp .ge 68, 3) := by decide +kernel
theorem d_m_change_100 : decode b_m_change 100 = .ok (.aload_n 0, 1) := by decide +kernel
theorem d_m_change_101 : decode b_m_change 101 = .ok (.getfield 13, 3) := by decide +kernel
theorem d_m_change_104 : decode b_m_change 104 = .ok (.bipush 40, 2) := by decide +kernel
theorem d_m_change_106 : decode b_m_change 106 = .ok (.aload_n 0, 1) := by decide +kernel
theorem d_m_change_107 : decode b_m_change 107 = .ok (.getfield 53, 3) := by decide +kernel
theorem d_m_change_110 : decode b_m_change 110 = .ok (.imul, 1) := by decide +kernel
theorem d_m_change_111 : decode b_m_change 111 = .ok (.iload 4, 2) := by decide +kernel
theorem d_m_change_113 : decode b_m_change 113 = .ok (.iadd, 1) := by decide +kernel
theorem d_m_change_114 : decode b_m_change 114 = .ok (.iload 4, 2) := by decide +kernel
theorem d_m_change_116 : decode b_m_change 116 = .ok (.aload_n 0, 1) := by decide +kernel
theorem d_m_change_117 : decode b_m_change 117 = .ok (.getfield 53, 3) := by decide +kernel
theorem d_m_change_120 : decode b_m_change 120 = .ok (.if_icmp .eq 33, 3) := by decide +kernel
theorem d_m_change_123 : decode b_m_change 123 = .ok (.aload_n 0, 1) := by decide +kernel
theorem d_m_change_124 : decode b_m_change 124 = .ok (.iload_n 1, 1) := by decide +kernel
theorem d_m_change_125 : decode b_m_change 125 = .ok (.iload 4, 2) := by decide +kernel
theorem d_m_change_127 : decode b_m_change 127 = .ok (.invokevirtual 71, 3) := by decide +kernel
theorem d_m_change_130 : decode b_m_change 130 = .ok (.ifCond .ne 23, 3) := by decide +kernel
theorem d_m_change_133 : decode b_m_change 133 = .ok (.aload_n 0, 1) := by decide +kernel
theorem d_m_change_134 : decode b_m_change 134 = .ok (.iload_n 2, 1) := by decide +kernel
theorem d_m_change_135 : decode b_m_change 135 = .ok (.iload 4, 2) := by decide +kernel
theorem d_m_change_137 : decode b_m_change 137 = .ok (.invokevirtual 71, 3) := by decide +kernel
theorem d_m_change_140 : decode b_m_change 140 = .ok (.ifCond .ne 13, 3) := by decide +kernel
theorem d_m_change_143 : decode b_m_change 143 = .ok (.aload_n 0, 1) := by decide +kernel
theorem d_m_change_144 : decode b_m_change 144 = .ok (.iload_n 3, 1) := by decide +kernel
theorem d_m_change_145 : decode b_m_change 145 = .ok (.iload 4, 2) := by decide +kernel
theorem d_m_change_147 : decode b_m_change 147 = .ok (.invokevirtual 71, 3) := by decide +kernel
theorem d_m_change_150 : decode b_m_change 150 = .ok (.ifCond .eq 7, 3) := by decide +kernel
theorem d_m_change_153 : decode b_m_change 153 = .ok (.iconst 1, 1) := by decide +kernel
theorem d_m_change_154 : decode b_m_change 154 = .ok (.goto 4, 3) := by decide +kernel
theorem d_m_change_157 : decode b_m_change 157 = .ok (.iconst 0, 1) := by decide +kernel
theorem d_m_change_158 : decode b_m_change 158 = .ok (.bastore, 1) := by decide +kernel
theorem d_m_change_159 : decode b_m_change 159 = .ok (.iinc 4 1, 3) := by decide +kernel
theorem d_m_change_162 : decode b_m_change 162 = .ok (.goto (-69), 3) := by decide +kernel
theorem d_m_change_165 : decode b_m_change 165 = .ok (.aload_n 0, 1) := by decide +kernel
theorem d_m_change_166 : decode b_m_change 166 = .ok (.dup, 1) := by decide +kernel
theorem d_m_change_167 : decode b_m_change 167 = .ok (.getfield 53, 3) := by decide +kernel
theorem d_m_change_170 : decode b_m_change 170 = .ok (.iconst 1, 1) := by decide +kernel
theorem d_m_change_171 : decode b_m_change 171 = .ok (.iadd, 1) := by decide +kernel
theorem d_m_change_172 : decode b_m_change 172 = .ok (.putfield 53, 3) := by decide +kernel
theorem d_m_change_175 : decode b_m_change 175 = .ok (.aload_n 0, 1) := by decide +kernel
theorem d_m_change_176 : decode b_m_change 176 = .ok (.getfield 53, 3) := by decide +kernel
theorem d_m_change_179 : decode b_m_change 179 = .ok (.iconst 1, 1) := by decide +kernel
theorem d_m_change_180 : decode b_m_change 180 = .ok (.isub, 1) := by decide +kernel
theorem d_m_change_181 : decode b_m_change 181 = .ok (.ireturn, 1) := by decide +kernel
def L_m_change_93 (vc : Int32) (vp : Nat → Int32) (vh : Nat → Bool) (za : Int32) (zb : Int32) (zc : Int32) : Nat → Int32 → (Nat → Bool) → Int32 × (Nat → Int32) × (Nat → Bool) × Int32
  | 0, _, vq1 => (0, vp, vq1, 0)
  | n + 1, xi, vq1 => if 40 ≤ xi then
    (((vc + 1) - 1, upd (upd (upd vp (3 * vc).toNatClampNeg za) ((3 * vc) + 1).toNatClampNeg zb) ((3 * vc) + 2).toNatClampNeg zc, vq1, vc + 1))
  else
    (if xi = vc then
      (L_m_change_93 vc vp vh za zb zc n (xi + 1) (va_up vq1 ((40 * vc) + xi).toNatClampNeg true))
    else
      (if (f_m_comes vq1 za xi) = true then
        (L_m_change_93 vc vp vh za zb zc n (xi + 1) (va_up vq1 ((40 * vc) + xi).toNatClampNeg true))
      else
        (if (f_m_comes vq1 zb xi) = true then
          (L_m_change_93 vc vp vh za zb zc n (xi + 1) (va_up vq1 ((40 * vc) + xi).toNatClampNeg true))
        else
          (if (f_m_comes vq1 zc xi) = true then
            (L_m_change_93 vc vp vh za zb zc n (xi + 1) (va_up vq1 ((40 * vc) + xi).toNatClampNeg true))
          else
            (L_m_change_93 vc vp vh za zb zc n (xi + 1) (va_up vq1 ((40 * vc) + xi).toNatClampNeg false))))))
theorem L_m_change_93_s (vc : Int32) (vp : Nat → Int32) (vh : Nat → Bool) (za : Int32) (zb : Int32) (zc : Int32) (n : Nat) (xi : Int32) (vq1 : Nat → Bool) : L_m_change_93 vc vp vh za zb zc (n + 1) xi vq1 = if 40 ≤ xi then
    (((vc + 1) - 1, upd (upd (upd vp (3 * vc).toNatClampNeg za) ((3 * vc) + 1).toNatClampNeg zb) ((3 * vc) + 2).toNatClampNeg zc, vq1, vc + 1))
  else
    (if xi = vc then
      (L_m_change_93 vc vp vh za zb zc n (xi + 1) (va_up vq1 ((40 * vc) + xi).toNatClampNeg true))
    else
      (if (f_m_comes vq1 za xi) = true then
        (L_m_change_93 vc vp vh za zb zc n (xi + 1) (va_up vq1 ((40 * vc) + xi).toNatClampNeg true))
      else
        (if (f_m_comes vq1 zb xi) = true then
          (L_m_change_93 vc vp vh za zb zc n (xi + 1) (va_up vq1 ((40 * vc) + xi).toNatClampNeg true))
        else
          (if (f_m_comes vq1 zc xi) = true then
            (L_m_change_93 vc vp vh za zb zc n (xi + 1) (va_up vq1 ((40 * vc) + xi).toNatClampNeg true))
          else
            (L_m_change_93 vc vp vh za zb zc n (xi + 1) (va_up vq1 ((40 * vc) + xi).toNatClampNeg false)))))) := rfl
def J_m_change_50 (vc : Int32) (vp : Nat → Int32) (vh : Nat → Bool) (za : Int32) (zb : Int32) (zc : Int32) : Int32 × (Nat → Int32) × (Nat → Bool) × Int32 := L_m_change_93 vc vp vh za zb zc 41 0 vh
def f_m_change (vc : Int32) (vp : Nat → Int32) (vh : Nat → Bool) (za : Int32) (zb : Int32) (zc : Int32) : Int32 × (Nat → Int32) × (Nat → Bool) × Int32 := if vc = 40 then
    (((-1), vp, vh, vc))
  else
    (if za = (-1) then
      (if zb = (-1) then
        (if zc = (-1) then
          ((J_m_change_50 vc vp vh za zb zc))
        else
          (if (f_m_isChange vc zc) = true then
            ((J_m_change_50 vc vp vh za zb zc))
          else
            (((-1), vp, vh, vc))))
      else
        (if (f_m_isChange vc zb) = true then
          (if zc = (-1) then
            ((J_m_change_50 vc vp vh za zb zc))
          else
            (if (f_m_isChange vc zc) = true then
              ((J_m_change_50 vc vp vh za zb zc))
            else
              (((-1), vp, vh, vc))))
        else
          (((-1), vp, vh, vc))))
    else
      (if (f_m_isChange vc za) = true then
        (if zb = (-1) then
          (if zc = (-1) then
            ((J_m_change_50 vc vp vh za zb zc))
          else
            (if (f_m_isChange vc zc) = true then
              ((J_m_change_50 vc vp vh za zb zc))
            else
              (((-1), vp, vh, vc))))
        else
          (if (f_m_isChange vc zb) = true then
            (if zc = (-1) then
              ((J_m_change_50 vc vp vh za zb zc))
            else
              (if (f_m_isChange vc zc) = true then
                ((J_m_change_50 vc vp vh za zb zc))
              else
                (((-1), vp, vh, vc))))
          else
            (((-1), vp, vh, vc))))
      else
        (((-1), vp, vh, vc))))
set_option maxHeartbeats 4000000 in
set_option maxRecDepth 100000 in
theorem c_m_change (l : Launch) (D : va_G) (cA : Nat → ClassId) (mo qp qh qk qb qg qo qd qu qw qs qx qa qq qf : Nat) (vc : Int32) (vp : Nat → Int32) (vh : Nat → Bool) (vk : Nat → Bool) (vb : Nat → Bool) (vt : Int32) (vg : Nat → Bool) (vo : Nat → Bool) (vd : Nat → Int32) (vu : Nat → Int32) (vw : Nat → Int32) (vs : Nat → Int32) (vx : Nat → Int32) (va : Nat → Int32) (vq : Nat → Int32) (vf : Nat → Bool) (za : Int32) (zb : Int32) (zc : Int32) (cn : Nat) (hcn : cn ≤ 40) (hvc : vc = nI cn) : Met l y_m_change (.code y_m_change b_m_change 5 (some .int) :: tb) (rmd 2) (Pro D cA [.ref mo, .int za, .int zb, .int zc] (fun H0 => va_P D classes [(mo, .inr (3, [.int vc, .ref qp, .ref qh, .ref qk, .ref qb, .int vt, .ref qg, .ref qo, .ref qd, .ref qu, .ref qw, .ref qs, .ref qx, .ref qa, .ref qq, .ref qf])), (qp, .inl (cA 2, 120, .inl vp)), (qh, .inl (cA 3, 1600, .inl (fun i => bz (vh i)))), (qk, .inl (cA 3, 40, .inl (fun i => bz (vk i)))), (qb, .inl (cA 3, 40, .inl (fun i => bz (vb i)))), (qg, .inl (cA 3, 160, .inl (fun i => bz (vg i)))), (qo, .inl (cA 3, 4, .inl (fun i => bz (vo i)))), (qd, .inl (cA 2, 4, .inl vd)), (qu, .inl (cA 2, 4, .inl vu)), (qw, .inl (cA 2, 4, .inl vw)), (qs, .inl (cA 2, 4, .inl vs)), (qx, .inl (cA 2, 4, .inl vx)), (qa, .inl (cA 2, 4, .inl va)), (qq, .inl (cA 2, 60, .inl vq)), (qf, .inl (cA 3, 60, .inl (fun i => bz (vf i))))] H0 ∧ va_D (fun _ => True) [(mo, .inr (3, [.int vc, .ref qp, .ref qh, .ref qk, .ref qb, .int vt, .ref qg, .ref qo, .ref qd, .ref qu, .ref qw, .ref qs, .ref qx, .ref qa, .ref qq, .ref qf])), (qp, .inl (cA 2, 120, .inl vp)), (qh, .inl (cA 3, 1600, .inl (fun i => bz (vh i)))), (qk, .inl (cA 3, 40, .inl (fun i => bz (vk i)))), (qb, .inl (cA 3, 40, .inl (fun i => bz (vb i)))), (qg, .inl (cA 3, 160, .inl (fun i => bz (vg i)))), (qo, .inl (cA 3, 4, .inl (fun i => bz (vo i)))), (qd, .inl (cA 2, 4, .inl vd)), (qu, .inl (cA 2, 4, .inl vu)), (qw, .inl (cA 2, 4, .inl vw)), (qs, .inl (cA 2, 4, .inl vs)), (qx, .inl (cA 2, 4, .inl vx)), (qa, .inl (cA 2, 4, .inl va)), (qq, .inl (cA 2, 60, .inl vq)), (qf, .inl (cA 3, 60, .inl (fun i => bz (vf i))))])) (Qmu (aw [(mo, .inr (3, [.int vc, .ref qp, .ref qh, .ref qk, .ref qb, .int vt, .ref qg, .ref qo, .ref qd, .ref qu, .ref qw, .ref qs, .ref qx, .ref qa, .ref qq, .ref qf])), (qp, .inl (cA 2, 120, .inl vp)), (qh, .inl (cA 3, 1600, .inl (fun i => bz (vh i)))), (qk, .inl (cA 3, 40, .inl (fun i => bz (vk i)))), (qb, .inl (cA 3, 40, .inl (fun i => bz (vb i)))), (qg, .inl (cA 3, 160, .inl (fun i => bz (vg i)))), (qo, .inl (cA 3, 4, .inl (fun i => bz (vo i)))), (qd, .inl (cA 2, 4, .inl vd)), (qu, .inl (cA 2, 4, .inl vu)), (qw, .inl (cA 2, 4, .inl vw)), (qs, .inl (cA 2, 4, .inl vs)), (qx, .inl (cA 2, 4, .inl vx)), (qa, .inl (cA 2, 4, .inl va)), (qq, .inl (cA 2, 60, .inl vq)), (qf, .inl (cA 3, 60, .inl (fun i => bz (vf i))))]) (fun v0 H0 => v0 = some (.int ((f_m_change vc vp vh za zb zc).1)) ∧ va_P D classes [(mo, .inr (3, [.int ((f_m_change vc vp vh za zb zc).2.2.2), .ref qp, .ref qh, .ref qk, .ref qb, .int vt, .ref qg, .ref qo, .ref qd, .ref qu, .ref qw, .ref qs, .ref qx, .ref qa, .ref qq, .ref qf])), (qp, .inl (cA 2, 120, .inl ((f_m_change vc vp vh za zb zc).2.1))), (qh, .inl (cA 3, 1600, .inl (fun i => bz (((f_m_change vc vp vh za zb zc).2.2.1) i)))), (qk, .inl (cA 3, 40, .inl (fun i => bz (vk i)))), (qb, .inl (cA 3, 40, .inl (fun i => bz (vb i)))), (qg, .inl (cA 3, 160, .inl (fun i => bz (vg i)))), (qo, .inl (cA 3, 4, .inl (fun i => bz (vo i)))), (qd, .inl (cA 2, 4, .inl vd)), (qu, .inl (cA 2, 4, .inl vu)), (qw, .inl (cA 2, 4, .inl vw)), (qs, .inl (cA 2, 4, .inl vs)), (qx, .inl (cA 2, 4, .inl vx)), (qa, .inl (cA 2, 4, .inl va)), (qq, .inl (cA 2, 60, .inl vq)), (qf, .inl (cA 3, 60, .inl (fun i => bz (vf i))))] H0 ∧ va_D (aw [(mo, .inr (3, [.int vc, .ref qp, .ref qh, .ref qk, .ref qb, .int vt, .ref qg, .ref qo, .ref qd, .ref qu, .ref qw, .ref qs, .ref qx, .ref qa, .ref qq, .ref qf])), (qp, .inl (cA 2, 120, .inl vp)), (qh, .inl (cA 3, 1600, .inl (fun i => bz (vh i)))), (qk, .inl (cA 3, 40, .inl (fun i => bz (vk i)))), (qb, .inl (cA 3, 40, .inl (fun i => bz (vb i)))), (qg, .inl (cA 3, 160, .inl (fun i => bz (vg i)))), (qo, .inl (cA 3, 4, .inl (fun i => bz (vo i)))), (qd, .inl (cA 2, 4, .inl vd)), (qu, .inl (cA 2, 4, .inl vu)), (qw, .inl (cA 2, 4, .inl vw)), (qs, .inl (cA 2, 4, .inl vs)), (qx, .inl (cA 2, 4, .inl vx)), (qa, .inl (cA 2, 4, .inl va)), (qq, .inl (cA 2, 60, .inl vq)), (qf, .inl (cA 3, 60, .inl (fun i => bz (vf i))))]) [(mo, .inr (3, [.int ((f_m_change vc vp vh za zb zc).2.2.2), .ref qp, .ref qh, .ref qk, .ref qb, .int vt, .ref qg, .ref qo, .ref qd, .ref qu, .ref qw, .ref qs, .ref qx, .ref qa, .ref qq, .ref qf])), (qp, .inl (cA 2, 120, .inl ((f_m_change vc vp vh za zb zc).2.1))), (qh, .inl (cA 3, 1600, .inl (fun i => bz (((f_m_change vc vp vh za zb zc).2.2.1) i)))), (qk, .inl (cA 3, 40, .inl (fun i => bz (vk i)))), (qb, .inl (cA 3, 40, .inl (fun i => bz (vb i)))), (qg, .inl (cA 3, 160, .inl (fun i => bz (vg i)))), (qo, .inl (cA 3, 4, .inl (fun i => bz (vo i)))), (qd, .inl (cA 2, 4, .inl vd)), (qu, .inl (cA 2, 4, .inl vu)), (qw, .inl (cA 2, 4, .inl vw)), (qs, .inl (cA 2, 4, .inl vs)), (qx, .inl (cA 2, 4, .inl vx)), (qa, .inl (cA 2, 4, .inl va)), (qq, .inl (cA 2, 60, .inl vq)), (qf, .inl (cA 3, 60, .inl (fun i => bz (vf i))))])) 0 0 (aw [(mo, .inr (3, [.int vc, .ref qp, .ref qh, .ref qk, .ref qb, .int vt, .ref qg, .ref qo, .ref qd, .ref qu, .ref qw, .ref qs, .ref qx, .ref qa, .ref qq, .ref qf])), (qp, .inl (cA 2, 120, .inl vp)), (qh, .inl (cA 3, 1600, .inl (fun i => bz (vh i)))), (qk, .inl (cA 3, 40, .inl (fun i => bz (vk i)))), (qb, .inl (cA 3, 40, .inl (fun i => bz (vb i)))), (qg, .inl (cA 3, 160, .inl (fun i => bz (vg i)))), (qo, .inl (cA 3, 4, .inl (fun i => bz (vo i)))), (qd, .inl (cA 2, 4, .inl vd)), (qu, .inl (cA 2, 4, .inl vu)), (qw, .inl (cA 2, 4, .inl vw)), (qs, .inl (cA 2, 4, .inl vs)), (qx, .inl (cA 2, 4, .inl vx)), (qa, .inl (cA 2, 4, .inl va)), (qq, .inl (cA 2, 60, .inl vq)), (qf, .inl (cA 3, 60, .inl (fun i => bz (vf i))))]) := by
  refine ro_in (by decide) (Nat.le_of_ble_eq_true rfl) (fun p e s m below meth c ls FX hnm hK hP hl => ?_)
  have hl : lv_has ls 5 [(0, .ref mo), (1, .int za), (2, .int zb), (3, .int zc)] := hl
  obtain ⟨hP, hD0⟩ := hP
  have hP : va_P D classes [(mo, .inr (3, [.int vc, .ref qp, .ref qh, .ref qk, .ref qb, .int vt, .ref qg, .ref qo, .ref qd, .ref qu, .ref qw, .ref qs, .ref qx, .ref qa, .ref qq, .ref qf])), (qp, .inl (cA 2, 120, .inl vp)), (qh, .inl (cA 3, 1600, .inl (fun i => bz (vh i)))), (qk, .inl (cA 3, 40, .inl (fun i => bz (vk i)))), (qb, .inl (cA 3, 40, .inl (fun i => bz (vb i)))), (qg, .inl (cA 3, 160, .inl (fun i => bz (vg i)))), (qo, .inl (cA 3, 4, .inl (fun i => bz (vo i)))), (qd, .inl (cA 2, 4, .inl vd)), (qu, .inl (cA 2, 4, .inl vu)), (qw, .inl (cA 2, 4, .inl vw)), (qs, .inl (cA 2, 4, .inl vs)), (qx, .inl (cA 2, 4, .inl vx)), (qa, .inl (cA 2, 4, .inl va)), (qq, .inl (cA 2, 60, .inl vq)), (qf, .inl (cA 3, 60, .inl (fun i => bz (vf i))))] s.heap := hP
  have hD : va_D (aw [(mo, .inr (3, [.int vc, .ref qp, .ref qh, .ref qk, .ref qb, .int vt, .ref qg, .ref qo, .ref qd, .ref qu, .ref qw, .ref qs, .ref qx, .ref qa, .ref qq, .ref qf])), (qp, .inl (cA 2, 120, .inl vp)), (qh, .inl (cA 3, 1600, .inl (fun i => bz (vh i)))), (qk, .inl (cA 3, 40, .inl (fun i => bz (vk i)))), (qb, .inl (cA 3, 40, .inl (fun i => bz (vb i)))), (qg, .inl (cA 3, 160, .inl (fun i => bz (vg i)))), (qo, .inl (cA 3, 4, .inl (fun i => bz (vo i)))), (qd, .inl (cA 2, 4, .inl vd)), (qu, .inl (cA 2, 4, .inl vu)), (qw, .inl (cA 2, 4, .inl vw)), (qs, .inl (cA 2, 4, .inl vs)), (qx, .inl (cA 2, 4, .inl vx)), (qa, .inl (cA 2, 4, .inl va)), (qq, .inl (cA 2, 60, .inl vq)), (qf, .inl (cA 3, 60, .inl (fun i => bz (vf i))))]) [(mo, .inr (3, [.int vc, .ref qp, .ref qh, .ref qk, .ref qb, .int vt, .ref qg, .ref qo, .ref qd, .ref qu, .ref qw, .ref qs, .ref qx, .ref qa, .ref qq, .ref qf])), (qp, .inl (cA 2, 120, .inl vp)), (qh, .inl (cA 3, 1600, .inl (fun i => bz (vh i)))), (qk, .inl (cA 3, 40, .inl (fun i => bz (vk i)))), (qb, .inl (cA 3, 40, .inl (fun i => bz (vb i)))), (qg, .inl (cA 3, 160, .inl (fun i => bz (vg i)))), (qo, .inl (cA 3, 4, .inl (fun i => bz (vo i)))), (qd, .inl (cA 2, 4, .inl vd)), (qu, .inl (cA 2, 4, .inl vu)), (qw, .inl (cA 2, 4, .inl vw)), (qs, .inl (cA 2, 4, .inl vs)), (qx, .inl (cA 2, 4, .inl vx)), (qa, .inl (cA 2, 4, .inl va)), (qq, .inl (cA 2, 60, .inl vq)), (qf, .inl (cA 3, 60, .inl (fun i => bz (vf i))))] := aw_self hD0
  generalize (aw [(mo, .inr (3, [.int vc, .ref qp, .ref qh, .ref qk, .ref qb, .int vt, .ref qg, .ref qo, .ref qd, .ref qu, .ref qw, .ref qs, .ref qx, .ref qa, .ref qq, .ref qf])), (qp, .inl (cA 2, 120, .inl vp)), (qh, .inl (cA 3, 1600, .inl (fun i => bz (vh i)))), (qk, .inl (cA 3, 40, .inl (fun i => bz (vk i)))), (qb, .inl (cA 3, 40, .inl (fun i => bz (vb i)))), (qg, .inl (cA 3, 160, .inl (fun i => bz (vg i)))), (qo, .inl (cA 3, 4, .inl (fun i => bz (vo i)))), (qd, .inl (cA 2, 4, .inl vd)), (qu, .inl (cA 2, 4, .inl vu)), (qw, .inl (cA 2, 4, .inl vw)), (qs, .inl (cA 2, 4, .inl vs)), (qx, .inl (cA 2, 4, .inl vx)), (qa, .inl (cA 2, 4, .inl va)), (qq, .inl (cA 2, 60, .inl vq)), (qf, .inl (cA 3, 60, .inl (fun i => bz (vf i))))]) = A at hD ⊢
  have hS : va_S A s.heap s.heap [] := va_S.rf
  generalize ([.ref mo, .int za, .int zb, .int zc] : List Value).toArray = args at FX ⊢
  obtain ⟨hx, hb, hml, hown, hts, hr, hlk⟩ := id FX
  have J50 : cn < 40 → (za = (-1) ∨ ∃ a, a < 40 ∧ za = nI a) → (zb = (-1) ∨ ∃ a, a < 40 ∧ zb = nI a) → (zc = (-1) ∨ ∃ a, a < 40 ∧ zc = nI a) → ∀ (ls : Array Slot), lv_has ls 5 [(0, .ref mo), (1, .int za), (2, .int zb), (3, .int zc)] → W p l e (rmd 2) s m args below meth c s.heap [] 0 0 (MQ below (Qmu A (fun v0 H0 => v0 = some (.int ((J_m_change_50 vc vp vh za zb zc).1)) ∧ va_P D classes [(mo, .inr (3, [.int ((J_m_change_50 vc vp vh za zb zc).2.2.2), .ref qp, .ref qh, .ref qk, .ref qb, .int vt, .ref qg, .ref qo, .ref qd, .ref qu, .ref qw, .ref qs, .ref qx, .ref qa, .ref qq, .ref qf])), (qp, .inl (cA 2, 120, .inl ((J_m_change_50 vc vp vh za zb zc).2.1))), (qh, .inl (cA 3, 1600, .inl (fun i => bz (((J_m_change_50 vc vp vh za zb zc).2.2.1) i)))), (qk, .inl (cA 3, 40, .inl (fun i => bz (vk i)))), (qb, .inl (cA 3, 40, .inl (fun i => bz (vb i)))), (qg, .inl (cA 3, 160, .inl (fun i => bz (vg i)))), (qo, .inl (cA 3, 4, .inl (fun i => bz (vo i)))), (qd, .inl (cA 2, 4, .inl vd)), (qu, .inl (cA 2, 4, .inl vu)), (qw, .inl (cA 2, 4, .inl vw)), (qs, .inl (cA 2, 4, .inl vs)), (qx, .inl (cA 2, 4, .inl vx)), (qa, .inl (cA 2, 4, .inl va)), (qq, .inl (cA 2, 60, .inl vq)), (qf, .inl (cA 3, 60, .inl (fun i => bz (vf i))))] H0 ∧ va_D A [(mo, .inr (3, [.int ((J_m_change_50 vc vp vh za zb zc).2.2.2), .ref qp, .ref qh, .ref qk, .ref qb, .int vt, .ref qg, .ref qo, .ref qd, .ref qu, .ref qw, .ref qs, .ref qx, .ref qa, .ref qq, .ref qf])), (qp, .inl (cA 2, 120, .inl ((J_m_change_50 vc vp vh za zb zc).2.1))), (qh, .inl (cA 3, 1600, .inl (fun i => bz (((J_m_change_50 vc vp vh za zb zc).2.2.1) i)))), (qk, .inl (cA 3, 40, .inl (fun i => bz (vk i)))), (qb, .inl (cA 3, 40, .inl (fun i => bz (vb i)))), (qg, .inl (cA 3, 160, .inl (fun i => bz (vg i)))), (qo, .inl (cA 3, 4, .inl (fun i => bz (vo i)))), (qd, .inl (cA 2, 4, .inl vd)), (qu, .inl (cA 2, 4, .inl vu)), (qw, .inl (cA 2, 4, .inl vw)), (qs, .inl (cA 2, 4, .inl vs)), (qx, .inl (cA 2, 4, .inl vx)), (qa, .inl (cA 2, 4, .inl va)), (qq, .inl (cA 2, 60, .inl vq)), (qf, .inl (cA 3, 60, .inl (fun i => bz (vf i))))])) args s 0 0 A) (F0 m 50 ls []) := by
    intro hlt hpa hpb hpc ls hl
    refine lv_aload_n hx hb d_m_change_50 rfl (lv_at hl 0 rfl) ?_
    refine ro_get (v := .ref qp) FX hK hP 0 1 rfl rfl rfl i_m (by decide) kf_m_7 d_m_change_51 ?_
    refine lv_iconst (v := 3) hx hb d_m_change_54 (by decide) ?_
    refine lv_aload_n hx hb d_m_change_55 rfl (lv_at hl 0 rfl) ?_
    refine ro_get (v := .int vc) FX hK hP 0 0 rfl rfl rfl i_m (by decide) kf_m_53 d_m_change_56 ?_
    refine lv_imul hx hb d_m_change_59 ?_
    refine lv_iload_n hx hb d_m_change_60 rfl (lv_at hl 1 rfl) ?_
    refine va_iast (x := za) hx hb hK.1 hP hD hS 1 2 rfl rfl (vlin0 3 120 hvc (by omega) (by decide)) d_m_change_61 (fun H locs hP hD hS => ?_)
    have hP : va_P D classes [(mo, .inr (3, [.int vc, .ref qp, .ref qh, .ref qk, .ref qb, .int vt, .ref qg, .ref qo, .ref qd, .ref qu, .ref qw, .ref qs, .ref qx, .ref qa, .ref qq, .ref qf])), (qp, .inl (cA 2, 120, .inl (upd vp (3 * vc).toNatClampNeg za))), (qh, .inl (cA 3, 1600, .inl (fun i => bz (vh i)))), (qk, .inl (cA 3, 40, .inl (fun i => bz (vk i)))), (qb, .inl (cA 3, 40, .inl (fun i => bz (vb i)))), (qg, .inl (cA 3, 160, .inl (fun i => bz (vg i)))), (qo, .inl (cA 3, 4, .inl (fun i => bz (vo i)))), (qd, .inl (cA 2, 4, .inl vd)), (qu, .inl (cA 2, 4, .inl vu)), (qw, .inl (cA 2, 4, .inl vw)), (qs, .inl (cA 2, 4, .inl vs)), (qx, .inl (cA 2, 4, .inl vx)), (qa, .inl (cA 2, 4, .inl va)), (qq, .inl (cA 2, 60, .inl vq)), (qf, .inl (cA 3, 60, .inl (fun i => bz (vf i))))] H := hP
    have hD : va_D A [(mo, .inr (3, [.int vc, .ref qp, .ref qh, .ref qk, .ref qb, .int vt, .ref qg, .ref qo, .ref qd, .ref qu, .ref qw, .ref qs, .ref qx, .ref qa, .ref qq, .ref qf])), (qp, .inl (cA 2, 120, .inl (upd vp (3 * vc).toNatClampNeg za))), (qh, .inl (cA 3, 1600, .inl (fun i => bz (vh i)))), (qk, .inl (cA 3, 40, .inl (fun i => bz (vk i)))), (qb, .inl (cA 3, 40, .inl (fun i => bz (vb i)))), (qg, .inl (cA 3, 160, .inl (fun i => bz (vg i)))), (qo, .inl (cA 3, 4, .inl (fun i => bz (vo i)))), (qd, .inl (cA 2, 4, .inl vd)), (qu, .inl (cA 2, 4, .inl vu)), (qw, .inl (cA 2, 4, .inl vw)), (qs, .inl (cA 2, 4, .inl vs)), (qx, .inl (cA 2, 4, .inl vx)), (qa, .inl (cA 2, 4, .inl va)), (qq, .inl (cA 2, 60, .inl vq)), (qf, .inl (cA 3, 60, .inl (fun i => bz (vf i))))] := hD
    refine lv_aload_n hx hb d_m_change_62 rfl (lv_at hl 0 rfl) ?_
    refine ro_get (v := .ref qp) FX hK hP 0 1 rfl rfl rfl i_m (by decide) kf_m_7 d_m_change_63 ?_
    refine lv_iconst (v := 3) hx hb d_m_change_66 (by decide) ?_
    refine lv_aload_n hx hb d_m_change_67 rfl (lv_at hl 0 rfl) ?_
    refine ro_get (v := .int vc) FX hK hP 0 0 rfl rfl rfl i_m (by decide) kf_m_53 d_m_change_68 ?_
    refine lv_imul hx hb d_m_change_71 ?_
    refine lv_iconst (v := 1) hx hb d_m_change_72 (by decide) ?_
    refine lv_iadd hx hb d_m_change_73 ?_
    refine lv_iload_n hx hb d_m_change_74 rfl (lv_at hl 2 rfl) ?_
    refine va_iast (x := zb) hx hb hK.1 hP hD hS 1 2 rfl rfl (vlin (b := 1) 3 120 hvc rfl (by omega) (by decide)) d_m_change_75 (fun H locs hP hD hS => ?_)
    have hP : va_P D classes [(mo, .inr (3, [.int vc, .ref qp, .ref qh, .ref qk, .ref qb, .int vt, .ref qg, .ref qo, .ref qd, .ref qu, .ref qw, .ref qs, .ref qx, .ref qa, .ref qq, .ref qf])), (qp, .inl (cA 2, 120, .inl (upd (upd vp (3 * vc).toNatClampNeg za) ((3 * vc) + 1).toNatClampNeg zb))), (qh, .inl (cA 3, 1600, .inl (fun i => bz (vh i)))), (qk, .inl (cA 3, 40, .inl (fun i => bz (vk i)))), (qb, .inl (cA 3, 40, .inl (fun i => bz (vb i)))), (qg, .inl (cA 3, 160, .inl (fun i => bz (vg i)))), (qo, .inl (cA 3, 4, .inl (fun i => bz (vo i)))), (qd, .inl (cA 2, 4, .inl vd)), (qu, .inl (cA 2, 4, .inl vu)), (qw, .inl (cA 2, 4, .inl vw)), (qs, .inl (cA 2, 4, .inl vs)), (qx, .inl (cA 2, 4, .inl vx)), (qa, .inl (cA 2, 4, .inl va)), (qq, .inl (cA 2, 60, .inl vq)), (qf, .inl (cA 3, 60, .inl (fun i => bz (vf i))))] H := hP
    have hD : va_D A [(mo, .inr (3, [.int vc, .ref qp, .ref qh, .ref qk, .ref qb, .int vt, .ref qg, .ref qo, .ref qd, .ref qu, .ref qw, .ref qs, .ref qx, .ref qa, .ref qq, .ref qf])), (qp, .inl (cA 2, 120, .inl (upd (upd vp (3 * vc).toNatClampNeg za) ((3 * vc) + 1).toNatClampNeg zb))), (qh, .inl (cA 3, 1600, .inl (fun i => bz (vh i)))), (qk, .inl (cA 3, 40, .inl (fun i => bz (vk i)))), (qb, .inl (cA 3, 40, .inl (fun i => bz (vb i)))), (qg, .inl (cA 3, 160, .inl (fun i => bz (vg i)))), (qo, .inl (cA 3, 4, .inl (fun i => bz (vo i)))), (qd, .inl (cA 2, 4, .inl vd)), (qu, .inl (cA 2, 4, .inl vu)), (qw, .inl (cA 2, 4, .inl vw)), (qs, .inl (cA 2, 4, .inl vs)), (qx, .inl (cA 2, 4, .inl vx)), (qa, .inl (cA 2, 4, .inl va)), (qq, .inl (cA 2, 60, .inl vq)), (qf, .inl (cA 3, 60, .inl (fun i => bz (vf i))))] := hD
    refine lv_aload_n hx hb d_m_change_76 rfl (lv_at hl 0 rfl) ?_
    refine ro_get (v := .ref qp) FX hK hP 0 1 rfl rfl rfl i_m (by decide) kf_m_7 d_m_change_77 ?_
    refine lv_iconst (v := 3) hx hb d_m_change_80 (by decide) ?_
    refine lv_aload_n hx hb d_m_change_81 rfl (lv_at hl 0 rfl) ?_
    refine ro_get (v := .int vc) FX hK hP 0 0 rfl rfl rfl i_m (by decide) kf_m_53 d_m_change_82 ?_
    refine lv_imul hx hb d_m_change_85 ?_
    refine lv_iconst (v := 2) hx hb d_m_change_86 (by decide) ?_
    refine lv_iadd hx hb d_m_change_87 ?_
    refine lv_iload_n hx hb d_m_change_88 rfl (lv_at hl 3 rfl) ?_
    refine va_iast (x := zc) hx hb hK.1 hP hD hS 1 2 rfl rfl (vlin (b := 2) 3 120 hvc rfl (by omega) (by decide)) d_m_change_89 (fun H locs hP hD hS => ?_)
    have hP : va_P D classes [(mo, .inr (3, [.int vc, .ref qp, .ref qh, .ref qk, .ref qb, .int vt, .ref qg, .ref qo, .ref qd, .ref qu, .ref qw, .ref qs, .ref qx, .ref qa, .ref qq, .ref qf])), (qp, .inl (cA 2, 120, .inl (upd (upd (upd vp (3 * vc).toNatClampNeg za) ((3 * vc) + 1).toNatClampNeg zb) ((3 * vc) + 2).toNatClampNeg zc))), (qh, .inl (cA 3, 1600, .inl (fun i => bz (vh i)))), (qk, .inl (cA 3, 40, .inl (fun i => bz (vk i)))), (qb, .inl (cA 3, 40, .inl (fun i => bz (vb i)))), (qg, .inl (cA 3, 160, .inl (fun i => bz (vg i)))), (qo, .inl (cA 3, 4, .inl (fun i => bz (vo i)))), (qd, .inl (cA 2, 4, .inl vd)), (qu, .inl (cA 2, 4, .inl vu)), (qw, .inl (cA 2, 4, .inl vw)), (qs, .inl (cA 2, 4, .inl vs)), (qx, .inl (cA 2, 4, .inl vx)), (qa, .inl (cA 2, 4, .inl va)), (qq, .inl (cA 2, 60, .inl vq)), (qf, .inl (cA 3, 60, .inl (fun i => bz (vf i))))] H := hP
    have hD : va_D A [(mo, .inr (3, [.int vc, .ref qp, .ref qh, .ref qk, .ref qb, .int vt, .ref qg, .ref qo, .ref qd, .ref qu, .ref qw, .ref qs, .ref qx, .ref qa, .ref qq, .ref qf])), (qp, .inl (cA 2, 120, .inl (upd (upd (upd vp (3 * vc).toNatClampNeg za) ((3 * vc) + 1).toNatClampNeg zb) ((3 * vc) + 2).toNatClampNeg zc))), (qh, .inl (cA 3, 1600, .inl (fun i => bz (vh i)))), (qk, .inl (cA 3, 40, .inl (fun i => bz (vk i)))), (qb, .inl (cA 3, 40, .inl (fun i => bz (vb i)))), (qg, .inl (cA 3, 160, .inl (fun i => bz (vg i)))), (qo, .inl (cA 3, 4, .inl (fun i => bz (vo i)))), (qd, .inl (cA 2, 4, .inl vd)), (qu, .inl (cA 2, 4, .inl vu)), (qw, .inl (cA 2, 4, .inl vw)), (qs, .inl (cA 2, 4, .inl vs)), (qx, .inl (cA 2, 4, .inl vx)), (qa, .inl (cA 2, 4, .inl va)), (qq, .inl (cA 2, 60, .inl vq)), (qf, .inl (cA 3, 60, .inl (fun i => bz (vf i))))] := hD
    refine lv_iconst (v := 0) hx hb d_m_change_90 (by decide) ?_
    refine lv_istore (lv' := [(4, .int 0), (0, .ref mo), (1, .int za), (2, .int zb), (3, .int zc)]) hx hb d_m_change_91 hl (by decide) rfl (fun ls hl => ?_)
    have loop : ∀ (n k : Nat) (xi : Int32) (vq1 : Nat → Bool) (ls : Array Slot) (H : Heap) (locs : List Loc), k + n = 41 → k ≤ 40 → xi = nI k → va_P D classes [(mo, .inr (3, [.int vc, .ref qp, .ref qh, .ref qk, .ref qb, .int vt, .ref qg, .ref qo, .ref qd, .ref qu, .ref qw, .ref qs, .ref qx, .ref qa, .ref qq, .ref qf])), (qp, .inl (cA 2, 120, .inl (upd (upd (upd vp (3 * vc).toNatClampNeg za) ((3 * vc) + 1).toNatClampNeg zb) ((3 * vc) + 2).toNatClampNeg zc))), (qh, .inl (cA 3, 1600, .inl (fun i => bz (vq1 i)))), (qk, .inl (cA 3, 40, .inl (fun i => bz (vk i)))), (qb, .inl (cA 3, 40, .inl (fun i => bz (vb i)))), (qg, .inl (cA 3, 160, .inl (fun i => bz (vg i)))), (qo, .inl (cA 3, 4, .inl (fun i => bz (vo i)))), (qd, .inl (cA 2, 4, .inl vd)), (qu, .inl (cA 2, 4, .inl vu)), (qw, .inl (cA 2, 4, .inl vw)), (qs, .inl (cA 2, 4, .inl vs)), (qx, .inl (cA 2, 4, .inl vx)), (qa, .inl (cA 2, 4, .inl va)), (qq, .inl (cA 2, 60, .inl vq)), (qf, .inl (cA 3, 60, .inl (fun i => bz (vf i))))] H → va_D A [(mo, .inr (3, [.int vc, .ref qp, .ref qh, .ref qk, .ref qb, .int vt, .ref qg, .ref qo, .ref qd, .ref qu, .ref qw, .ref qs, .ref qx, .ref qa, .ref qq, .ref qf])), (qp, .inl (cA 2, 120, .inl (upd (upd (upd vp (3 * vc).toNatClampNeg za) ((3 * vc) + 1).toNatClampNeg zb) ((3 * vc) + 2).toNatClampNeg zc))), (qh, .inl (cA 3, 1600, .inl (fun i => bz (vq1 i)))), (qk, .inl (cA 3, 40, .inl (fun i => bz (vk i)))), (qb, .inl (cA 3, 40, .inl (fun i => bz (vb i)))), (qg, .inl (cA 3, 160, .inl (fun i => bz (vg i)))), (qo, .inl (cA 3, 4, .inl (fun i => bz (vo i)))), (qd, .inl (cA 2, 4, .inl vd)), (qu, .inl (cA 2, 4, .inl vu)), (qw, .inl (cA 2, 4, .inl vw)), (qs, .inl (cA 2, 4, .inl vs)), (qx, .inl (cA 2, 4, .inl vx)), (qa, .inl (cA 2, 4, .inl va)), (qq, .inl (cA 2, 60, .inl vq)), (qf, .inl (cA 3, 60, .inl (fun i => bz (vf i))))] → va_S A s.heap H locs → lv_has ls 5 [(0, .ref mo), (1, .int za), (2, .int zb), (3, .int zc), (4, .int xi)] → W p l e (rmd 2) s m args below meth c H locs 0 0 (MQ below (Qmu A (fun v0 H0 => v0 = some (.int ((L_m_change_93 vc vp vh za zb zc n xi vq1).1)) ∧ va_P D classes [(mo, .inr (3, [.int ((L_m_change_93 vc vp vh za zb zc n xi vq1).2.2.2), .ref qp, .ref qh, .ref qk, .ref qb, .int vt, .ref qg, .ref qo, .ref qd, .ref qu, .ref qw, .ref qs, .ref qx, .ref qa, .ref qq, .ref qf])), (qp, .inl (cA 2, 120, .inl ((L_m_change_93 vc vp vh za zb zc n xi vq1).2.1))), (qh, .inl (cA 3, 1600, .inl (fun i => bz (((L_m_change_93 vc vp vh za zb zc n xi vq1).2.2.1) i)))), (qk, .inl (cA 3, 40, .inl (fun i => bz (vk i)))), (qb, .inl (cA 3, 40, .inl (fun i => bz (vb i)))), (qg, .inl (cA 3, 160, .inl (fun i => bz (vg i)))), (qo, .inl (cA 3, 4, .inl (fun i => bz (vo i)))), (qd, .inl (cA 2, 4, .inl vd)), (qu, .inl (cA 2, 4, .inl vu)), (qw, .inl (cA 2, 4, .inl vw)), (qs, .inl (cA 2, 4, .inl vs)), (qx, .inl (cA 2, 4, .inl vx)), (qa, .inl (cA 2, 4, .inl va)), (qq, .inl (cA 2, 60, .inl vq)), (qf, .inl (cA 3, 60, .inl (fun i => bz (vf i))))] H0 ∧ va_D A [(mo, .inr (3, [.int ((L_m_change_93 vc vp vh za zb zc n xi vq1).2.2.2), .ref qp, .ref qh, .ref qk, .ref qb, .int vt, .ref qg, .ref qo, .ref qd, .ref qu, .ref qw, .ref qs, .ref qx, .ref qa, .ref qq, .ref qf])), (qp, .inl (cA 2, 120, .inl ((L_m_change_93 vc vp vh za zb zc n xi vq1).2.1))), (qh, .inl (cA 3, 1600, .inl (fun i => bz (((L_m_change_93 vc vp vh za zb zc n xi vq1).2.2.1) i)))), (qk, .inl (cA 3, 40, .inl (fun i => bz (vk i)))), (qb, .inl (cA 3, 40, .inl (fun i => bz (vb i)))), (qg, .inl (cA 3, 160, .inl (fun i => bz (vg i)))), (qo, .inl (cA 3, 4, .inl (fun i => bz (vo i)))), (qd, .inl (cA 2, 4, .inl vd)), (qu, .inl (cA 2, 4, .inl vu)), (qw, .inl (cA 2, 4, .inl vw)), (qs, .inl (cA 2, 4, .inl vs)), (qx, .inl (cA 2, 4, .inl vx)), (qa, .inl (cA 2, 4, .inl va)), (qq, .inl (cA 2, 60, .inl vq)), (qf, .inl (cA 3, 60, .inl (fun i => bz (vf i))))])) args s 0 0 A) (F0 m 93 ls []) := by
      intro n
      induction n with
      | zero =>
        intro k xi vq1 ls H locs h1 h2
        exact absurd h1 (by omega)
      | succ n ih =>
        intro k xi vq1 ls H locs hkn hk hxi hP hD hS hl
        refine lv_iload hx hb d_m_change_93 (lv_at hl 4 rfl) ?_
        refine lv_bipush (v := 40) hx hb d_m_change_95 (by decide) ?_
        refine lv_icmp_ge (tgt := 165) hx hb d_m_change_97 (by decide) (fun c1 => ?_) (fun c1 => ?_)
        · have c1 := c1
          refine lv_aload_n hx hb d_m_change_165 rfl (lv_at hl 0 rfl) ?_
          refine lv_dup hx hb d_m_change_166 rfl ?_
          refine ro_get (v := .int vc) FX hK hP 0 0 rfl rfl rfl i_m (by decide) kf_m_53 d_m_change_167 ?_
          refine lv_iconst (v := 1) hx hb d_m_change_170 (by decide) ?_
          refine lv_iadd hx hb d_m_change_171 ?_
          refine va_put (D := D) (v := .int (vc + 1)) (ty := .int) hx hb hts i_m t_m t_m_ok n_m hown hK.1 hP hD hS 0 rfl rfl 0 (by decide) (hts _ kf_m_53) (fun _ h9 => h9) rfl (by decide +kernel) rfl rfl (Nat.le_of_ble_eq_true rfl) d_m_change_172 (fun H locs hP hD hS => ?_)
          have hP : va_P D classes [(mo, .inr (3, [.int (vc + 1), .ref qp, .ref qh, .ref qk, .ref qb, .int vt, .ref qg, .ref qo, .ref qd, .ref qu, .ref qw, .ref qs, .ref qx, .ref qa, .ref qq, .ref qf])), (qp, .inl (cA 2, 120, .inl (upd (upd (upd vp (3 * vc).toNatClampNeg za) ((3 * vc) + 1).toNatClampNeg zb) ((3 * vc) + 2).toNatClampNeg zc))), (qh, .inl (cA 3, 1600, .inl (fun i => bz (vq1 i)))), (qk, .inl (cA 3, 40, .inl (fun i => bz (vk i)))), (qb, .inl (cA 3, 40, .inl (fun i => bz (vb i)))), (qg, .inl (cA 3, 160, .inl (fun i => bz (vg i)))), (qo, .inl (cA 3, 4, .inl (fun i => bz (vo i)))), (qd, .inl (cA 2, 4, .inl vd)), (qu, .inl (cA 2, 4, .inl vu)), (qw, .inl (cA 2, 4, .inl vw)), (qs, .inl (cA 2, 4, .inl vs)), (qx, .inl (cA 2, 4, .inl vx)), (qa, .inl (cA 2, 4, .inl va)), (qq, .inl (cA 2, 60, .inl vq)), (qf, .inl (cA 3, 60, .inl (fun i => bz (vf i))))] H := hP
          have hD : va_D A [(mo, .inr (3, [.int (vc + 1), .ref qp, .ref qh, .ref qk, .ref qb, .int vt, .ref qg, .ref qo, .ref qd, .ref qu, .ref qw, .ref qs, .ref qx, .ref qa, .ref qq, .ref qf])), (qp, .inl (cA 2, 120, .inl (upd (upd (upd vp (3 * vc).toNatClampNeg za) ((3 * vc) + 1).toNatClampNeg zb) ((3 * vc) + 2).toNatClampNeg zc))), (qh, .inl (cA 3, 1600, .inl (fun i => bz (vq1 i)))), (qk, .inl (cA 3, 40, .inl (fun i => bz (vk i)))), (qb, .inl (cA 3, 40, .inl (fun i => bz (vb i)))), (qg, .inl (cA 3, 160, .inl (fun i => bz (vg i)))), (qo, .inl (cA 3, 4, .inl (fun i => bz (vo i)))), (qd, .inl (cA 2, 4, .inl vd)), (qu, .inl (cA 2, 4, .inl vu)), (qw, .inl (cA 2, 4, .inl vw)), (qs, .inl (cA 2, 4, .inl vs)), (qx, .inl (cA 2, 4, .inl vx)), (qa, .inl (cA 2, 4, .inl va)), (qq, .inl (cA 2, 60, .inl vq)), (qf, .inl (cA 3, 60, .inl (fun i => bz (vf i))))] := hD
          refine lv_aload_n hx hb d_m_change_175 rfl (lv_at hl 0 rfl) ?_
          refine ro_get (v := .int (vc + 1)) FX hK hP 0 0 rfl rfl rfl i_m (by decide) kf_m_53 d_m_change_176 ?_
          refine lv_iconst (v := 1) hx hb d_m_change_179 (by decide) ?_
          refine lv_isub hx hb d_m_change_180 ?_
          exact mu_iret FX hS (by rw [show (L_m_change_93 vc vp vh za zb zc (n + 1) xi vq1) = ((vc + 1) - 1, upd (upd (upd vp (3 * vc).toNatClampNeg za) ((3 * vc) + 1).toNatClampNeg zb) ((3 * vc) + 2).toNatClampNeg zc, vq1, vc + 1) from (by rw [L_m_change_93_s, if_pos c1])]; exact ⟨rfl, hP, hD⟩) d_m_change_181
        · have c1 := c1
          have hk1 : k < 40 := k_lt hxi rfl c1 (by omega)
          refine lv_aload_n hx hb d_m_change_100 rfl (lv_at hl 0 rfl) ?_
          refine ro_get (v := .ref qh) FX hK hP 0 2 rfl rfl rfl i_m (by decide) kf_m_13 d_m_change_101 ?_
          refine lv_bipush (v := 40) hx hb d_m_change_104 (by decide) ?_
          refine lv_aload_n hx hb d_m_change_106 rfl (lv_at hl 0 rfl) ?_
          refine ro_get (v := .int vc) FX hK hP 0 0 rfl rfl rfl i_m (by decide) kf_m_53 d_m_change_107 ?_
          refine lv_imul hx hb d_m_change_110 ?_
          refine lv_iload hx hb d_m_change_111 (lv_at hl 4 rfl) ?_
          refine lv_iadd hx hb d_m_change_113 ?_
          refine lv_iload hx hb d_m_change_114 (lv_at hl 4 rfl) ?_
          refine lv_aload_n hx hb d_m_change_116 rfl (lv_at hl 0 rfl) ?_
          refine ro_get (v := .int vc) FX hK hP 0 0 rfl rfl rfl i_m (by decide) kf_m_53 d_m_change_117 ?_
          refine lv_icmp_eq (tgt := 153) hx hb d_m_change_120 (by decide) (fun c2 => ?_) (fun c2 => ?_)
          · have c2 := c2
            refine lv_iconst (v := 1) hx hb d_m_change_153 (by decide) ?_
            refine lv_goto (tgt := 158) hx hb d_m_change_154 (by decide) ?_
            refine W.eq (g2 := F0 m 158 ls [.int (bz true), .int ((40 * vc) + xi), .ref qh]) rfl ?_
            refine va_zast (x := bz true) hx hb hK.1 hP hD hS 2 3 rfl rfl (vlin 40 1600 hvc hxi (by omega) (by decide)) d_m_change_158 (fun H locs hP hD hS => ?_)
            rw [upd_bz] at hP hD
            have hP : va_P D classes [(mo, .inr (3, [.int vc, .ref qp, .ref qh, .ref qk, .ref qb, .int vt, .ref qg, .ref qo, .ref qd, .ref qu, .ref qw, .ref qs, .ref qx, .ref qa, .ref qq, .ref qf])), (qp, .inl (cA 2, 120, .inl (upd (upd (upd vp (3 * vc).toNatClampNeg za) ((3 * vc) + 1).toNatClampNeg zb) ((3 * vc) + 2).toNatClampNeg zc))), (qh, .inl (cA 3, 1600, .inl (fun i => bz ((va_up vq1 ((40 * vc) + xi).toNatClampNeg true) i)))), (qk, .inl (cA 3, 40, .inl (fun i => bz (vk i)))), (qb, .inl (cA 3, 40, .inl (fun i => bz (vb i)))), (qg, .inl (cA 3, 160, .inl (fun i => bz (vg i)))), (qo, .inl (cA 3, 4, .inl (fun i => bz (vo i)))), (qd, .inl (cA 2, 4, .inl vd)), (qu, .inl (cA 2, 4, .inl vu)), (qw, .inl (cA 2, 4, .inl vw)), (qs, .inl (cA 2, 4, .inl vs)), (qx, .inl (cA 2, 4, .inl vx)), (qa, .inl (cA 2, 4, .inl va)), (qq, .inl (cA 2, 60, .inl vq)), (qf, .inl (cA 3, 60, .inl (fun i => bz (vf i))))] H := hP
            have hD : va_D A [(mo, .inr (3, [.int vc, .ref qp, .ref qh, .ref qk, .ref qb, .int vt, .ref qg, .ref qo, .ref qd, .ref qu, .ref qw, .ref qs, .ref qx, .ref qa, .ref qq, .ref qf])), (qp, .inl (cA 2, 120, .inl (upd (upd (upd vp (3 * vc).toNatClampNeg za) ((3 * vc) + 1).toNatClampNeg zb) ((3 * vc) + 2).toNatClampNeg zc))), (qh, .inl (cA 3, 1600, .inl (fun i => bz ((va_up vq1 ((40 * vc) + xi).toNatClampNeg true) i)))), (qk, .inl (cA 3, 40, .inl (fun i => bz (vk i)))), (qb, .inl (cA 3, 40, .inl (fun i => bz (vb i)))), (qg, .inl (cA 3, 160, .inl (fun i => bz (vg i)))), (qo, .inl (cA 3, 4, .inl (fun i => bz (vo i)))), (qd, .inl (cA 2, 4, .inl vd)), (qu, .inl (cA 2, 4, .inl vu)), (qw, .inl (cA 2, 4, .inl vw)), (qs, .inl (cA 2, 4, .inl vs)), (qx, .inl (cA 2, 4, .inl vx)), (qa, .inl (cA 2, 4, .inl va)), (qq, .inl (cA 2, 60, .inl vq)), (qf, .inl (cA 3, 60, .inl (fun i => bz (vf i))))] := hD
            refine lv_iinc (v := xi + 1) (lv' := [(4, .int (xi + 1)), (0, .ref mo), (1, .int za), (2, .int zb), (3, .int zc)]) hx hb d_m_change_159 hl (k := 4) rfl rfl (by decide) rfl (fun ls hl => ?_)
            refine lv_goto (tgt := 93) hx hb d_m_change_162 (by decide) ?_
            rw [show (L_m_change_93 vc vp vh za zb zc (n + 1) xi vq1) = L_m_change_93 vc vp vh za zb zc n (xi + 1) (va_up vq1 ((40 * vc) + xi).toNatClampNeg true) from (by rw [L_m_change_93_s, if_neg c1, if_pos c2])]
            exact ih (k + 1) (xi + 1) (va_up vq1 ((40 * vc) + xi).toNatClampNeg true) ls H locs (by omega) (by omega) (by rw [hxi]; exact nI_1 _)  hP hD hS (lv_sub hl [1, 2, 3, 4, 0] rfl)
          · have c2 := c2
            refine lv_aload_n hx hb d_m_change_123 rfl (lv_at hl 0 rfl) ?_
            refine lv_iload_n hx hb d_m_change_124 rfl (lv_at hl 1 rfl) ?_
            refine lv_iload hx hb d_m_change_125 (lv_at hl 4 rfl) ?_
            refine ro_V (v := .int (bz (f_m_comes vq1 za xi))) (As := [.int za, .int xi]) (rest := [.int ((40 * vc) + xi), .ref qh]) (q0 := 0) FX hK (c_m_comes l D cA mo qp qh qk qb qg qo qd qu qw qs qx qa qq qf vc (upd (upd (upd vp (3 * vc).toNatClampNeg za) ((3 * vc) + 1).toNatClampNeg zb) ((3 * vc) + 2).toNatClampNeg zc) vq1 vk vb vt vg vo vd vu vw vs vx va vq vf za xi hpa k hk1 hxi) hP hP rfl rfl rfl kc_m_comes km_m_71 ki_m ks_m_comes ke_m_comes rfl ok_m_comes ⟨Nat.le_of_ble_eq_true rfl, Nat.le_of_ble_eq_true rfl⟩ ⟨Nat.zero_le _, Nat.zero_le _⟩ hl.1 rfl (Nat.le_of_ble_eq_true rfl) d_m_change_127 ?_
            refine lv_if_ne (tgt := 153) hx hb d_m_change_130 (by decide) (fun c3 => ?_) (fun c3 => ?_)
            · have c3 := bz_t c3
              refine lv_iconst (v := 1) hx hb d_m_change_153 (by decide) ?_
              refine lv_goto (tgt := 158) hx hb d_m_change_154 (by decide) ?_
              refine W.eq (g2 := F0 m 158 ls [.int (bz true), .int ((40 * vc) + xi), .ref qh]) rfl ?_
              refine va_zast (x := bz true) hx hb hK.1 hP hD hS 2 3 rfl rfl (vlin 40 1600 hvc hxi (by omega) (by decide)) d_m_change_158 (fun H locs hP hD hS => ?_)
              rw [upd_bz] at hP hD
              have hP : va_P D classes [(mo, .inr (3, [.int vc, .ref qp, .ref qh, .ref qk, .ref qb, .int vt, .ref qg, .ref qo, .ref qd, .ref qu, .ref qw, .ref qs, .ref qx, .ref qa, .ref qq, .ref qf])), (qp, .inl (cA 2, 120, .inl (upd (upd (upd vp (3 * vc).toNatClampNeg za) ((3 * vc) + 1).toNatClampNeg zb) ((3 * vc) + 2).toNatClampNeg zc))), (qh, .inl (cA 3, 1600, .inl (fun i => bz ((va_up vq1 ((40 * vc) + xi).toNatClampNeg true) i)))), (qk, .inl (cA 3, 40, .inl (fun i => bz (vk i)))), (qb, .inl (cA 3, 40, .inl (fun i => bz (vb i)))), (qg, .inl (cA 3, 160, .inl (fun i => bz (vg i)))), (qo, .inl (cA 3, 4, .inl (fun i => bz (vo i)))), (qd, .inl (cA 2, 4, .inl vd)), (qu, .inl (cA 2, 4, .inl vu)), (qw, .inl (cA 2, 4, .inl vw)), (qs, .inl (cA 2, 4, .inl vs)), (qx, .inl (cA 2, 4, .inl vx)), (qa, .inl (cA 2, 4, .inl va)), (qq, .inl (cA 2, 60, .inl vq)), (qf, .inl (cA 3, 60, .inl (fun i => bz (vf i))))] H := hP
              have hD : va_D A [(mo, .inr (3, [.int vc, .ref qp, .ref qh, .ref qk, .ref qb, .int vt, .ref qg, .ref qo, .ref qd, .ref qu, .ref qw, .ref qs, .ref qx, .ref qa, .ref qq, .ref qf])), (qp, .inl (cA 2, 120, .inl (upd (upd (upd vp (3 * vc).toNatClampNeg za) ((3 * vc) + 1).toNatClampNeg zb) ((3 * vc) + 2).toNatClampNeg zc))), (qh, .inl (cA 3, 1600, .inl (fun i => bz ((va_up vq1 ((40 * vc) + xi).toNatClampNeg true) i)))), (qk, .inl (cA 3, 40, .inl (fun i => bz (vk i)))), (qb, .inl (cA 3, 40, .inl (fun i => bz (vb i)))), (qg, .inl (cA 3, 160, .inl (fun i => bz (vg i)))), (qo, .inl (cA 3, 4, .inl (fun i => bz (vo i)))), (qd, .inl (cA 2, 4, .inl vd)), (qu, .inl (cA 2, 4, .inl vu)), (qw, .inl (cA 2, 4, .inl vw)), (qs, .inl (cA 2, 4, .inl vs)), (qx, .inl (cA 2, 4, .inl vx)), (qa, .inl (cA 2, 4, .inl va)), (qq, .inl (cA 2, 60, .inl vq)), (qf, .inl (cA 3, 60, .inl (fun i => bz (vf i))))] := hD
              refine lv_iinc (v := xi + 1) (lv' := [(4, .int (xi + 1)), (0, .ref mo), (1, .int za), (2, .int zb), (3, .int zc)]) hx hb d_m_change_159 hl (k := 4) rfl rfl (by decide) rfl (fun ls hl => ?_)
              refine lv_goto (tgt := 93) hx hb d_m_change_162 (by decide) ?_
              rw [show (L_m_change_93 vc vp vh za zb zc (n + 1) xi vq1) = L_m_change_93 vc vp vh za zb zc n (xi + 1) (va_up vq1 ((40 * vc) + xi).toNatClampNeg true) from (by rw [L_m_change_93_s, if_neg c1, if_neg c2, if_pos c3])]
              exact ih (k + 1) (xi + 1) (va_up vq1 ((40 * vc) + xi).toNatClampNeg true) ls H locs (by omega) (by omega) (by rw [hxi]; exact nI_1 _)  hP hD hS (lv_sub hl [1, 2, 3, 4, 0] rfl)
            · have c3 := bz_f c3
              refine lv_aload_n hx hb d_m_change_133 rfl (lv_at hl 0 rfl) ?_
              refine lv_iload_n hx hb d_m_change_134 rfl (lv_at hl 2 rfl) ?_
              refine lv_iload hx hb d_m_change_135 (lv_at hl 4 rfl) ?_
              refine ro_V (v := .int (bz (f_m_comes vq1 zb xi))) (As := [.int zb, .int xi]) (rest := [.int ((40 * vc) + xi), .ref qh]) (q0 := 0) FX hK (c_m_comes l D cA mo qp qh qk qb qg qo qd qu qw qs qx qa qq qf vc (upd (upd (upd vp (3 * vc).toNatClampNeg za) ((3 * vc) + 1).toNatClampNeg zb) ((3 * vc) + 2).toNatClampNeg zc) vq1 vk vb vt vg vo vd vu vw vs vx va vq vf zb xi hpb k hk1 hxi) hP hP rfl rfl rfl kc_m_comes km_m_71 ki_m ks_m_comes ke_m_comes rfl ok_m_comes ⟨Nat.le_of_ble_eq_true rfl, Nat.le_of_ble_eq_true rfl⟩ ⟨Nat.zero_le _, Nat.zero_le _⟩ hl.1 rfl (Nat.le_of_ble_eq_true rfl) d_m_change_137 ?_
              refine lv_if_ne (tgt := 153) hx hb d_m_change_140 (by decide) (fun c4 => ?_) (fun c4 => ?_)
              · have c4 := bz_t c4
                refine lv_iconst (v := 1) hx hb d_m_change_153 (by decide) ?_
                refine lv_goto (tgt := 158) hx hb d_m_change_154 (by decide) ?_
                refine W.eq (g2 := F0 m 158 ls [.int (bz true), .int ((40 * vc) + xi), .ref qh]) rfl ?_
                refine va_zast (x := bz true) hx hb hK.1 hP hD hS 2 3 rfl rfl (vlin 40 1600 hvc hxi (by omega) (by decide)) d_m_change_158 (fun H locs hP hD hS => ?_)
                rw [upd_bz] at hP hD
                have hP : va_P D classes [(mo, .inr (3, [.int vc, .ref qp, .ref qh, .ref qk, .ref qb, .int vt, .ref qg, .ref qo, .ref qd, .ref qu, .ref qw, .ref qs, .ref qx, .ref qa, .ref qq, .ref qf])), (qp, .inl (cA 2, 120, .inl (upd (upd (upd vp (3 * vc).toNatClampNeg za) ((3 * vc) + 1).toNatClampNeg zb) ((3 * vc) + 2).toNatClampNeg zc))), (qh, .inl (cA 3, 1600, .inl (fun i => bz ((va_up vq1 ((40 * vc) + xi).toNatClampNeg true) i)))), (qk, .inl (cA 3, 40, .inl (fun i => bz (vk i)))), (qb, .inl (cA 3, 40, .inl (fun i => bz (vb i)))), (qg, .inl (cA 3, 160, .inl (fun i => bz (vg i)))), (qo, .inl (cA 3, 4, .inl (fun i => bz (vo i)))), (qd, .inl (cA 2, 4, .inl vd)), (qu, .inl (cA 2, 4, .inl vu)), (qw, .inl (cA 2, 4, .inl vw)), (qs, .inl (cA 2, 4, .inl vs)), (qx, .inl (cA 2, 4, .inl vx)), (qa, .inl (cA 2, 4, .inl va)), (qq, .inl (cA 2, 60, .inl vq)), (qf, .inl (cA 3, 60, .inl (fun i => bz (vf i))))] H := hP
                have hD : va_D A [(mo, .inr (3, [.int vc, .ref qp, .ref qh, .ref qk, .ref qb, .int vt, .ref qg, .ref qo, .ref qd, .ref qu, .ref qw, .ref qs, .ref qx, .ref qa, .ref qq, .ref qf])), (qp, .inl (cA 2, 120, .inl (upd (upd (upd vp (3 * vc).toNatClampNeg za) ((3 * vc) + 1).toNatClampNeg zb) ((3 * vc) + 2).toNatClampNeg zc))), (qh, .inl (cA 3, 1600, .inl (fun i => bz ((va_up vq1 ((40 * vc) + xi).toNatClampNeg true) i)))), (qk, .inl (cA 3, 40, .inl (fun i => bz (vk i)))), (qb, .inl (cA 3, 40, .inl (fun i => bz (vb i)))), (qg, .inl (cA 3, 160, .inl (fun i => bz (vg i)))), (qo, .inl (cA 3, 4, .inl (fun i => bz (vo i)))), (qd, .inl (cA 2, 4, .inl vd)), (qu, .inl (cA 2, 4, .inl vu)), (qw, .inl (cA 2, 4, .inl vw)), (qs, .inl (cA 2, 4, .inl vs)), (qx, .inl (cA 2, 4, .inl vx)), (qa, .inl (cA 2, 4, .inl va)), (qq, .inl (cA 2, 60, .inl vq)), (qf, .inl (cA 3, 60, .inl (fun i => bz (vf i))))] := hD
                refine lv_iinc (v := xi + 1) (lv' := [(4, .int (xi + 1)), (0, .ref mo), (1, .int za), (2, .int zb), (3, .int zc)]) hx hb d_m_change_159 hl (k := 4) rfl rfl (by decide) rfl (fun ls hl => ?_)
                refine lv_goto (tgt := 93) hx hb d_m_change_162 (by decide) ?_
                rw [show (L_m_change_93 vc vp vh za zb zc (n + 1) xi vq1) = L_m_change_93 vc vp vh za zb zc n (xi + 1) (va_up vq1 ((40 * vc) + xi).toNatClampNeg true) from (by rw [L_m_change_93_s, if_neg c1, if_neg c2, if_neg c3, if_pos c4])]
                exact ih (k + 1) (xi + 1) (va_up vq1 ((40 * vc) + xi).toNatClampNeg true) ls H locs (by omega) (by omega) (by rw [hxi]; exact nI_1 _)  hP hD hS (lv_sub hl [1, 2, 3, 4, 0] rfl)
              · have c4 := bz_f c4
                refine lv_aload_n hx hb d_m_change_143 rfl (lv_at hl 0 rfl) ?_
                refine lv_iload_n hx hb d_m_change_144 rfl (lv_at hl 3 rfl) ?_
                refine lv_iload hx hb d_m_change_145 (lv_at hl 4 rfl) ?_
                refine ro_V (v := .int (bz (f_m_comes vq1 zc xi))) (As := [.int zc, .int xi]) (rest := [.int ((40 * vc) + xi), .ref qh]) (q0 := 0) FX hK (c_m_comes l D cA mo qp qh qk qb qg qo qd qu qw qs qx qa qq qf vc (upd (upd (upd vp (3 * vc).toNatClampNeg za) ((3 * vc) + 1).toNatClampNeg zb) ((3 * vc) + 2).toNatClampNeg zc) vq1 vk vb vt vg vo vd vu vw vs vx va vq vf zc xi hpc k hk1 hxi) hP hP rfl rfl rfl kc_m_comes km_m_71 ki_m ks_m_comes ke_m_comes rfl ok_m_comes ⟨Nat.le_of_ble_eq_true rfl, Nat.le_of_ble_eq_true rfl⟩ ⟨Nat.zero_le _, Nat.zero_le _⟩ hl.1 rfl (Nat.le_of_ble_eq_true rfl) d_m_change_147 ?_
                refine lv_if_eq (tgt := 157) hx hb d_m_change_150 (by decide) (fun c5 => ?_) (fun c5 => ?_)
                · have c5 := bz_f c5
                  refine lv_iconst (v := 0) hx hb d_m_change_157 (by decide) ?_
                  refine W.eq (g2 := F0 m 158 ls [.int (bz false), .int ((40 * vc) + xi), .ref qh]) rfl ?_
                  refine va_zast (x := bz false) hx hb hK.1 hP hD hS 2 3 rfl rfl (vlin 40 1600 hvc hxi (by omega) (by decide)) d_m_change_158 (fun H locs hP hD hS => ?_)
                  rw [upd_bz] at hP hD
                  have hP : va_P D classes [(mo, .inr (3, [.int vc, .ref qp, .ref qh, .ref qk, .ref qb, .int vt, .ref qg, .ref qo, .ref qd, .ref qu, .ref qw, .ref qs, .ref qx, .ref qa, .ref qq, .ref qf])), (qp, .inl (cA 2, 120, .inl (upd (upd (upd vp (3 * vc).toNatClampNeg za) ((3 * vc) + 1).toNatClampNeg zb) ((3 * vc) + 2).toNatClampNeg zc))), (qh, .inl (cA 3, 1600, .inl (fun i => bz ((va_up vq1 ((40 * vc) + xi).toNatClampNeg false) i)))), (qk, .inl (cA 3, 40, .inl (fun i => bz (vk i)))), (qb, .inl (cA 3, 40, .inl (fun i => bz (vb i)))), (qg, .inl (cA 3, 160, .inl (fun i => bz (vg i)))), (qo, .inl (cA 3, 4, .inl (fun i => bz (vo i)))), (qd, .inl (cA 2, 4, .inl vd)), (qu, .inl (cA 2, 4, .inl vu)), (qw, .inl (cA 2, 4, .inl vw)), (qs, .inl (cA 2, 4, .inl vs)), (qx, .inl (cA 2, 4, .inl vx)), (qa, .inl (cA 2, 4, .inl va)), (qq, .inl (cA 2, 60, .inl vq)), (qf, .inl (cA 3, 60, .inl (fun i => bz (vf i))))] H := hP
                  have hD : va_D A [(mo, .inr (3, [.int vc, .ref qp, .ref qh, .ref qk, .ref qb, .int vt, .ref qg, .ref qo, .ref qd, .ref qu, .ref qw, .ref qs, .ref qx, .ref qa, .ref qq, .ref qf])), (qp, .inl (cA 2, 120, .inl (upd (upd (upd vp (3 * vc).toNatClampNeg za) ((3 * vc) + 1).toNatClampNeg zb) ((3 * vc) + 2).toNatClampNeg zc))), (qh, .inl (cA 3, 1600, .inl (fun i => bz ((va_up vq1 ((40 * vc) + xi).toNatClampNeg false) i)))), (qk, .inl (cA 3, 40, .inl (fun i => bz (vk i)))), (qb, .inl (cA 3, 40, .inl (fun i => bz (vb i)))), (qg, .inl (cA 3, 160, .inl (fun i => bz (vg i)))), (qo, .inl (cA 3, 4, .inl (fun i => bz (vo i)))), (qd, .inl (cA 2, 4, .inl vd)), (qu, .inl (cA 2, 4, .inl vu)), (qw, .inl (cA 2, 4, .inl vw)), (qs, .inl (cA 2, 4, .inl vs)), (qx, .inl (cA 2, 4, .inl vx)), (qa, .inl (cA 2, 4, .inl va)), (qq, .inl (cA 2, 60, .inl vq)), (qf, .inl (cA 3, 60, .inl (fun i => bz (vf i))))] := hD
                  refine lv_iinc (v := xi + 1) (lv' := [(4, .int (xi + 1)), (0, .ref mo), (1, .int za), (2, .int zb), (3, .int zc)]) hx hb d_m_change_159 hl (k := 4) rfl rfl (by decide) rfl (fun ls hl => ?_)
                  refine lv_goto (tgt := 93) hx hb d_m_change_162 (by decide) ?_
                  rw [show (L_m_change_93 vc vp vh za zb zc (n + 1) xi vq1) = L_m_change_93 vc vp vh za zb zc n (xi + 1) (va_up vq1 ((40 * vc) + xi).toNatClampNeg false) from (by rw [L_m_change_93_s, if_neg c1, if_neg c2, if_neg c3, if_neg c4, if_neg c5])]
                  exact ih (k + 1) (xi + 1) (va_up vq1 ((40 * vc) + xi).toNatClampNeg false) ls H locs (by omega) (by omega) (by rw [hxi]; exact nI_1 _)  hP hD hS (lv_sub hl [1, 2, 3, 4, 0] rfl)
                · have c5 := bz_t c5
                  refine lv_iconst (v := 1) hx hb d_m_change_153 (by decide) ?_
                  refine lv_goto (tgt := 158) hx hb d_m_change_154 (by decide) ?_
                  refine W.eq (g2 := F0 m 158 ls [.int (bz true), .int ((40 * vc) + xi), .ref qh]) rfl ?_
                  refine va_zast (x := bz true) hx hb hK.1 hP hD hS 2 3 rfl rfl (vlin 40 1600 hvc hxi (by omega) (by decide)) d_m_change_158 (fun H locs hP hD hS => ?_)
                  rw [upd_bz] at hP hD
                  have hP : va_P D classes [(mo, .inr (3, [.int vc, .ref qp, .ref qh, .ref qk, .ref qb, .int vt, .ref qg, .ref qo, .ref qd, .ref qu, .ref qw, .ref qs, .ref qx, .ref qa, .ref qq, .ref qf])), (qp, .inl (cA 2, 120, .inl (upd (upd (upd vp (3 * vc).toNatClampNeg za) ((3 * vc) + 1).toNatClampNeg zb) ((3 * vc) + 2).toNatClampNeg zc))), (qh, .inl (cA 3, 1600, .inl (fun i => bz ((va_up vq1 ((40 * vc) + xi).toNatClampNeg true) i)))), (qk, .inl (cA 3, 40, .inl (fun i => bz (vk i)))), (qb, .inl (cA 3, 40, .inl (fun i => bz (vb i)))), (qg, .inl (cA 3, 160, .inl (fun i => bz (vg i)))), (qo, .inl (cA 3, 4, .inl (fun i => bz (vo i)))), (qd, .inl (cA 2, 4, .inl vd)), (qu, .inl (cA 2, 4, .inl vu)), (qw, .inl (cA 2, 4, .inl vw)), (qs, .inl (cA 2, 4, .inl vs)), (qx, .inl (cA 2, 4, .inl vx)), (qa, .inl (cA 2, 4, .inl va)), (qq, .inl (cA 2, 60, .inl vq)), (qf, .inl (cA 3, 60, .inl (fun i => bz (vf i))))] H := hP
                  have hD : va_D A [(mo, .inr (3, [.int vc, .ref qp, .ref qh, .ref qk, .ref qb, .int vt, .ref qg, .ref qo, .ref qd, .ref qu, .ref qw, .ref qs, .ref qx, .ref qa, .ref qq, .ref qf])), (qp, .inl (cA 2, 120, .inl (upd (upd (upd vp (3 * vc).toNatClampNeg za) ((3 * vc) + 1).toNatClampNeg zb) ((3 * vc) + 2).toNatClampNeg zc))), (qh, .inl (cA 3, 1600, .inl (fun i => bz ((va_up vq1 ((40 * vc) + xi).toNatClampNeg true) i)))), (qk, .inl (cA 3, 40, .inl (fun i => bz (vk i)))), (qb, .inl (cA 3, 40, .inl (fun i => bz (vb i)))), (qg, .inl (cA 3, 160, .inl (fun i => bz (vg i)))), (qo, .inl (cA 3, 4, .inl (fun i => bz (vo i)))), (qd, .inl (cA 2, 4, .inl vd)), (qu, .inl (cA 2, 4, .inl vu)), (qw, .inl (cA 2, 4, .inl vw)), (qs, .inl (cA 2, 4, .inl vs)), (qx, .inl (cA 2, 4, .inl vx)), (qa, .inl (cA 2, 4, .inl va)), (qq, .inl (cA 2, 60, .inl vq)), (qf, .inl (cA 3, 60, .inl (fun i => bz (vf i))))] := hD
                  refine lv_iinc (v := xi + 1) (lv' := [(4, .int (xi + 1)), (0, .ref mo), (1, .int za), (2, .int zb), (3, .int zc)]) hx hb d_m_change_159 hl (k := 4) rfl rfl (by decide) rfl (fun ls hl => ?_)
                  refine lv_goto (tgt := 93) hx hb d_m_change_162 (by decide) ?_
                  rw [show (L_m_change_93 vc vp vh za zb zc (n + 1) xi vq1) = L_m_change_93 vc vp vh za zb zc n (xi + 1) (va_up vq1 ((40 * vc) + xi).toNatClampNeg true) from (by rw [L_m_change_93_s, if_neg c1, if_neg c2, if_neg c3, if_neg c4, if_pos c5])]
                  exact ih (k + 1) (xi + 1) (va_up vq1 ((40 * vc) + xi).toNatClampNeg true) ls H locs (by omega) (by omega) (by rw [hxi]; exact nI_1 _)  hP hD hS (lv_sub hl [1, 2, 3, 4, 0] rfl)
    rw [show (J_m_change_50 vc vp vh za zb zc) = L_m_change_93 vc vp vh za zb zc 41 0 vh from (by rw [J_m_change_50])]
    exact loop 41 0 0 vh ls H locs rfl (Nat.zero_le _) rfl  hP hD hS (lv_sub hl [1, 2, 3, 4, 0] rfl)
  refine lv_aload_n hx hb d_m_change_0 rfl (lv_at hl 0 rfl) ?_
  refine ro_get (v := .int vc) FX hK hP 0 0 rfl rfl rfl i_m (by decide) kf_m_53 d_m_change_1 ?_
  refine lv_bipush (v := 40) hx hb d_m_change_4 (by decide) ?_
  refine lv_icmp_eq (tgt := 48) hx hb d_m_change_6 (by decide) (fun c6 => ?_) (fun c6 => ?_)
  · have c6 := c6
    refine lv_iconst (v := (-1)) hx hb d_m_change_48 (by decide) ?_
    exact mu_iret FX hS (by rw [show (f_m_change vc vp vh za zb zc) = ((-1), vp, vh, vc) from (by rw [f_m_change, if_pos c6])]; exact ⟨rfl, hP, hD⟩) d_m_change_49
  · have c6 := c6
    have hlt : cn < 40 := c_lt hcn hvc c6
    refine lv_iload_n hx hb d_m_change_9 rfl (lv_at hl 1 rfl) ?_
    refine lv_iconst (v := (-1)) hx hb d_m_change_10 (by decide) ?_
    refine lv_icmp_eq (tgt := 22) hx hb d_m_change_11 (by decide) (fun c7 => ?_) (fun c7 => ?_)
    · have c7 := c7
      have hpa : za = (-1) ∨ ∃ a, a < 40 ∧ za = nI a := Or.inl c7
      refine lv_iload_n hx hb d_m_change_22 rfl (lv_at hl 2 rfl) ?_
      refine lv_iconst (v := (-1)) hx hb d_m_change_23 (by decide) ?_
      refine lv_icmp_eq (tgt := 35) hx hb d_m_change_24 (by decide) (fun c8 => ?_) (fun c8 => ?_)
      · have c8 := c8
        have hpb : zb = (-1) ∨ ∃ a, a < 40 ∧ zb = nI a := Or.inl c8
        refine lv_iload_n hx hb d_m_change_35 rfl (lv_at hl 3 rfl) ?_
        refine lv_iconst (v := (-1)) hx hb d_m_change_36 (by decide) ?_
        refine lv_icmp_eq (tgt := 50) hx hb d_m_change_37 (by decide) (fun c9 => ?_) (fun c9 => ?_)
        · have c9 := c9
          have hpc : zc = (-1) ∨ ∃ a, a < 40 ∧ zc = nI a := Or.inl c9
          rw [show (f_m_change vc vp vh za zb zc) = (J_m_change_50 vc vp vh za zb zc) from (by rw [f_m_change, if_neg c6, if_pos c7, if_pos c8, if_pos c9])]
          exact J50 hlt hpa hpb hpc ls hl
        · have c9 := c9
          refine lv_aload_n hx hb d_m_change_40 rfl (lv_at hl 0 rfl) ?_
          refine lv_iload_n hx hb d_m_change_41 rfl (lv_at hl 3 rfl) ?_
          refine ro_V (v := .int (bz (f_m_isChange vc zc))) (As := [.int zc]) (rest := []) (q0 := 0) FX hK (c_m_isChange l D cA mo qp qh qk qb qg qo qd qu qw qs qx qa qq qf vc vp vh vk vb vt vg vo vd vu vw vs vx va vq vf zc) hP hP rfl rfl rfl kc_m_isChange km_m_68 ki_m ks_m_isChange ke_m_isChange rfl ok_m_isChange ⟨Nat.le_of_ble_eq_true rfl, Nat.le_of_ble_eq_true rfl⟩ ⟨Nat.zero_le _, Nat.zero_le _⟩ hl.1 rfl (Nat.le_of_ble_eq_true rfl) d_m_change_42 ?_
          refine lv_if_ne (tgt := 50) hx hb d_m_change_45 (by decide) (fun c10 => ?_) (fun c10 => ?_)
          · have c10 := bz_t c10
            have hpc : zc = (-1) ∨ ∃ a, a < 40 ∧ zc = nI a := by obtain ⟨j, hj, e⟩ := ch_nI hcn hvc c10; exact Or.inr ⟨j, by omega, e⟩
            rw [show (f_m_change vc vp vh za zb zc) = (J_m_change_50 vc vp vh za zb zc) from (by rw [f_m_change, if_neg c6, if_pos c7, if_pos c8, if_neg c9, if_pos c10])]
            exact J50 hlt hpa hpb hpc ls hl
          · have c10 := bz_f c10
            refine lv_iconst (v := (-1)) hx hb d_m_change_48 (by decide) ?_
            exact mu_iret FX hS (by rw [show (f_m_change vc vp vh za zb zc) = ((-1), vp, vh, vc) from (by rw [f_m_change, if_neg c6, if_pos c7, if_pos c8, if_neg c9, if_neg c10])]; exact ⟨rfl, hP, hD⟩) d_m_change_49
      · have c8 := c8
        refine lv_aload_n hx hb d_m_change_27 rfl (lv_at hl 0 rfl) ?_
        refine lv_iload_n hx hb d_m_change_28 rfl (lv_at hl 2 rfl) ?_
        refine ro_V (v := .int (bz (f_m_isChange vc zb))) (As := [.int zb]) (rest := []) (q0 := 0) FX hK (c_m_isChange l D cA mo qp qh qk qb qg qo qd qu qw qs qx qa qq qf vc vp vh vk vb vt vg vo vd vu vw vs vx va vq vf zb) hP hP rfl rfl rfl kc_m_isChange km_m_68 ki_m ks_m_isChange ke_m_isChange rfl ok_m_isChange ⟨Nat.le_of_ble_eq_true rfl, Nat.le_of_ble_eq_true rfl⟩ ⟨Nat.zero_le _, Nat.zero_le _⟩ hl.1 rfl (Nat.le_of_ble_eq_true rfl) d_m_change_29 ?_
        refine lv_if_eq (tgt := 48) hx hb d_m_change_32 (by decide) (fun c11 => ?_) (fun c11 => ?_)
        · have c11 := bz_f c11
          refine lv_iconst (v := (-1)) hx hb d_m_change_48 (by decide) ?_
          exact mu_iret FX hS (by rw [show (f_m_change vc vp vh za zb zc) = ((-1), vp, vh, vc) from (by rw [f_m_change, if_neg c6, if_pos c7, if_neg c8, if_neg c11])]; exact ⟨rfl, hP, hD⟩) d_m_change_49
        · have c11 := bz_t c11
          have hpb : zb = (-1) ∨ ∃ a, a < 40 ∧ zb = nI a := by obtain ⟨j, hj, e⟩ := ch_nI hcn hvc c11; exact Or.inr ⟨j, by omega, e⟩
          refine lv_iload_n hx hb d_m_change_35 rfl (lv_at hl 3 rfl) ?_
          refine lv_iconst (v := (-1)) hx hb d_m_change_36 (by decide) ?_
          refine lv_icmp_eq (tgt := 50) hx hb d_m_change_37 (by decide) (fun c12 => ?_) (fun c12 => ?_)
          · have c12 := c12
            have hpc : zc = (-1) ∨ ∃ a, a < 40 ∧ zc = nI a := Or.inl c12
            rw [show (f_m_change vc vp vh za zb zc) = (J_m_change_50 vc vp vh za zb zc) from (by rw [f_m_change, if_neg c6, if_pos c7, if_neg c8, if_pos c11, if_pos c12])]
            exact J50 hlt hpa hpb hpc ls hl
          · have c12 := c12
            refine lv_aload_n hx hb d_m_change_40 rfl (lv_at hl 0 rfl) ?_
            refine lv_iload_n hx hb d_m_change_41 rfl (lv_at hl 3 rfl) ?_
            refine ro_V (v := .int (bz (f_m_isChange vc zc))) (As := [.int zc]) (rest := []) (q0 := 0) FX hK (c_m_isChange l D cA mo qp qh qk qb qg qo qd qu qw qs qx qa qq qf vc vp vh vk vb vt vg vo vd vu vw vs vx va vq vf zc) hP hP rfl rfl rfl kc_m_isChange km_m_68 ki_m ks_m_isChange ke_m_isChange rfl ok_m_isChange ⟨Nat.le_of_ble_eq_true rfl, Nat.le_of_ble_eq_true rfl⟩ ⟨Nat.zero_le _, Nat.zero_le _⟩ hl.1 rfl (Nat.le_of_ble_eq_true rfl) d_m_change_42 ?_
            refine lv_if_ne (tgt := 50) hx hb d_m_change_45 (by decide) (fun c13 => ?_) (fun c13 => ?_)
            · have c13 := bz_t c13
              have hpc : zc = (-1) ∨ ∃ a, a < 40 ∧ zc = nI a := by obtain ⟨j, hj, e⟩ := ch_nI hcn hvc c13; exact Or.inr ⟨j, by omega, e⟩
              rw [show (f_m_change vc vp vh za zb zc) = (J_m_change_50 vc vp vh za zb zc) from (by rw [f_m_change, if_neg c6, if_pos c7, if_neg c8, if_pos c11, if_neg c12, if_pos c13])]
              exact J50 hlt hpa hpb hpc ls hl
            · have c13 := bz_f c13
              refine lv_iconst (v := (-1)) hx hb d_m_change_48 (by decide) ?_
              exact mu_iret FX hS (by rw [show (f_m_change vc vp vh za zb zc) = ((-1), vp, vh, vc) from (by rw [f_m_change, if_neg c6, if_pos c7, if_neg c8, if_pos c11, if_neg c12, if_neg c13])]; exact ⟨rfl, hP, hD⟩) d_m_change_49
    · have c7 := c7
      refine lv_aload_n hx hb d_m_change_14 rfl (lv_at hl 0 rfl) ?_
      refine lv_iload_n hx hb d_m_change_15 rfl (lv_at hl 1 rfl) ?_
      refine ro_V (v := .int (bz (f_m_isChange vc za))) (As := [.int za]) (rest := []) (q0 := 0) FX hK (c_m_isChange l D cA mo qp qh qk qb qg qo qd qu qw qs qx qa qq qf vc vp vh vk vb vt vg vo vd vu vw vs vx va vq vf za) hP hP rfl rfl rfl kc_m_isChange km_m_68 ki_m ks_m_isChange ke_m_isChange rfl ok_m_isChange ⟨Nat.le_of_ble_eq_true rfl, Nat.le_of_ble_eq_true rfl⟩ ⟨Nat.zero_le _, Nat.zero_le _⟩ hl.1 rfl (Nat.le_of_ble_eq_true rfl) d_m_change_16 ?_
      refine lv_if_eq (tgt := 48) hx hb d_m_change_19 (by decide) (fun c14 => ?_) (fun c14 => ?_)
      · have c14 := bz_f c14
        refine lv_iconst (v := (-1)) hx hb d_m_change_48 (by decide) ?_
        exact mu_iret FX hS (by rw [show (f_m_change vc vp vh za zb zc) = ((-1), vp, vh, vc) from (by rw [f_m_change, if_neg c6, if_neg c7, if_neg c14])]; exact ⟨rfl, hP, hD⟩) d_m_change_49
      · have c14 := bz_t c14
        have hpa : za = (-1) ∨ ∃ a, a < 40 ∧ za = nI a := by obtain ⟨j, hj, e⟩ := ch_nI hcn hvc c14; exact Or.inr ⟨j, by omega, e⟩
        refine lv_iload_n hx hb d_m_change_22 rfl (lv_at hl 2 rfl) ?_
        refine lv_iconst (v := (-1)) hx hb d_m_change_23 (by decide) ?_
        refine lv_icmp_eq (tgt := 35) hx hb d_m_change_24 (by decide) (fun c15 => ?_) (fun c15 => ?_)
        · have c15 := c15
          have hpb : zb = (-1) ∨ ∃ a, a < 40 ∧ zb = nI a := Or.inl c15
          refine lv_iload_n hx hb d_m_change_35 rfl (lv_at hl 3 rfl) ?_
          refine lv_iconst (v := (-1)) hx hb d_m_change_36 (by decide) ?_
          refine lv_icmp_eq (tgt := 50) hx hb d_m_change_37 (by decide) (fun c16 => ?_) (fun c16 => ?_)
          · have c16 := c16
            have hpc : zc = (-1) ∨ ∃ a, a < 40 ∧ zc = nI a := Or.inl c16
            rw [show (f_m_change vc vp vh za zb zc) = (J_m_change_50 vc vp vh za zb zc) from (by rw [f_m_change, if_neg c6, if_neg c7, if_pos c14, if_pos c15, if_pos c16])]
            exact J50 hlt hpa hpb hpc ls hl
          · have c16 := c16
            refine lv_aload_n hx hb d_m_change_40 rfl (lv_at hl 0 rfl) ?_
            refine lv_iload_n hx hb d_m_change_41 rfl (lv_at hl 3 rfl) ?_
            refine ro_V (v := .int (bz (f_m_isChange vc zc))) (As := [.int zc]) (rest := []) (q0 := 0) FX hK (c_m_isChange l D cA mo qp qh qk qb qg qo qd qu qw qs qx qa qq qf vc vp vh vk vb vt vg vo vd vu vw vs vx va vq vf zc) hP hP rfl rfl rfl kc_m_isChange km_m_68 ki_m ks_m_isChange ke_m_isChange rfl ok_m_isChange ⟨Nat.le_of_ble_eq_true rfl, Nat.le_of_ble_eq_true rfl⟩ ⟨Nat.zero_le _, Nat.zero_le _⟩ hl.1 rfl (Nat.le_of_ble_eq_true rfl) d_m_change_42 ?_
            refine lv_if_ne (tgt := 50) hx hb d_m_change_45 (by decide) (fun c17 => ?_) (fun c17 => ?_)
            · have c17 := bz_t c17
              have hpc : zc = (-1) ∨ ∃ a, a < 40 ∧ zc = nI a := by obtain ⟨j, hj, e⟩ := ch_nI hcn hvc c17; exact Or.inr ⟨j, by omega, e⟩
              rw [show (f_m_change vc vp vh za zb zc) = (J_m_change_50 vc vp vh za zb zc) from (by rw [f_m_change, if_neg c6, if_neg c7, if_pos c14, if_pos c15, if_neg c16, if_pos c17])]
              exact J50 hlt hpa hpb hpc ls hl
            · have c17 := bz_f c17
              refine lv_iconst (v := (-1)) hx hb d_m_change_48 (by decide) ?_
              exact mu_iret FX hS (by rw [show (f_m_change vc vp vh za zb zc) = ((-1), vp, vh, vc) from (by rw [f_m_change, if_neg c6, if_neg c7, if_pos c14, if_pos c15, if_neg c16, if_neg c17])]; exact ⟨rfl, hP, hD⟩) d_m_change_49
        · have c15 := c15
          refine lv_aload_n hx hb d_m_change_27 rfl (lv_at hl 0 rfl) ?_
          refine lv_iload_n hx hb d_m_change_28 rfl (lv_at hl 2 rfl) ?_
          refine ro_V (v := .int (bz (f_m_isChange vc zb))) (As := [.int zb]) (rest := []) (q0 := 0) FX hK (c_m_isChange l D cA mo qp qh qk qb qg qo qd qu qw qs qx qa qq qf vc vp vh vk vb vt vg vo vd vu vw vs vx va vq vf zb) hP hP rfl rfl rfl kc_m_isChange km_m_68 ki_m ks_m_isChange ke_m_isChange rfl ok_m_isChange ⟨Nat.le_of_ble_eq_true rfl, Nat.le_of_ble_eq_true rfl⟩ ⟨Nat.zero_le _, Nat.zero_le _⟩ hl.1 rfl (Nat.le_of_ble_eq_true rfl) d_m_change_29 ?_
          refine lv_if_eq (tgt := 48) hx hb d_m_change_32 (by decide) (fun c18 => ?_) (fun c18 => ?_)
          · have c18 := bz_f c18
            refine lv_iconst (v := (-1)) hx hb d_m_change_48 (by decide) ?_
            exact mu_iret FX hS (by rw [show (f_m_change vc vp vh za zb zc) = ((-1), vp, vh, vc) from (by rw [f_m_change, if_neg c6, if_neg c7, if_pos c14, if_neg c15, if_neg c18])]; exact ⟨rfl, hP, hD⟩) d_m_change_49
          · have c18 := bz_t c18
            have hpb : zb = (-1) ∨ ∃ a, a < 40 ∧ zb = nI a := by obtain ⟨j, hj, e⟩ := ch_nI hcn hvc c18; exact Or.inr ⟨j, by omega, e⟩
            refine lv_iload_n hx hb d_m_change_35 rfl (lv_at hl 3 rfl) ?_
            refine lv_iconst (v := (-1)) hx hb d_m_change_36 (by decide) ?_
            refine lv_icmp_eq (tgt := 50) hx hb d_m_change_37 (by decide) (fun c19 => ?_) (fun c19 => ?_)
            · have c19 := c19
              have hpc : zc = (-1) ∨ ∃ a, a < 40 ∧ zc = nI a := Or.inl c19
              rw [show (f_m_change vc vp vh za zb zc) = (J_m_change_50 vc vp vh za zb zc) from (by rw [f_m_change, if_neg c6, if_neg c7, if_pos c14, if_neg c15, if_pos c18, if_pos c19])]
              exact J50 hlt hpa hpb hpc ls hl
            · have c19 := c19
              refine lv_aload_n hx hb d_m_change_40 rfl (lv_at hl 0 rfl) ?_
              refine lv_iload_n hx hb d_m_change_41 rfl (lv_at hl 3 rfl) ?_
              refine ro_V (v := .int (bz (f_m_isChange vc zc))) (As := [.int zc]) (rest := []) (q0 := 0) FX hK (c_m_isChange l D cA mo qp qh qk qb qg qo qd qu qw qs qx qa qq qf vc vp vh vk vb vt vg vo vd vu vw vs vx va vq vf zc) hP hP rfl rfl rfl kc_m_isChange km_m_68 ki_m ks_m_isChange ke_m_isChange rfl ok_m_isChange ⟨Nat.le_of_ble_eq_true rfl, Nat.le_of_ble_eq_true rfl⟩ ⟨Nat.zero_le _, Nat.zero_le _⟩ hl.1 rfl (Nat.le_of_ble_eq_true rfl) d_m_change_42 ?_
              refine lv_if_ne (tgt := 50) hx hb d_m_change_45 (by decide) (fun c20 => ?_) (fun c20 => ?_)
              · have c20 := bz_t c20
                have hpc : zc = (-1) ∨ ∃ a, a < 40 ∧ zc = nI a := by obtain ⟨j, hj, e⟩ := ch_nI hcn hvc c20; exact Or.inr ⟨j, by omega, e⟩
                rw [show (f_m_change vc vp vh za zb zc) = (J_m_change_50 vc vp vh za zb zc) from (by rw [f_m_change, if_neg c6, if_neg c7, if_pos c14, if_neg c15, if_pos c18, if_neg c19, if_pos c20])]
                exact J50 hlt hpa hpb hpc ls hl
              · have c20 := bz_f c20
                refine lv_iconst (v := (-1)) hx hb d_m_change_48 (by decide) ?_
                exact mu_iret FX hS (by rw [show (f_m_change vc vp vh za zb zc) = ((-1), vp, vh, vc) from (by rw [f_m_change, if_neg c6, if_neg c7, if_pos c14, if_neg c15, if_pos c18, if_neg c19, if_neg c20])]; exact ⟨rfl, hP, hD⟩) d_m_change_49
theorem d_m_good_0 : decode b_m_good 0 = .ok (.aload_n 0, 1) := by decide +kernel
theorem d_m_good_1 : decode b_m_good 1 = .ok (.iload_n 1, 1) := by decide +kernel
theorem d_m_good_2 : decode b_m_good 2 = .ok (.invokevirtual 64, 3) := by decide +kernel
theorem d_m_good_5 : decode b_m_good 5 = .ok (.ifCond .eq 20, 3) := by decide +kernel
theorem d_m_good_8 : decode b_m_good 8 = .ok (.aload_n 0, 1) := by decide +kernel
theorem d_m_good_9 : decode b_m_good 9 = .ok (.iload_n 2, 1) := by decide +kernel
theorem d_m_good_10 : decode b_m_good 10 = .ok (.invokevirtual 68, 3) := by decide +kernel
theorem d_m_good_13 : decode b_m_good 13 = .ok (.ifCond .eq 12, 3) := by decide +kernel
theorem d_m_good_16 : decode b_m_good 16 = .ok (.aload_n 0, 1) := by decide +kernel
theorem d_m_good_17 : decode b_m_good 17 = .ok (.getfield 26, 3) := by decide +kernel
theorem d_m_good_20 : decode b_m_good 20 = .ok (.iload_n 1, 1) := by decide +kernel
theorem d_m_good_21 : decode b_m_good 21 = .ok (.baload, 1) := by decide +kernel
theorem d_m_good_22 : decode b_m_good 22 = .ok (.ifCond .eq 5, 3) := by decide +kernel
theorem d_m_good_25 : decode b_m_good 25 = .ok (.iconst (-1), 1) := by decide +kernel
theorem d_m_good_26 : decode b_m_good 26 = .ok (.ireturn, 1) := by decide +kernel
theorem d_m_good_27 : decode b_m_good 27 = .ok (.aload_n 0, 1) := by decide +kernel
theorem d_m_good_28 : decode b_m_good 28 = .ok (.getfield 23, 3) := by decide +kernel
theorem d_m_good_31 : decode b_m_good 31 = .ok (.bipush 40, 2) := by decide +kernel
theorem d_m_good_33 : decode b_m_good 33 = .ok (.iload_n 1, 1) := by decide +kernel
theorem d_m_good_34 : decode b_m_good 34 = .ok (.imul, 1) := by decide +kernel
theorem d_m_good_35 : decode b_m_good 35 = .ok (.iload_n 2, 1) := by decide +kernel
theorem d_m_good_36 : decode b_m_good 36 = .ok (.iadd, 1) := by decide +kernel
theorem d_m_good_37 : decode b_m_good 37 = .ok (.baload, 1) := by decide +kernel
theorem d_m_good_38 : decode b_m_good 38 = .ok (.ifCond .eq 5, 3) := by decide +kernel
theorem d_m_good_41 : decode b_m_good 41 = .ok (.iconst 0, 1) := by decide +kernel
theorem d_m_good_42 : decode b_m_good 42 = .ok (.ireturn, 1) := by decide +kernel
theorem d_m_good_43 : decode b_m_good 43 = .ok (.aload_n 0, 1) := by decide +kernel
theorem d_m_good_44 : decode b_m_good 44 = .ok (.getfield 23, 3) := by decide +kernel
theorem d_m_good_47 : decode b_m_good 47 = .ok (.bipush 40, 2) := by decide +kernel
theorem d_m_good_49 : decode b_m_good 49 = .ok (.iload_n 1, 1) := by decide +kernel
theorem d_m_good_50 : decode b_m_good 50 = .ok (.imul, 1) := by decide +kernel
theorem d_m_good_51 : decode b_m_good 51 = .ok (.iload_n 2, 1) := by decide +kernel
theorem d_m_good_52 : decode b_m_good 52 = .ok (.iadd, 1) := by decide +kernel
theorem d_m_good_53 : decode b_m_good 53 = .ok (.iconst 1, 1) := by decide +kernel
theorem d_m_good_54 : decode b_m_good 54 = .ok (.bastore, 1) := by decide +kernel
theorem d_m_good_55 : decode b_m_good 55 = .ok (.iconst 1, 1) := by decide +kernel
theorem d_m_good_56 : decode b_m_good 56 = .ok (.ireturn, 1) := by decide +kernel
def f_m_good (vc : Int32) (vt : Int32) (vg : Nat → Bool) (vo : Nat → Bool) (ta : Int32) (ch : Int32) : Int32 × (Nat → Bool) := if (f_m_isTarget vt ta) = true then
    (if (f_m_isChange vc ch) = true then
      (if (vo ta.toNatClampNeg) = true then
        (((-1), vg))
      else
        (if (vg ((40 * ta) + ch).toNatClampNeg) = true then
          ((0, vg))
        else
          ((1, va_up vg ((40 * ta) + ch).toNatClampNeg true))))
    else
      (((-1), vg)))
  else
    (((-1), vg))
set_option maxHeartbeats 4000000 in
set_option maxRecDepth 100000 in
theorem c_m_good (l : Launch) (D : va_G) (cA : Nat → ClassId) (mo qp qh qk qb qg qo qd qu qw qs qx qa qq qf : Nat) (vc : Int32) (vp : Nat → Int32) (vh : Nat → Bool) (vk : Nat → Bool) (vb : Nat → Bool) (vt : Int32) (vg : Nat → Bool) (vo : Nat → Bool) (vd : Nat → Int32) (vu : Nat → Int32) (vw : Nat → Int32) (vs : Nat → Int32) (vx : Nat → Int32) (va : Nat → Int32) (vq : Nat → Int32) (vf : Nat → Bool) (ta : Int32) (ch : Int32) (cn : Nat) (hcn : cn ≤ 40) (hvc : vc = nI cn) (tn : Nat) (htn : tn ≤ 4) (hvt : vt = nI tn) : Met l y_m_good (.code y_m_good b_m_good 3 (some .int) :: tb) (rmd 2) (Pro D cA [.ref mo, .int ta, .int ch] (fun H0 => va_P D classes [(mo, .inr (3, [.int vc, .ref qp, .ref qh, .ref qk, .ref qb, .int vt, .ref qg, .ref qo, .ref qd, .ref qu, .ref qw, .ref qs, .ref qx, .ref qa, .ref qq, .ref qf])), (qp, .inl (cA 2, 120, .inl vp)), (qh, .inl (cA 3, 1600, .inl (fun i => bz (vh i)))), (qk, .inl (cA 3, 40, .inl (fun i => bz (vk i)))), (qb, .inl (cA 3, 40, .inl (fun i => bz (vb i)))), (qg, .inl (cA 3, 160, .inl (fun i => bz (vg i)))), (qo, .inl (cA 3, 4, .inl (fun i => bz (vo i)))), (qd, .inl (cA 2, 4, .inl vd)), (qu, .inl (cA 2, 4, .inl vu)), (qw, .inl (cA 2, 4, .inl vw)), (qs, .inl (cA 2, 4, .inl vs)), (qx, .inl (cA 2, 4, .inl vx)), (qa, .inl (cA 2, 4, .inl va)), (qq, .inl (cA 2, 60, .inl vq)), (qf, .inl (cA 3, 60, .inl (fun i => bz (vf i))))] H0 ∧ va_D (fun _ => True) [(mo, .inr (3, [.int vc, .ref qp, .ref qh, .ref qk, .ref qb, .int vt, .ref qg, .ref qo, .ref qd, .ref qu, .ref qw, .ref qs, .ref qx, .ref qa, .ref qq, .ref qf])), (qp, .inl (cA 2, 120, .inl vp)), (qh, .inl (cA 3, 1600, .inl (fun i => bz (vh i)))), (qk, .inl (cA 3, 40, .inl (fun i => bz (vk i)))), (qb, .inl (cA 3, 40, .inl (fun i => bz (vb i)))), (qg, .inl (cA 3, 160, .inl (fun i => bz (vg i)))), (qo, .inl (cA 3, 4, .inl (fun i => bz (vo i)))), (qd, .inl (cA 2, 4, .inl vd)), (qu, .inl (cA 2, 4, .inl vu)), (qw, .inl (cA 2, 4, .inl vw)), (qs, .inl (cA 2, 4, .inl vs)), (qx, .inl (cA 2, 4, .inl vx)), (qa, .inl (cA 2, 4, .inl va)), (qq, .inl (cA 2, 60, .inl vq)), (qf, .inl (cA 3, 60, .inl (fun i => bz (vf i))))])) (Qmu (aw [(mo, .inr (3, [.int vc, .ref qp, .ref qh, .ref qk, .ref qb, .int vt, .ref qg, .ref qo, .ref qd, .ref qu, .ref qw, .ref qs, .ref qx, .ref qa, .ref qq, .ref qf])), (qp, .inl (cA 2, 120, .inl vp)), (qh, .inl (cA 3, 1600, .inl (fun i => bz (vh i)))), (qk, .inl (cA 3, 40, .inl (fun i => bz (vk i)))), (qb, .inl (cA 3, 40, .inl (fun i => bz (vb i)))), (qg, .inl (cA 3, 160, .inl (fun i => bz (vg i)))), (qo, .inl (cA 3, 4, .inl (fun i => bz (vo i)))), (qd, .inl (cA 2, 4, .inl vd)), (qu, .inl (cA 2, 4, .inl vu)), (qw, .inl (cA 2, 4, .inl vw)), (qs, .inl (cA 2, 4, .inl vs)), (qx, .inl (cA 2, 4, .inl vx)), (qa, .inl (cA 2, 4, .inl va)), (qq, .inl (cA 2, 60, .inl vq)), (qf, .inl (cA 3, 60, .inl (fun i => bz (vf i))))]) (fun v0 H0 => v0 = some (.int ((f_m_good vc vt vg vo ta ch).1)) ∧ va_P D classes [(mo, .inr (3, [.int vc, .ref qp, .ref qh, .ref qk, .ref qb, .int vt, .ref qg, .ref qo, .ref qd, .ref qu, .ref qw, .ref qs, .ref qx, .ref qa, .ref qq, .ref qf])), (qp, .inl (cA 2, 120, .inl vp)), (qh, .inl (cA 3, 1600, .inl (fun i => bz (vh i)))), (qk, .inl (cA 3, 40, .inl (fun i => bz (vk i)))), (qb, .inl (cA 3, 40, .inl (fun i => bz (vb i)))), (qg, .inl (cA 3, 160, .inl (fun i => bz (((f_m_good vc vt vg vo ta ch).2) i)))), (qo, .inl (cA 3, 4, .inl (fun i => bz (vo i)))), (qd, .inl (cA 2, 4, .inl vd)), (qu, .inl (cA 2, 4, .inl vu)), (qw, .inl (cA 2, 4, .inl vw)), (qs, .inl (cA 2, 4, .inl vs)), (qx, .inl (cA 2, 4, .inl vx)), (qa, .inl (cA 2, 4, .inl va)), (qq, .inl (cA 2, 60, .inl vq)), (qf, .inl (cA 3, 60, .inl (fun i => bz (vf i))))] H0 ∧ va_D (aw [(mo, .inr (3, [.int vc, .ref qp, .ref qh, .ref qk, .ref qb, .int vt, .ref qg, .ref qo, .ref qd, .ref qu, .ref qw, .ref qs, .ref qx, .ref qa, .ref qq, .ref qf])), (qp, .inl (cA 2, 120, .inl vp)), (qh, .inl (cA 3, 1600, .inl (fun i => bz (vh i)))), (qk, .inl (cA 3, 40, .inl (fun i => bz (vk i)))), (qb, .inl (cA 3, 40, .inl (fun i => bz (vb i)))), (qg, .inl (cA 3, 160, .inl (fun i => bz (vg i)))), (qo, .inl (cA 3, 4, .inl (fun i => bz (vo i)))), (qd, .inl (cA 2, 4, .inl vd)), (qu, .inl (cA 2, 4, .inl vu)), (qw, .inl (cA 2, 4, .inl vw)), (qs, .inl (cA 2, 4, .inl vs)), (qx, .inl (cA 2, 4, .inl vx)), (qa, .inl (cA 2, 4, .inl va)), (qq, .inl (cA 2, 60, .inl vq)), (qf, .inl (cA 3, 60, .inl (fun i => bz (vf i))))]) [(mo, .inr (3, [.int vc, .ref qp, .ref qh, .ref qk, .ref qb, .int vt, .ref qg, .ref qo, .ref qd, .ref qu, .ref qw, .ref qs, .ref qx, .ref qa, .ref qq, .ref qf])), (qp, .inl (cA 2, 120, .inl vp)), (qh, .inl (cA 3, 1600, .inl (fun i => bz (vh i)))), (qk, .inl (cA 3, 40, .inl (fun i => bz (vk i)))), (qb, .inl (cA 3, 40, .inl (fun i => bz (vb i)))), (qg, .inl (cA 3, 160, .inl (fun i => bz (((f_m_good vc vt vg vo ta ch).2) i)))), (qo, .inl (cA 3, 4, .inl (fun i => bz (vo i)))), (qd, .inl (cA 2, 4, .inl vd)), (qu, .inl (cA 2, 4, .inl vu)), (qw, .inl (cA 2, 4, .inl vw)), (qs, .inl (cA 2, 4, .inl vs)), (qx, .inl (cA 2, 4, .inl vx)), (qa, .inl (cA 2, 4, .inl va)), (qq, .inl (cA 2, 60, .inl vq)), (qf, .inl (cA 3, 60, .inl (fun i => bz (vf i))))])) 0 0 (aw [(mo, .inr (3, [.int vc, .ref qp, .ref qh, .ref qk, .ref qb, .int vt, .ref qg, .ref qo, .ref qd, .ref qu, .ref qw, .ref qs, .ref qx, .ref qa, .ref qq, .ref qf])), (qp, .inl (cA 2, 120, .inl vp)), (qh, .inl (cA 3, 1600, .inl (fun i => bz (vh i)))), (qk, .inl (cA 3, 40, .inl (fun i => bz (vk i)))), (qb, .inl (cA 3, 40, .inl (fun i => bz (vb i)))), (qg, .inl (cA 3, 160, .inl (fun i => bz (vg i)))), (qo, .inl (cA 3, 4, .inl (fun i => bz (vo i)))), (qd, .inl (cA 2, 4, .inl vd)), (qu, .inl (cA 2, 4, .inl vu)), (qw, .inl (cA 2, 4, .inl vw)), (qs, .inl (cA 2, 4, .inl vs)), (qx, .inl (cA 2, 4, .inl vx)), (qa, .inl (cA 2, 4, .inl va)), (qq, .inl (cA 2, 60, .inl vq)), (qf, .inl (cA 3, 60, .inl (fun i => bz (vf i))))]) := by
  refine ro_in (by decide) (Nat.le_of_ble_eq_true rfl) (fun p e s m below meth c ls FX hnm hK hP hl => ?_)
  have hl : lv_has ls 3 [(0, .ref mo), (1, .int ta), (2, .int ch)] := hl
  obtain ⟨hP, hD0⟩ := hP
  have hP : va_P D classes [(mo, .inr (3, [.int vc, .ref qp, .ref qh, .ref qk, .ref qb, .int vt, .ref qg, .ref qo, .ref qd, .ref qu, .ref qw, .ref qs, .ref qx, .ref qa, .ref qq, .ref qf])), (qp, .inl (cA 2, 120, .inl vp)), (qh, .inl (cA 3, 1600, .inl (fun i => bz (vh i)))), (qk, .inl (cA 3, 40, .inl (fun i => bz (vk i)))), (qb, .inl (cA 3, 40, .inl (fun i => bz (vb i)))), (qg, .inl (cA 3, 160, .inl (fun i => bz (vg i)))), (qo, .inl (cA 3, 4, .inl (fun i => bz (vo i)))), (qd, .inl (cA 2, 4, .inl vd)), (qu, .inl (cA 2, 4, .inl vu)), (qw, .inl (cA 2, 4, .inl vw)), (qs, .inl (cA 2, 4, .inl vs)), (qx, .inl (cA 2, 4, .inl vx)), (qa, .inl (cA 2, 4, .inl va)), (qq, .inl (cA 2, 60, .inl vq)), (qf, .inl (cA 3, 60, .inl (fun i => bz (vf i))))] s.heap := hP
  have hD : va_D (aw [(mo, .inr (3, [.int vc, .ref qp, .ref qh, .ref qk, .ref qb, .int vt, .ref qg, .ref qo, .ref qd, .ref qu, .ref qw, .ref qs, .ref qx, .ref qa, .ref qq, .ref qf])), (qp, .inl (cA 2, 120, .inl vp)), (qh, .inl (cA 3, 1600, .inl (fun i => bz (vh i)))), (qk, .inl (cA 3, 40, .inl (fun i => bz (vk i)))), (qb, .inl (cA 3, 40, .inl (fun i => bz (vb i)))), (qg, .inl (cA 3, 160, .inl (fun i => bz (vg i)))), (qo, .inl (cA 3, 4, .inl (fun i => bz (vo i)))), (qd, .inl (cA 2, 4, .inl vd)), (qu, .inl (cA 2, 4, .inl vu)), (qw, .inl (cA 2, 4, .inl vw)), (qs, .inl (cA 2, 4, .inl vs)), (qx, .inl (cA 2, 4, .inl vx)), (qa, .inl (cA 2, 4, .inl va)), (qq, .inl (cA 2, 60, .inl vq)), (qf, .inl (cA 3, 60, .inl (fun i => bz (vf i))))]) [(mo, .inr (3, [.int vc, .ref qp, .ref qh, .ref qk, .ref qb, .int vt, .ref qg, .ref qo, .ref qd, .ref qu, .ref qw, .ref qs, .ref qx, .ref qa, .ref qq, .ref qf])), (qp, .inl (cA 2, 120, .inl vp)), (qh, .inl (cA 3, 1600, .inl (fun i => bz (vh i)))), (qk, .inl (cA 3, 40, .inl (fun i => bz (vk i)))), (qb, .inl (cA 3, 40, .inl (fun i => bz (vb i)))), (qg, .inl (cA 3, 160, .inl (fun i => bz (vg i)))), (qo, .inl (cA 3, 4, .inl (fun i => bz (vo i)))), (qd, .inl (cA 2, 4, .inl vd)), (qu, .inl (cA 2, 4, .inl vu)), (qw, .inl (cA 2, 4, .inl vw)), (qs, .inl (cA 2, 4, .inl vs)), (qx, .inl (cA 2, 4, .inl vx)), (qa, .inl (cA 2, 4, .inl va)), (qq, .inl (cA 2, 60, .inl vq)), (qf, .inl (cA 3, 60, .inl (fun i => bz (vf i))))] := aw_self hD0
  generalize (aw [(mo, .inr (3, [.int vc, .ref qp, .ref qh, .ref qk, .ref qb, .int vt, .ref qg, .ref qo, .ref qd, .ref qu, .ref qw, .ref qs, .ref qx, .ref qa, .ref qq, .ref qf])), (qp, .inl (cA 2, 120, .inl vp)), (qh, .inl (cA 3, 1600, .inl (fun i => bz (vh i)))), (qk, .inl (cA 3, 40, .inl (fun i => bz (vk i)))), (qb, .inl (cA 3, 40, .inl (fun i => bz (vb i)))), (qg, .inl (cA 3, 160, .inl (fun i => bz (vg i)))), (qo, .inl (cA 3, 4, .inl (fun i => bz (vo i)))), (qd, .inl (cA 2, 4, .inl vd)), (qu, .inl (cA 2, 4, .inl vu)), (qw, .inl (cA 2, 4, .inl vw)), (qs, .inl (cA 2, 4, .inl vs)), (qx, .inl (cA 2, 4, .inl vx)), (qa, .inl (cA 2, 4, .inl va)), (qq, .inl (cA 2, 60, .inl vq)), (qf, .inl (cA 3, 60, .inl (fun i => bz (vf i))))]) = A at hD ⊢
  have hS : va_S A s.heap s.heap [] := va_S.rf
  generalize ([.ref mo, .int ta, .int ch] : List Value).toArray = args at FX ⊢
  obtain ⟨hx, hb, hml, hown, hts, hr, hlk⟩ := id FX
  refine lv_aload_n hx hb d_m_good_0 rfl (lv_at hl 0 rfl) ?_
  refine lv_iload_n hx hb d_m_good_1 rfl (lv_at hl 1 rfl) ?_
  refine ro_V (v := .int (bz (f_m_isTarget vt ta))) (As := [.int ta]) (rest := []) (q0 := 0) FX hK (c_m_isTarget l D cA mo qp qh qk qb qg qo qd qu qw qs qx qa qq qf vc vp vh vk vb vt vg vo vd vu vw vs vx va vq vf ta) hP hP rfl rfl rfl kc_m_isTarget km_m_64 ki_m ks_m_isTarget ke_m_isTarget rfl ok_m_isTarget ⟨Nat.le_of_ble_eq_true rfl, Nat.le_of_ble_eq_true rfl⟩ ⟨Nat.zero_le _, Nat.zero_le _⟩ hl.1 rfl (Nat.le_of_ble_eq_true rfl) d_m_good_2 ?_
  refine lv_if_eq (tgt := 25) hx hb d_m_good_5 (by decide) (fun c1 => ?_) (fun c1 => ?_)
  · have c1 := bz_f c1
    refine lv_iconst (v := (-1)) hx hb d_m_good_25 (by decide) ?_
    exact mu_iret FX hS (by rw [show (f_m_good vc vt vg vo ta ch) = ((-1), vg) from (by rw [f_m_good, if_neg c1])]; exact ⟨rfl, hP, hD⟩) d_m_good_26
  · have c1 := bz_t c1
    obtain ⟨tj, htj, htt⟩ := tg_nI htn hvt c1
    refine lv_aload_n hx hb d_m_good_8 rfl (lv_at hl 0 rfl) ?_
    refine lv_iload_n hx hb d_m_good_9 rfl (lv_at hl 2 rfl) ?_
    refine ro_V (v := .int (bz (f_m_isChange vc ch))) (As := [.int ch]) (rest := []) (q0 := 0) FX hK (c_m_isChange l D cA mo qp qh qk qb qg qo qd qu qw qs qx qa qq qf vc vp vh vk vb vt vg vo vd vu vw vs vx va vq vf ch) hP hP rfl rfl rfl kc_m_isChange km_m_68 ki_m ks_m_isChange ke_m_isChange rfl ok_m_isChange ⟨Nat.le_of_ble_eq_true rfl, Nat.le_of_ble_eq_true rfl⟩ ⟨Nat.zero_le _, Nat.zero_le _⟩ hl.1 rfl (Nat.le_of_ble_eq_true rfl) d_m_good_10 ?_
    refine lv_if_eq (tgt := 25) hx hb d_m_good_13 (by decide) (fun c2 => ?_) (fun c2 => ?_)
    · have c2 := bz_f c2
      refine lv_iconst (v := (-1)) hx hb d_m_good_25 (by decide) ?_
      exact mu_iret FX hS (by rw [show (f_m_good vc vt vg vo ta ch) = ((-1), vg) from (by rw [f_m_good, if_pos c1, if_neg c2])]; exact ⟨rfl, hP, hD⟩) d_m_good_26
    · have c2 := bz_t c2
      obtain ⟨a1, ha1, e1⟩ := ch_nI hcn hvc c2
      refine lv_aload_n hx hb d_m_good_16 rfl (lv_at hl 0 rfl) ?_
      refine ro_get (v := .ref qo) FX hK hP 0 7 rfl rfl rfl i_m (by decide) kf_m_26 d_m_good_17 ?_
      refine lv_iload_n hx hb d_m_good_20 rfl (lv_at hl 1 rfl) ?_
      refine va_zald hx hb hK.1 hP 6 3 rfl rfl (vin htt (by omega) (by decide)) d_m_good_21 ?_
      refine W.eq (g2 := F0 m 22 ls [.int (bz (vo ta.toNatClampNeg))]) rfl ?_
      refine lv_if_eq (tgt := 27) hx hb d_m_good_22 (by decide) (fun c3 => ?_) (fun c3 => ?_)
      · have c3 := bz_f c3
        refine lv_aload_n hx hb d_m_good_27 rfl (lv_at hl 0 rfl) ?_
        refine ro_get (v := .ref qg) FX hK hP 0 6 rfl rfl rfl i_m (by decide) kf_m_23 d_m_good_28 ?_
        refine lv_bipush (v := 40) hx hb d_m_good_31 (by decide) ?_
        refine lv_iload_n hx hb d_m_good_33 rfl (lv_at hl 1 rfl) ?_
        refine lv_imul hx hb d_m_good_34 ?_
        refine lv_iload_n hx hb d_m_good_35 rfl (lv_at hl 2 rfl) ?_
        refine lv_iadd hx hb d_m_good_36 ?_
        refine va_zald hx hb hK.1 hP 5 3 rfl rfl (vlin 40 160 htt e1 (by omega) (by decide)) d_m_good_37 ?_
        refine W.eq (g2 := F0 m 38 ls [.int (bz (vg ((40 * ta) + ch).toNatClampNeg))]) rfl ?_
        refine lv_if_eq (tgt := 43) hx hb d_m_good_38 (by decide) (fun c4 => ?_) (fun c4 => ?_)
        · have c4 := bz_f c4
          refine lv_aload_n hx hb d_m_good_43 rfl (lv_at hl 0 rfl) ?_
          refine ro_get (v := .ref qg) FX hK hP 0 6 rfl rfl rfl i_m (by decide) kf_m_23 d_m_good_44 ?_
          refine lv_bipush (v := 40) hx hb d_m_good_47 (by decide) ?_
          refine lv_iload_n hx hb d_m_good_49 rfl (lv_at hl 1 rfl) ?_
          refine lv_imul hx hb d_m_good_50 ?_
          refine lv_iload_n hx hb d_m_good_51 rfl (lv_at hl 2 rfl) ?_
          refine lv_iadd hx hb d_m_good_52 ?_
          refine lv_iconst (v := 1) hx hb d_m_good_53 (by decide) ?_
          refine W.eq (g2 := F0 m 54 ls [.int (bz true), .int ((40 * ta) + ch), .ref qg]) rfl ?_
          refine va_zast (x := bz true) hx hb hK.1 hP hD hS 5 3 rfl rfl (vlin 40 160 htt e1 (by omega) (by decide)) d_m_good_54 (fun H locs hP hD hS => ?_)
          rw [upd_bz] at hP hD
          have hP : va_P D classes [(mo, .inr (3, [.int vc, .ref qp, .ref qh, .ref qk, .ref qb, .int vt, .ref qg, .ref qo, .ref qd, .ref qu, .ref qw, .ref qs, .ref qx, .ref qa, .ref qq, .ref qf])), (qp, .inl (cA 2, 120, .inl vp)), (qh, .inl (cA 3, 1600, .inl (fun i => bz (vh i)))), (qk, .inl (cA 3, 40, .inl (fun i => bz (vk i)))), (qb, .inl (cA 3, 40, .inl (fun i => bz (vb i)))), (qg, .inl (cA 3, 160, .inl (fun i => bz ((va_up vg ((40 * ta) + ch).toNatClampNeg true) i)))), (qo, .inl (cA 3, 4, .inl (fun i => bz (vo i)))), (qd, .inl (cA 2, 4, .inl vd)), (qu, .inl (cA 2, 4, .inl vu)), (qw, .inl (cA 2, 4, .inl vw)), (qs, .inl (cA 2, 4, .inl vs)), (qx, .inl (cA 2, 4, .inl vx)), (qa, .inl (cA 2, 4, .inl va)), (qq, .inl (cA 2, 60, .inl vq)), (qf, .inl (cA 3, 60, .inl (fun i => bz (vf i))))] H := hP
          have hD : va_D A [(mo, .inr (3, [.int vc, .ref qp, .ref qh, .ref qk, .ref qb, .int vt, .ref qg, .ref qo, .ref qd, .ref qu, .ref qw, .ref qs, .ref qx, .ref qa, .ref qq, .ref qf])), (qp, .inl (cA 2, 120, .inl vp)), (qh, .inl (cA 3, 1600, .inl (fun i => bz (vh i)))), (qk, .inl (cA 3, 40, .inl (fun i => bz (vk i)))), (qb, .inl (cA 3, 40, .inl (fun i => bz (vb i)))), (qg, .inl (cA 3, 160, .inl (fun i => bz ((va_up vg ((40 * ta) + ch).toNatClampNeg true) i)))), (qo, .inl (cA 3, 4, .inl (fun i => bz (vo i)))), (qd, .inl (cA 2, 4, .inl vd)), (qu, .inl (cA 2, 4, .inl vu)), (qw, .inl (cA 2, 4, .inl vw)), (qs, .inl (cA 2, 4, .inl vs)), (qx, .inl (cA 2, 4, .inl vx)), (qa, .inl (cA 2, 4, .inl va)), (qq, .inl (cA 2, 60, .inl vq)), (qf, .inl (cA 3, 60, .inl (fun i => bz (vf i))))] := hD
          refine lv_iconst (v := 1) hx hb d_m_good_55 (by decide) ?_
          exact mu_iret FX hS (by rw [show (f_m_good vc vt vg vo ta ch) = (1, va_up vg ((40 * ta) + ch).toNatClampNeg true) from (by rw [f_m_good, if_pos c1, if_pos c2, if_neg c3, if_neg c4])]; exact ⟨rfl, hP, hD⟩) d_m_good_56
        · have c4 := bz_t c4
          refine lv_iconst (v := 0) hx hb d_m_good_41 (by decide) ?_
          exact mu_iret FX hS (by rw [show (f_m_good vc vt vg vo ta ch) = (0, vg) from (by rw [f_m_good, if_pos c1, if_pos c2, if_neg c3, if_pos c4])]; exact ⟨rfl, hP, hD⟩) d_m_good_42
      · have c3 := bz_t c3
        refine lv_iconst (v := (-1)) hx hb d_m_good_25 (by decide) ?_
        exact mu_iret FX hS (by rw [show (f_m_good vc vt vg vo ta ch) = ((-1), vg) from (by rw [f_m_good, if_pos c1, if_pos c2, if_pos c3])]; exact ⟨rfl, hP, hD⟩) d_m_good_26
theorem d_m_stop_0 : decode b_m_stop 0 = .ok (.aload_n 0, 1) := by decide +kernel
theorem d_m_stop_1 : decode b_m_stop 1 = .ok (.iload_n 1, 1) := by decide +kernel
theorem d_m_stop_2 : decode b_m_stop 2 = .ok (.invokevirtual 85, 3) := by decide +kernel
theorem d_m_stop_5 : decode b_m_stop 5 = .ok (.ifCond .ne 5, 3) := by decide +kernel
theorem d_m_stop_8 : decode b_m_stop 8 = .ok (.iconst 0, 1) := by decide +kernel
theorem d_m_stop_9 : decode b_m_stop 9 = .ok (.ireturn, 1) := by decide +kernel
theorem d_m_stop_10 : decode b_m_stop 10 = .ok (.aload_n 0, 1) := by decide +kernel
theorem d_m_stop_11 : decode b_m_stop 11 = .ok (.getfield 26, 3) := by decide +kernel
theorem d_m_stop_14 : decode b_m_stop 14 = .ok (.iload_n 1, 1) := by decide +kernel
theorem d_m_stop_15 : decode b_m_stop 15 = .ok (.iconst 0, 1) := by decide +kernel
theorem d_m_stop_16 : decode b_m_stop 16 = .ok (.bastore, 1) := by decide +kernel
theorem d_m_stop_17 : decode b_m_stop 17 = .ok (.iconst 1, 1) := by decide +kernel
theorem d_m_stop_18 : decode b_m_stop 18 = .ok (.ireturn, 1) := by decide +kernel
def f_m_stop (vt : Int32) (vo : Nat → Bool) (ta : Int32) : Bool × (Nat → Bool) := if (f_m_isSearch vt vo ta) = true then
    ((true, va_up vo ta.toNatClampNeg false))
  else
    ((false, vo))
set_option maxHeartbeats 4000000 in
set_option maxRecDepth 100000 in
theorem c_m_stop (l : Launch) (D : va_G) (cA : Nat → ClassId) (mo qp qh qk qb qg qo qd qu qw qs qx qa qq qf : Nat) (vc : Int32) (vp : Nat → Int32) (vh : Nat → Bool) (vk : Nat → Bool) (vb : Nat → Bool) (vt : Int32) (vg : Nat → Bool) (vo : Nat → Bool) (vd : Nat → Int32) (vu : Nat → Int32) (vw : Nat → Int32) (vs : Nat → Int32) (vx : Nat → Int32) (va : Nat → Int32) (vq : Nat → Int32) (vf : Nat → Bool) (ta : Int32) (cn : Nat) (hcn : cn ≤ 40) (hvc : vc = nI cn) (tn : Nat) (htn : tn ≤ 4) (hvt : vt = nI tn) (hva : ∀ i, i < 4 → ∃ a, a ≤ 15 ∧ va i = nI a) : Met l y_m_stop (.code y_m_stop b_m_stop 2 (some .boolean) :: tb) (rmd 3) (Pro D cA [.ref mo, .int ta] (fun H0 => va_P D classes [(mo, .inr (3, [.int vc, .ref qp, .ref qh, .ref qk, .ref qb, .int vt, .ref qg, .ref qo, .ref qd, .ref qu, .ref qw, .ref qs, .ref qx, .ref qa, .ref qq, .ref qf])), (qp, .inl (cA 2, 120, .inl vp)), (qh, .inl (cA 3, 1600, .inl (fun i => bz (vh i)))), (qk, .inl (cA 3, 40, .inl (fun i => bz (vk i)))), (qb, .inl (cA 3, 40, .inl (fun i => bz (vb i)))), (qg, .inl (cA 3, 160, .inl (fun i => bz (vg i)))), (qo, .inl (cA 3, 4, .inl (fun i => bz (vo i)))), (qd, .inl (cA 2, 4, .inl vd)), (qu, .inl (cA 2, 4, .inl vu)), (qw, .inl (cA 2, 4, .inl vw)), (qs, .inl (cA 2, 4, .inl vs)), (qx, .inl (cA 2, 4, .inl vx)), (qa, .inl (cA 2, 4, .inl va)), (qq, .inl (cA 2, 60, .inl vq)), (qf, .inl (cA 3, 60, .inl (fun i => bz (vf i))))] H0 ∧ va_D (fun _ => True) [(mo, .inr (3, [.int vc, .ref qp, .ref qh, .ref qk, .ref qb, .int vt, .ref qg, .ref qo, .ref qd, .ref qu, .ref qw, .ref qs, .ref qx, .ref qa, .ref qq, .ref qf])), (qp, .inl (cA 2, 120, .inl vp)), (qh, .inl (cA 3, 1600, .inl (fun i => bz (vh i)))), (qk, .inl (cA 3, 40, .inl (fun i => bz (vk i)))), (qb, .inl (cA 3, 40, .inl (fun i => bz (vb i)))), (qg, .inl (cA 3, 160, .inl (fun i => bz (vg i)))), (qo, .inl (cA 3, 4, .inl (fun i => bz (vo i)))), (qd, .inl (cA 2, 4, .inl vd)), (qu, .inl (cA 2, 4, .inl vu)), (qw, .inl (cA 2, 4, .inl vw)), (qs, .inl (cA 2, 4, .inl vs)), (qx, .inl (cA 2, 4, .inl vx)), (qa, .inl (cA 2, 4, .inl va)), (qq, .inl (cA 2, 60, .inl vq)), (qf, .inl (cA 3, 60, .inl (fun i => bz (vf i))))])) (Qmu (aw [(mo, .inr (3, [.int vc, .ref qp, .ref qh, .ref qk, .ref qb, .int vt, .ref qg, .ref qo, .ref qd, .ref qu, .ref qw, .ref qs, .ref qx, .ref qa, .ref qq, .ref qf])), (qp, .inl (cA 2, 120, .inl vp)), (qh, .inl (cA 3, 1600, .inl (fun i => bz (vh i)))), (qk, .inl (cA 3, 40, .inl (fun i => bz (vk i)))), (qb, .inl (cA 3, 40, .inl (fun i => bz (vb i)))), (qg, .inl (cA 3, 160, .inl (fun i => bz (vg i)))), (qo, .inl (cA 3, 4, .inl (fun i => bz (vo i)))), (qd, .inl (cA 2, 4, .inl vd)), (qu, .inl (cA 2, 4, .inl vu)), (qw, .inl (cA 2, 4, .inl vw)), (qs, .inl (cA 2, 4, .inl vs)), (qx, .inl (cA 2, 4, .inl vx)), (qa, .inl (cA 2, 4, .inl va)), (qq, .inl (cA 2, 60, .inl vq)), (qf, .inl (cA 3, 60, .inl (fun i => bz (vf i))))]) (fun v0 H0 => v0 = some (.int (bz ((f_m_stop vt vo ta).1))) ∧ va_P D classes [(mo, .inr (3, [.int vc, .ref qp, .ref qh, .ref qk, .ref qb, .int vt, .ref qg, .ref qo, .ref qd, .ref qu, .ref qw, .ref qs, .ref qx, .ref qa, .ref qq, .ref qf])), (qp, .inl (cA 2, 120, .inl vp)), (qh, .inl (cA 3, 1600, .inl (fun i => bz (vh i)))), (qk, .inl (cA 3, 40, .inl (fun i => bz (vk i)))), (qb, .inl (cA 3, 40, .inl (fun i => bz (vb i)))), (qg, .inl (cA 3, 160, .inl (fun i => bz (vg i)))), (qo, .inl (cA 3, 4, .inl (fun i => bz (((f_m_stop vt vo ta).2) i)))), (qd, .inl (cA 2, 4, .inl vd)), (qu, .inl (cA 2, 4, .inl vu)), (qw, .inl (cA 2, 4, .inl vw)), (qs, .inl (cA 2, 4, .inl vs)), (qx, .inl (cA 2, 4, .inl vx)), (qa, .inl (cA 2, 4, .inl va)), (qq, .inl (cA 2, 60, .inl vq)), (qf, .inl (cA 3, 60, .inl (fun i => bz (vf i))))] H0 ∧ va_D (aw [(mo, .inr (3, [.int vc, .ref qp, .ref qh, .ref qk, .ref qb, .int vt, .ref qg, .ref qo, .ref qd, .ref qu, .ref qw, .ref qs, .ref qx, .ref qa, .ref qq, .ref qf])), (qp, .inl (cA 2, 120, .inl vp)), (qh, .inl (cA 3, 1600, .inl (fun i => bz (vh i)))), (qk, .inl (cA 3, 40, .inl (fun i => bz (vk i)))), (qb, .inl (cA 3, 40, .inl (fun i => bz (vb i)))), (qg, .inl (cA 3, 160, .inl (fun i => bz (vg i)))), (qo, .inl (cA 3, 4, .inl (fun i => bz (vo i)))), (qd, .inl (cA 2, 4, .inl vd)), (qu, .inl (cA 2, 4, .inl vu)), (qw, .inl (cA 2, 4, .inl vw)), (qs, .inl (cA 2, 4, .inl vs)), (qx, .inl (cA 2, 4, .inl vx)), (qa, .inl (cA 2, 4, .inl va)), (qq, .inl (cA 2, 60, .inl vq)), (qf, .inl (cA 3, 60, .inl (fun i => bz (vf i))))]) [(mo, .inr (3, [.int vc, .ref qp, .ref qh, .ref qk, .ref qb, .int vt, .ref qg, .ref qo, .ref qd, .ref qu, .ref qw, .ref qs, .ref qx, .ref qa, .ref qq, .ref qf])), (qp, .inl (cA 2, 120, .inl vp)), (qh, .inl (cA 3, 1600, .inl (fun i => bz (vh i)))), (qk, .inl (cA 3, 40, .inl (fun i => bz (vk i)))), (qb, .inl (cA 3, 40, .inl (fun i => bz (vb i)))), (qg, .inl (cA 3, 160, .inl (fun i => bz (vg i)))), (qo, .inl (cA 3, 4, .inl (fun i => bz (((f_m_stop vt vo ta).2) i)))), (qd, .inl (cA 2, 4, .inl vd)), (qu, .inl (cA 2, 4, .inl vu)), (qw, .inl (cA 2, 4, .inl vw)), (qs, .inl (cA 2, 4, .inl vs)), (qx, .inl (cA 2, 4, .inl vx)), (qa, .inl (cA 2, 4, .inl va)), (qq, .inl (cA 2, 60, .inl vq)), (qf, .inl (cA 3, 60, .inl (fun i => bz (vf i))))])) 0 0 (aw [(mo, .inr (3, [.int vc, .ref qp, .ref qh, .ref qk, .ref qb, .int vt, .ref qg, .ref qo, .ref qd, .ref qu, .ref qw, .ref qs, .ref qx, .ref qa, .ref qq, .ref qf])), (qp, .inl (cA 2, 120, .inl vp)), (qh, .inl (cA 3, 1600, .inl (fun i => bz (vh i)))), (qk, .inl (cA 3, 40, .inl (fun i => bz (vk i)))), (qb, .inl (cA 3, 40, .inl (fun i => bz (vb i)))), (qg, .inl (cA 3, 160, .inl (fun i => bz (vg i)))), (qo, .inl (cA 3, 4, .inl (fun i => bz (vo i)))), (qd, .inl (cA 2, 4, .inl vd)), (qu, .inl (cA 2, 4, .inl vu)), (qw, .inl (cA 2, 4, .inl vw)), (qs, .inl (cA 2, 4, .inl vs)), (qx, .inl (cA 2, 4, .inl vx)), (qa, .inl (cA 2, 4, .inl va)), (qq, .inl (cA 2, 60, .inl vq)), (qf, .inl (cA 3, 60, .inl (fun i => bz (vf i))))]) := by
  refine ro_in (by decide) (Nat.le_of_ble_eq_true rfl) (fun p e s m below meth c ls FX hnm hK hP hl => ?_)
  have hl : lv_has ls 2 [(0, .ref mo), (1, .int ta)] := hl
  obtain ⟨hP, hD0⟩ := hP
  have hP : va_P D classes [(mo, .inr (3, [.int vc, .ref qp, .ref qh, .ref qk, .ref qb, .int vt, .ref qg, .ref qo, .ref qd, .ref qu, .ref qw, .ref qs, .ref qx, .ref qa, .ref qq, .ref qf])), (qp, .inl (cA 2, 120, .inl vp)), (qh, .inl (cA 3, 1600, .inl (fun i => bz (vh i)))), (qk, .inl (cA 3, 40, .inl (fun i => bz (vk i)))), (qb, .inl (cA 3, 40, .inl (fun i => bz (vb i)))), (qg, .inl (cA 3, 160, .inl (fun i => bz (vg i)))), (qo, .inl (cA 3, 4, .inl (fun i => bz (vo i)))), (qd, .inl (cA 2, 4, .inl vd)), (qu, .inl (cA 2, 4, .inl vu)), (qw, .inl (cA 2, 4, .inl vw)), (qs, .inl (cA 2, 4, .inl vs)), (qx, .inl (cA 2, 4, .inl vx)), (qa, .inl (cA 2, 4, .inl va)), (qq, .inl (cA 2, 60, .inl vq)), (qf, .inl (cA 3, 60, .inl (fun i => bz (vf i))))] s.heap := hP
  have hD : va_D (aw [(mo, .inr (3, [.int vc, .ref qp, .ref qh, .ref qk, .ref qb, .int vt, .ref qg, .ref qo, .ref qd, .ref qu, .ref qw, .ref qs, .ref qx, .ref qa, .ref qq, .ref qf])), (qp, .inl (cA 2, 120, .inl vp)), (qh, .inl (cA 3, 1600, .inl (fun i => bz (vh i)))), (qk, .inl (cA 3, 40, .inl (fun i => bz (vk i)))), (qb, .inl (cA 3, 40, .inl (fun i => bz (vb i)))), (qg, .inl (cA 3, 160, .inl (fun i => bz (vg i)))), (qo, .inl (cA 3, 4, .inl (fun i => bz (vo i)))), (qd, .inl (cA 2, 4, .inl vd)), (qu, .inl (cA 2, 4, .inl vu)), (qw, .inl (cA 2, 4, .inl vw)), (qs, .inl (cA 2, 4, .inl vs)), (qx, .inl (cA 2, 4, .inl vx)), (qa, .inl (cA 2, 4, .inl va)), (qq, .inl (cA 2, 60, .inl vq)), (qf, .inl (cA 3, 60, .inl (fun i => bz (vf i))))]) [(mo, .inr (3, [.int vc, .ref qp, .ref qh, .ref qk, .ref qb, .int vt, .ref qg, .ref qo, .ref qd, .ref qu, .ref qw, .ref qs, .ref qx, .ref qa, .ref qq, .ref qf])), (qp, .inl (cA 2, 120, .inl vp)), (qh, .inl (cA 3, 1600, .inl (fun i => bz (vh i)))), (qk, .inl (cA 3, 40, .inl (fun i => bz (vk i)))), (qb, .inl (cA 3, 40, .inl (fun i => bz (vb i)))), (qg, .inl (cA 3, 160, .inl (fun i => bz (vg i)))), (qo, .inl (cA 3, 4, .inl (fun i => bz (vo i)))), (qd, .inl (cA 2, 4, .inl vd)), (qu, .inl (cA 2, 4, .inl vu)), (qw, .inl (cA 2, 4, .inl vw)), (qs, .inl (cA 2, 4, .inl vs)), (qx, .inl (cA 2, 4, .inl vx)), (qa, .inl (cA 2, 4, .inl va)), (qq, .inl (cA 2, 60, .inl vq)), (qf, .inl (cA 3, 60, .inl (fun i => bz (vf i))))] := aw_self hD0
  generalize (aw [(mo, .inr (3, [.int vc, .ref qp, .ref qh, .ref qk, .ref qb, .int vt, .ref qg, .ref qo, .ref qd, .ref qu, .ref qw, .ref qs, .ref qx, .ref qa, .ref qq, .ref qf])), (qp, .inl (cA 2, 120, .inl vp)), (qh, .inl (cA 3, 1600, .inl (fun i => bz (vh i)))), (qk, .inl (cA 3, 40, .inl (fun i => bz (vk i)))), (qb, .inl (cA 3, 40, .inl (fun i => bz (vb i)))), (qg, .inl (cA 3, 160, .inl (fun i => bz (vg i)))), (qo, .inl (cA 3, 4, .inl (fun i => bz (vo i)))), (qd, .inl (cA 2, 4, .inl vd)), (qu, .inl (cA 2, 4, .inl vu)), (qw, .inl (cA 2, 4, .inl vw)), (qs, .inl (cA 2, 4, .inl vs)), (qx, .inl (cA 2, 4, .inl vx)), (qa, .inl (cA 2, 4, .inl va)), (qq, .inl (cA 2, 60, .inl vq)), (qf, .inl (cA 3, 60, .inl (fun i => bz (vf i))))]) = A at hD ⊢
  have hS : va_S A s.heap s.heap [] := va_S.rf
  generalize ([.ref mo, .int ta] : List Value).toArray = args at FX ⊢
  obtain ⟨hx, hb, hml, hown, hts, hr, hlk⟩ := id FX
  refine lv_aload_n hx hb d_m_stop_0 rfl (lv_at hl 0 rfl) ?_
  refine lv_iload_n hx hb d_m_stop_1 rfl (lv_at hl 1 rfl) ?_
  refine ro_V (v := .int (bz (f_m_isSearch vt vo ta))) (As := [.int ta]) (rest := []) (q0 := 0) FX hK (c_m_isSearch l D cA mo qp qh qk qb qg qo qd qu qw qs qx qa qq qf vc vp vh vk vb vt vg vo vd vu vw vs vx va vq vf ta cn hcn hvc tn htn hvt hva) hP hP rfl rfl rfl kc_m_isSearch km_m_85 ki_m ks_m_isSearch ke_m_isSearch rfl ok_m_isSearch ⟨Nat.le_of_ble_eq_true rfl, Nat.le_of_ble_eq_true rfl⟩ ⟨Nat.zero_le _, Nat.zero_le _⟩ hl.1 rfl (Nat.le_of_ble_eq_true rfl) d_m_stop_2 ?_
  refine lv_if_ne (tgt := 10) hx hb d_m_stop_5 (by decide) (fun c1 => ?_) (fun c1 => ?_)
  · have c1 := bz_t c1
    obtain ⟨tj, htj, htt⟩ := tg_nI htn hvt (se_tg c1)
    refine lv_aload_n hx hb d_m_stop_10 rfl (lv_at hl 0 rfl) ?_
    refine ro_get (v := .ref qo) FX hK hP 0 7 rfl rfl rfl i_m (by decide) kf_m_26 d_m_stop_11 ?_
    refine lv_iload_n hx hb d_m_stop_14 rfl (lv_at hl 1 rfl) ?_
    refine lv_iconst (v := 0) hx hb d_m_stop_15 (by decide) ?_
    refine W.eq (g2 := F0 m 16 ls [.int (bz false), .int ta, .ref qo]) rfl ?_
    refine va_zast (x := bz false) hx hb hK.1 hP hD hS 6 3 rfl rfl (vin htt (by omega) (by decide)) d_m_stop_16 (fun H locs hP hD hS => ?_)
    rw [upd_bz] at hP hD
    have hP : va_P D classes [(mo, .inr (3, [.int vc, .ref qp, .ref qh, .ref qk, .ref qb, .int vt, .ref qg, .ref qo, .ref qd, .ref qu, .ref qw, .ref qs, .ref qx, .ref qa, .ref qq, .ref qf])), (qp, .inl (cA 2, 120, .inl vp)), (qh, .inl (cA 3, 1600, .inl (fun i => bz (vh i)))), (qk, .inl (cA 3, 40, .inl (fun i => bz (vk i)))), (qb, .inl (cA 3, 40, .inl (fun i => bz (vb i)))), (qg, .inl (cA 3, 160, .inl (fun i => bz (vg i)))), (qo, .inl (cA 3, 4, .inl (fun i => bz ((va_up vo ta.toNatClampNeg false) i)))), (qd, .inl (cA 2, 4, .inl vd)), (qu, .inl (cA 2, 4, .inl vu)), (qw, .inl (cA 2, 4, .inl vw)), (qs, .inl (cA 2, 4, .inl vs)), (qx, .inl (cA 2, 4, .inl vx)), (qa, .inl (cA 2, 4, .inl va)), (qq, .inl (cA 2, 60, .inl vq)), (qf, .inl (cA 3, 60, .inl (fun i => bz (vf i))))] H := hP
    have hD : va_D A [(mo, .inr (3, [.int vc, .ref qp, .ref qh, .ref qk, .ref qb, .int vt, .ref qg, .ref qo, .ref qd, .ref qu, .ref qw, .ref qs, .ref qx, .ref qa, .ref qq, .ref qf])), (qp, .inl (cA 2, 120, .inl vp)), (qh, .inl (cA 3, 1600, .inl (fun i => bz (vh i)))), (qk, .inl (cA 3, 40, .inl (fun i => bz (vk i)))), (qb, .inl (cA 3, 40, .inl (fun i => bz (vb i)))), (qg, .inl (cA 3, 160, .inl (fun i => bz (vg i)))), (qo, .inl (cA 3, 4, .inl (fun i => bz ((va_up vo ta.toNatClampNeg false) i)))), (qd, .inl (cA 2, 4, .inl vd)), (qu, .inl (cA 2, 4, .inl vu)), (qw, .inl (cA 2, 4, .inl vw)), (qs, .inl (cA 2, 4, .inl vs)), (qx, .inl (cA 2, 4, .inl vx)), (qa, .inl (cA 2, 4, .inl va)), (qq, .inl (cA 2, 60, .inl vq)), (qf, .inl (cA 3, 60, .inl (fun i => bz (vf i))))] := hD
    refine lv_iconst (v := 1) hx hb d_m_stop_17 (by decide) ?_
    exact mu_zret true rfl FX hS (by rw [show (f_m_stop vt vo ta) = (true, va_up vo ta.toNatClampNeg false) from (by rw [f_m_stop, if_pos c1])]; exact ⟨rfl, hP, hD⟩) d_m_stop_18
  · have c1 := bz_f c1
    refine lv_iconst (v := 0) hx hb d_m_stop_8 (by decide) ?_
    exact mu_zret false rfl FX hS (by rw [show (f_m_stop vt vo ta) = (false, vo) from (by rw [f_m_stop, if_neg c1])]; exact ⟨rfl, hP, hD⟩) d_m_stop_9
theorem d_m_begin_0 : decode b_m_begin 0 = .ok (.aload_n 0, 1) := by decide +kernel
theorem d_m_begin_1 : decode b_m_begin 1 = .ok (.iload_n 1, 1) := by decide +kernel
theorem d_m_begin_2 : decode b_m_begin 2 = .ok (.invokevirtual 64, 3) := by decide +kernel
theorem d_m_begin_5 : decode b_m_begin 5 = .ok (.ifCond .eq 46, 3) := by decide +kernel
theorem d_m_begin_8 : decode b_m_begin 8 = .ok (.aload_n 0, 1) := by decide +kernel
theorem d_m_begin_9 : decode b_m_begin 9 = .ok (.iload_n 2, 1) := by decide +kernel
theorem d_m_begin_10 : decode b_m_begin 10 = .ok (.invokevirtual 68, 3) := by decide +kernel
theorem d_m_begin_13 : decode b_m_begin 13 = .ok (.ifCond .eq 38, 3) := by decide +kernel
theorem d_m_begin_16 : decode b_m_begin 16 = .ok (.iload 4, 2) := by decide +kernel
theorem d_m_begin_18 : decode b_m_begin 18 = .ok (.iconst 1, 1) := by decide +kernel
theorem d_m_begin_19 : decode b_m_begin 19 = .ok (.bipush 9, 2) := by decide +kernel
theorem d_m_begin_21 : decode b_m_begin 21 = .ok (.invokestatic 57, 3) := by decide +kernel
theorem d_m_begin_24 : decode b_m_begin 24 = .ok (.ifCond .eq 27, 3) := by decide +kernel
theorem d_m_begin_27 : decode b_m_begin 27 = .ok (.iload_n 3, 1) := by decide +kernel
theorem d_m_begin_28 : decode b_m_begin 28 = .ok (.iconst 0, 1) := by decide +kernel
theorem d_m_begin_29 : decode b_m_begin 29 = .ok (.iload 4, 2) := by decide +kernel
theorem d_m_begin_31 : decode b_m_begin 31 = .ok (.iconst 1, 1) := by decide +kernel
theorem d_m_begin_32 : decode b_m_begin 32 = .ok (.isub, 1) := by decide +kernel
theorem d_m_begin_33 : decode b_m_begin 33 = .ok (.invokestatic 57, 3) := by decide +kernel
theorem d_m_begin_36 : decode b_m_begin 36 = .ok (.ifCond .eq 15, 3) := by decide +kernel
theorem d_m_begin_39 : decode b_m_begin 39 = .ok (.iload 5, 2) := by decide +kernel
theorem d_m_begin_41 : decode b_m_begin 41 = .ok (.bipush 51, 2) := by decide +kernel
theorem d_m_begin_43 : decode b_m_begin 43 = .ok (.bipush 100, 2) := by decide +kernel
theorem d_m_begin_45 : decode b_m_begin 45 = .ok (.invokestatic 57, 3) := by decide +kernel
theorem d_m_begin_48 : decode b_m_begin 48 = .ok (.ifCond .ne 5, 3) := by decide +kernel
theorem d_m_begin_51 : decode b_m_begin 51 = .ok (.iconst (-1), 1) := by decide +kernel
theorem d_m_begin_52 : decode b_m_begin 52 = .ok (.ireturn, 1) := by decide +kernel
theorem d_m_begin_53 : decode b_m_begin 53 = .ok (.aload_n 0, 1) := by decide +kernel
theorem d_m_begin_54 : decode b_m_begin 54 = .ok (.iload_n 1, 1) := by decide +kernel
theorem d_m_begin_55 : decode b_m_begin 55 = .ok (.iload_n 2, 1) := by decide +kernel
theorem d_m_begin_56 : decode b_m_begin 56 = .ok (.invokevirtual 78, 3) := by decide +kernel
theorem d_m_begin_59 : decode b_m_begin 59 = .ok (.ifCond .eq 6, 3) := by decide +kernel
theorem d_m_begin_62 : decode b_m_begin 62 = .ok (.bipush (-2), 2) := by decide +kernel
theorem d_m_begin_64 : decode b_m_begin 64 = .ok (.ireturn, 1) := by decide +kernel
theorem d_m_begin_65 : decode b_m_begin 65 = .ok (.aload_n 0, 1) := by decide +kernel
theorem d_m_begin_66 : decode b_m_begin 66 = .ok (.getfield 26, 3) := by decide +kernel
theorem d_m_begin_69 : decode b_m_begin 69 = .ok (.iload_n 1, 1) := by decide +kernel
theorem d_m_begin_70 : decode b_m_begin 70 = .ok (.iconst 1, 1) := by decide +kernel
theorem d_m_begin_71 : decode b_m_begin 71 = .ok (.bastore, 1) := by decide +kernel
theorem d_m_begin_72 : decode b_m_begin 72 = .ok (.aload_n 0, 1) := by decide +kernel
theorem d_m_begin_73 : decode b_m_begin 73 = .ok (.getfield 29, 3) := by decide +kernel
theorem d_m_begin_76 : decode b_m_begin 76 = .ok (.iload_n 1, 1) := by decide +kernel
theorem d_m_begin_77 : decode b_m_begin 77 = .ok (.iload_n 2, 1) := by decide +kernel
theorem d_m_begin_78 : decode b_m_begin 78 = .ok (.iastore, 1) := by decide +kernel
theorem d_m_begin_79 : decode b_m_begin 79 = .ok (.aload_n 0, 1) := by decide +kernel
theorem d_m_begin_80 : decode b_m_begin 80 = .ok (.getfield 32, 3) := by decide +kernel
theorem d_m_begin_83 : decode b_m_begin 83 = .ok (.iload_n 1, 1) := by decide +kernel
theorem d_m_begin_84 : decode b_m_begin 84 = .ok (.iload_n 3, 1) := by decide +kernel
theorem d_m_begin_85 : decode b_m_begin 85 = .ok (.iastore, 1) := by decide +kernel
theorem d_m_begin_86 : decode b_m_begin 86 = .ok (.aload_n 0, 1) := by decide +kernel
theorem d_m_begin_87 : decode b_m_begin 87 = .ok (.getfield 35, 3) := by decide +kernel
theorem d_m_begin_90 : decode b_m_begin 90 = .ok (.iload_n 1, 1) := by decide +kernel
theorem d_m_begin_91 : decode b_m_begin 91 = .ok (.iload 4, 2) := by decide +kernel
theorem d_m_begin_93 : decode b_m_begin 93 = .ok (.iastore, 1) := by decide +kernel
theorem d_m_begin_94 : decode b_m_begin 94 = .ok (.aload_n 0, 1) := by decide +kernel
theorem d_m_begin_95 : decode b_m_begin 95 = .ok (.getfield 38, 3) := by decide +kernel
theorem d_m_begin_98 : decode b_m_begin 98 = .ok (.iload_n 1, 1) := by decide +kernel
theorem d_m_begin_99 : decode b_m_begin 99 = .ok (.iload 5, 2) := by decide +kernel
theorem d_m_begin_101 : decode b_m_begin 101 = .ok (.iastore, 1) := by decide +kernel
theorem d_m_begin_102 : decode b_m_begin 102 = .ok (.aload_n 0, 1) := by decide +kernel
theorem d_m_begin_103 : decode b_m_begin 103 = .ok (.getfield 44, 3) := by decide +kernel
theorem d_m_begin_106 : decode b_m_begin 106 = .ok (.iload_n 1, 1) := by decide +kernel
theorem d_m_begin_107 : decode b_m_begin 107 = .ok (.iconst 0, 1) := by decide +kernel
theorem d_m_begin_108 : decode b_m_begin 108 = .ok (.iastore, 1) := by decide +kernel
theorem d_m_begin_109 : decode b_m_begin 109 = .ok (.iconst 0, 1) := by decide +kernel
theorem d_m_begin_110 : decode b_m_begin 110 = .ok (.istore 6, 2) := by decide +kernel
theorem d_m_begin_112 : decode b_m_begin 112 = .ok (.iconst 0, 1) := by decide +kernel
theorem d_m_begin_113 : decode b_m_begin 113 = .ok (.istore 7, 2) := by decide +kernel
theorem d_m_begin_115 : decode b_m_begin 115 = .ok (.iload 7, 2) := by decide +kernel
theorem d_m_begin_117 : decode b_m_begin 117 = .ok (.aload_n 0, 1) := by decide +kernel
theorem d_m_begin_118 : decode b_m_begin 118 = .ok (.getfield 53, 3) := by decide +kernel
theorem d_m_begin_121 : decode b_m_begin 121 = .ok (.if_icmp .ge 31, 3) := by decide +kernel
theorem d_m_begin_124 : decode b_m_begin 124 = .ok (.iload 6, 2) := by decide +kernel
theorem d_m_begin_126 : decode b_m_begin 126 = .ok (.aload_n 0, 1) := by decide +kernel
theorem d_m_begin_127 : decode b_m_begin 127 = .ok (.iload_n 1, 1) := by decide +kernel
theorem d_m_begin_128 : decode b_m_begin 128 = .ok (.iload 7, 2) := by decide +kernel
theorem d_m_begin_130 : decode b_m_begin 130 = .ok (.invokevirtual 81, 3) := by decide +kernel
theorem d_m_begin_133 : decode b_m_begin 133 = .ok (.lconst 0, 1) := by decide +kernel
theorem d_m_begin_134 : decode b_m_begin 134 = .ok (.lcmp, 1) := by decide +kernel
theorem d_m_begin_135 : decode b_m_begin 135 = .ok (.ifCond .le 7, 3) := by decide +kernel
theorem d_m_begin_138 : decode b_m_begin 138 = .ok (.iconst 1, 1) := by decide +kernel
theorem d_m_begin_139 : decode b_m_begin 139 = .ok (.goto 4, 3) := by decide +kernel
theorem d_m_begin_142 : decode b_m_begin 142 = .ok (.iconst 0, 1) := by decide +kernel
theorem d_m_begin_143 : decode b_m_begin 143 = .ok (.iadd, 1) := by decide +kernel
theorem d_m_begin_144 : decode b_m_begin 144 = .ok (.istore 6, 2) := by decide +kernel
theorem d_m_begin_146 : decode b_m_begin 146 = .ok (.iinc 7 1, 3) := by decide +kernel
theorem d_m_begin_149 : decode b_m_begin 149 = .ok (.goto (-34), 3) := by decide +kernel
theorem d_m_begin_152 : decode b_m_begin 152 = .ok (.iload 6, 2) := by decide +kernel
theorem d_m_begin_154 : decode b_m_begin 154 = .ok (.ireturn, 1) := by decide +kernel
def L_m_begin_115 (vc : Int32) (vh : Nat → Bool) (vt : Int32) (vg : Nat → Bool) (vo : Nat → Bool) (vd : Nat → Int32) (vu : Nat → Int32) (vw : Nat → Int32) (vs : Nat → Int32) (va : Nat → Int32) (vq : Nat → Int32) (vf : Nat → Bool) (ta : Int32) (zb : Int32) (zp : Int32) (zq : Int32) (zu : Int32) : Nat → Int32 → Int32 → Int32 × (Nat → Bool) × (Nat → Int32) × (Nat → Int32) × (Nat → Int32) × (Nat → Int32) × (Nat → Int32)
  | 0, _, _ => (0, vo, vd, vu, vw, vs, va)
  | n + 1, mn, xi => if vc ≤ xi then
    ((mn, va_up vo ta.toNatClampNeg true, upd vd ta.toNatClampNeg zb, upd vu ta.toNatClampNeg zp, upd vw ta.toNatClampNeg zq, upd vs ta.toNatClampNeg zu, upd va ta.toNatClampNeg 0))
  else
    (if 0 < (f_m_weight vc vh vt vg (va_up vo ta.toNatClampNeg true) (upd vd ta.toNatClampNeg zb) (upd vu ta.toNatClampNeg zp) (upd vw ta.toNatClampNeg zq) (upd va ta.toNatClampNeg 0) vq vf ta xi) then
      (L_m_begin_115 vc vh vt vg vo vd vu vw vs va vq vf ta zb zp zq zu n (mn + 1) (xi + 1))
    else
      (L_m_begin_115 vc vh vt vg vo vd vu vw vs va vq vf ta zb zp zq zu n (mn + 0) (xi + 1)))
theorem L_m_begin_115_s (vc : Int32) (vh : Nat → Bool) (vt : Int32) (vg : Nat → Bool) (vo : Nat → Bool) (vd : Nat → Int32) (vu : Nat → Int32) (vw : Nat → Int32) (vs : Nat → Int32) (va : Nat → Int32) (vq : Nat → Int32) (vf : Nat → Bool) (ta : Int32) (zb : Int32) (zp : Int32) (zq : Int32) (zu : Int32) (n : Nat) (mn : Int32) (xi : Int32) : L_m_begin_115 vc vh vt vg vo vd vu vw vs va vq vf ta zb zp zq zu (n + 1) mn xi = if vc ≤ xi then
    ((mn, va_up vo ta.toNatClampNeg true, upd vd ta.toNatClampNeg zb, upd vu ta.toNatClampNeg zp, upd vw ta.toNatClampNeg zq, upd vs ta.toNatClampNeg zu, upd va ta.toNatClampNeg 0))
  else
    (if 0 < (f_m_weight vc vh vt vg (va_up vo ta.toNatClampNeg true) (upd vd ta.toNatClampNeg zb) (upd vu ta.toNatClampNeg zp) (upd vw ta.toNatClampNeg zq) (upd va ta.toNatClampNeg 0) vq vf ta xi) then
      (L_m_begin_115 vc vh vt vg vo vd vu vw vs va vq vf ta zb zp zq zu n (mn + 1) (xi + 1))
    else
      (L_m_begin_115 vc vh vt vg vo vd vu vw vs va vq vf ta zb zp zq zu n (mn + 0) (xi + 1))) := rfl
def f_m_begin (vc : Int32) (vh : Nat → Bool) (vt : Int32) (vg : Nat → Bool) (vo : Nat → Bool) (vd : Nat → Int32) (vu : Nat → Int32) (vw : Nat → Int32) (vs : Nat → Int32) (va : Nat → Int32) (vq : Nat → Int32) (vf : Nat → Bool) (ta : Int32) (zb : Int32) (zp : Int32) (zq : Int32) (zu : Int32) : Int32 × (Nat → Bool) × (Nat → Int32) × (Nat → Int32) × (Nat → Int32) × (Nat → Int32) × (Nat → Int32) := if (f_m_isTarget vt ta) = true then
    (if (f_m_isChange vc zb) = true then
      (if (f_m_in zq 1 9) = true then
        (if (f_m_in zp 0 (zq - 1)) = true then
          (if (f_m_in zu 51 100) = true then
            (if (f_m_isGood vc vh vg ta zb) = true then
              (((-2), vo, vd, vu, vw, vs, va))
            else
              (L_m_begin_115 vc vh vt vg vo vd vu vw vs va vq vf ta zb zp zq zu 41 0 0))
          else
            (((-1), vo, vd, vu, vw, vs, va)))
        else
          (((-1), vo, vd, vu, vw, vs, va)))
      else
        (((-1), vo, vd, vu, vw, vs, va)))
    else
      (((-1), vo, vd, vu, vw, vs, va)))
  else
    (((-1), vo, vd, vu, vw, vs, va))
set_option maxHeartbeats 4000000 in
set_option maxRecDepth 100000 in
theorem c_m_begin (l : Launch) (D : va_G) (cA : Nat → ClassId) (mo qp qh qk qb qg qo qd qu qw qs qx qa qq qf : Nat) (vc : Int32) (vp : Nat → Int32) (vh : Nat → Bool) (vk : Nat → Bool) (vb : Nat → Bool) (vt : Int32) (vg : Nat → Bool) (vo : Nat → Bool) (vd : Nat → Int32) (vu : Nat → Int32) (vw : Nat → Int32) (vs : Nat → Int32) (vx : Nat → Int32) (va : Nat → Int32) (vq : Nat → Int32) (vf : Nat → Bool) (ta : Int32) (zb : Int32) (zp : Int32) (zq : Int32) (zu : Int32) (cn : Nat) (hcn : cn ≤ 40) (hvc : vc = nI cn) (tn : Nat) (htn : tn ≤ 4) (hvt : vt = nI tn) (hva : ∀ i, i < 4 → ∃ a, a ≤ 15 ∧ va i = nI a) : Met l y_m_begin (.code y_m_begin b_m_begin 8 (some .int) :: tb) (rmd 5) (Pro D cA [.ref mo, .int ta, .int zb, .int zp, .int zq, .int zu] (fun H0 => va_P D classes [(mo, .inr (3, [.int vc, .ref qp, .ref qh, .ref qk, .ref qb, .int vt, .ref qg, .ref qo, .ref qd, .ref qu, .ref qw, .ref qs, .ref qx, .ref qa, .ref qq, .ref qf])), (qp, .inl (cA 2, 120, .inl vp)), (qh, .inl (cA 3, 1600, .inl (fun i => bz (vh i)))), (qk, .inl (cA 3, 40, .inl (fun i => bz (vk i)))), (qb, .inl (cA 3, 40, .inl (fun i => bz (vb i)))), (qg, .inl (cA 3, 160, .inl (fun i => bz (vg i)))), (qo, .inl (cA 3, 4, .inl (fun i => bz (vo i)))), (qd, .inl (cA 2, 4, .inl vd)), (qu, .inl (cA 2, 4, .inl vu)), (qw, .inl (cA 2, 4, .inl vw)), (qs, .inl (cA 2, 4, .inl vs)), (qx, .inl (cA 2, 4, .inl vx)), (qa, .inl (cA 2, 4, .inl va)), (qq, .inl (cA 2, 60, .inl vq)), (qf, .inl (cA 3, 60, .inl (fun i => bz (vf i))))] H0 ∧ va_D (fun _ => True) [(mo, .inr (3, [.int vc, .ref qp, .ref qh, .ref qk, .ref qb, .int vt, .ref qg, .ref qo, .ref qd, .ref qu, .ref qw, .ref qs, .ref qx, .ref qa, .ref qq, .ref qf])), (qp, .inl (cA 2, 120, .inl vp)), (qh, .inl (cA 3, 1600, .inl (fun i => bz (vh i)))), (qk, .inl (cA 3, 40, .inl (fun i => bz (vk i)))), (qb, .inl (cA 3, 40, .inl (fun i => bz (vb i)))), (qg, .inl (cA 3, 160, .inl (fun i => bz (vg i)))), (qo, .inl (cA 3, 4, .inl (fun i => bz (vo i)))), (qd, .inl (cA 2, 4, .inl vd)), (qu, .inl (cA 2, 4, .inl vu)), (qw, .inl (cA 2, 4, .inl vw)), (qs, .inl (cA 2, 4, .inl vs)), (qx, .inl (cA 2, 4, .inl vx)), (qa, .inl (cA 2, 4, .inl va)), (qq, .inl (cA 2, 60, .inl vq)), (qf, .inl (cA 3, 60, .inl (fun i => bz (vf i))))])) (Qmu (aw [(mo, .inr (3, [.int vc, .ref qp, .ref qh, .ref qk, .ref qb, .int vt, .ref qg, .ref qo, .ref qd, .ref qu, .ref qw, .ref qs, .ref qx, .ref qa, .ref qq, .ref qf])), (qp, .inl (cA 2, 120, .inl vp)), (qh, .inl (cA 3, 1600, .inl (fun i => bz (vh i)))), (qk, .inl (cA 3, 40, .inl (fun i => bz (vk i)))), (qb, .inl (cA 3, 40, .inl (fun i => bz (vb i)))), (qg, .inl (cA 3, 160, .inl (fun i => bz (vg i)))), (qo, .inl (cA 3, 4, .inl (fun i => bz (vo i)))), (qd, .inl (cA 2, 4, .inl vd)), (qu, .inl (cA 2, 4, .inl vu)), (qw, .inl (cA 2, 4, .inl vw)), (qs, .inl (cA 2, 4, .inl vs)), (qx, .inl (cA 2, 4, .inl vx)), (qa, .inl (cA 2, 4, .inl va)), (qq, .inl (cA 2, 60, .inl vq)), (qf, .inl (cA 3, 60, .inl (fun i => bz (vf i))))]) (fun v0 H0 => v0 = some (.int ((f_m_begin vc vh vt vg vo vd vu vw vs va vq vf ta zb zp zq zu).1)) ∧ va_P D classes [(mo, .inr (3, [.int vc, .ref qp, .ref qh, .ref qk, .ref qb, .int vt, .ref qg, .ref qo, .ref qd, .ref qu, .ref qw, .ref qs, .ref qx, .ref qa, .ref qq, .ref qf])), (qp, .inl (cA 2, 120, .inl vp)), (qh, .inl (cA 3, 1600, .inl (fun i => bz (vh i)))), (qk, .inl (cA 3, 40, .inl (fun i => bz (vk i)))), (qb, .inl (cA 3, 40, .inl (fun i => bz (vb i)))), (qg, .inl (cA 3, 160, .inl (fun i => bz (vg i)))), (qo, .inl (cA 3, 4, .inl (fun i => bz (((f_m_begin vc vh vt vg vo vd vu vw vs va vq vf ta zb zp zq zu).2.1) i)))), (qd, .inl (cA 2, 4, .inl ((f_m_begin vc vh vt vg vo vd vu vw vs va vq vf ta zb zp zq zu).2.2.1))), (qu, .inl (cA 2, 4, .inl ((f_m_begin vc vh vt vg vo vd vu vw vs va vq vf ta zb zp zq zu).2.2.2.1))), (qw, .inl (cA 2, 4, .inl ((f_m_begin vc vh vt vg vo vd vu vw vs va vq vf ta zb zp zq zu).2.2.2.2.1))), (qs, .inl (cA 2, 4, .inl ((f_m_begin vc vh vt vg vo vd vu vw vs va vq vf ta zb zp zq zu).2.2.2.2.2.1))), (qx, .inl (cA 2, 4, .inl vx)), (qa, .inl (cA 2, 4, .inl ((f_m_begin vc vh vt vg vo vd vu vw vs va vq vf ta zb zp zq zu).2.2.2.2.2.2))), (qq, .inl (cA 2, 60, .inl vq)), (qf, .inl (cA 3, 60, .inl (fun i => bz (vf i))))] H0 ∧ va_D (aw [(mo, .inr (3, [.int vc, .ref qp, .ref qh, .ref qk, .ref qb, .int vt, .ref qg, .ref qo, .ref qd, .ref qu, .ref qw, .ref qs, .ref qx, .ref qa, .ref qq, .ref qf])), (qp, .inl (cA 2, 120, .inl vp)), (qh, .inl (cA 3, 1600, .inl (fun i => bz (vh i)))), (qk, .inl (cA 3, 40, .inl (fun i => bz (vk i)))), (qb, .inl (cA 3, 40, .inl (fun i => bz (vb i)))), (qg, .inl (cA 3, 160, .inl (fun i => bz (vg i)))), (qo, .inl (cA 3, 4, .inl (fun i => bz (vo i)))), (qd, .inl (cA 2, 4, .inl vd)), (qu, .inl (cA 2, 4, .inl vu)), (qw, .inl (cA 2, 4, .inl vw)), (qs, .inl (cA 2, 4, .inl vs)), (qx, .inl (cA 2, 4, .inl vx)), (qa, .inl (cA 2, 4, .inl va)), (qq, .inl (cA 2, 60, .inl vq)), (qf, .inl (cA 3, 60, .inl (fun i => bz (vf i))))]) [(mo, .inr (3, [.int vc, .ref qp, .ref qh, .ref qk, .ref qb, .int vt, .ref qg, .ref qo, .ref qd, .ref qu, .ref qw, .ref qs, .ref qx, .ref qa, .ref qq, .ref qf])), (qp, .inl (cA 2, 120, .inl vp)), (qh, .inl (cA 3, 1600, .inl (fun i => bz (vh i)))), (qk, .inl (cA 3, 40, .inl (fun i => bz (vk i)))), (qb, .inl (cA 3, 40, .inl (fun i => bz (vb i)))), (qg, .inl (cA 3, 160, .inl (fun i => bz (vg i)))), (qo, .inl (cA 3, 4, .inl (fun i => bz (((f_m_begin vc vh vt vg vo vd vu vw vs va vq vf ta zb zp zq zu).2.1) i)))), (qd, .inl (cA 2, 4, .inl ((f_m_begin vc vh vt vg vo vd vu vw vs va vq vf ta zb zp zq zu).2.2.1))), (qu, .inl (cA 2, 4, .inl ((f_m_begin vc vh vt vg vo vd vu vw vs va vq vf ta zb zp zq zu).2.2.2.1))), (qw, .inl (cA 2, 4, .inl ((f_m_begin vc vh vt vg vo vd vu vw vs va vq vf ta zb zp zq zu).2.2.2.2.1))), (qs, .inl (cA 2, 4, .inl ((f_m_begin vc vh vt vg vo vd vu vw vs va vq vf ta zb zp zq zu).2.2.2.2.2.1))), (qx, .inl (cA 2, 4, .inl vx)), (qa, .inl (cA 2, 4, .inl ((f_m_begin vc vh vt vg vo vd vu vw vs va vq vf ta zb zp zq zu).2.2.2.2.2.2))), (qq, .inl (cA 2, 60, .inl vq)), (qf, .inl (cA 3, 60, .inl (fun i => bz (vf i))))])) 0 0 (aw [(mo, .inr (3, [.int vc, .ref qp, .ref qh, .ref qk, .ref qb, .int vt, .ref qg, .ref qo, .ref qd, .ref qu, .ref qw, .ref qs, .ref qx, .ref qa, .ref qq, .ref qf])), (qp, .inl (cA 2, 120, .inl vp)), (qh, .inl (cA 3, 1600, .inl (fun i => bz (vh i)))), (qk, .inl (cA 3, 40, .inl (fun i => bz (vk i)))), (qb, .inl (cA 3, 40, .inl (fun i => bz (vb i)))), (qg, .inl (cA 3, 160, .inl (fun i => bz (vg i)))), (qo, .inl (cA 3, 4, .inl (fun i => bz (vo i)))), (qd, .inl (cA 2, 4, .inl vd)), (qu, .inl (cA 2, 4, .inl vu)), (qw, .inl (cA 2, 4, .inl vw)), (qs, .inl (cA 2, 4, .inl vs)), (qx, .inl (cA 2, 4, .inl vx)), (qa, .inl (cA 2, 4, .inl va)), (qq, .inl (cA 2, 60, .inl vq)), (qf, .inl (cA 3, 60, .inl (fun i => bz (vf i))))]) := by
  refine ro_in (by decide) (Nat.le_of_ble_eq_true rfl) (fun p e s m below meth c ls FX hnm hK hP hl => ?_)
  have hl : lv_has ls 8 [(0, .ref mo), (1, .int ta), (2, .int zb), (3, .int zp), (4, .int zq), (5, .int zu)] := hl
  obtain ⟨hP, hD0⟩ := hP
  have hP : va_P D classes [(mo, .inr (3, [.int vc, .ref qp, .ref qh, .ref qk, .ref qb, .int vt, .ref qg, .ref qo, .ref qd, .ref qu, .ref qw, .ref qs, .ref qx, .ref qa, .ref qq, .ref qf])), (qp, .inl (cA 2, 120, .inl vp)), (qh, .inl (cA 3, 1600, .inl (fun i => bz (vh i)))), (qk, .inl (cA 3, 40, .inl (fun i => bz (vk i)))), (qb, .inl (cA 3, 40, .inl (fun i => bz (vb i)))), (qg, .inl (cA 3, 160, .inl (fun i => bz (vg i)))), (qo, .inl (cA 3, 4, .inl (fun i => bz (vo i)))), (qd, .inl (cA 2, 4, .inl vd)), (qu, .inl (cA 2, 4, .inl vu)), (qw, .inl (cA 2, 4, .inl vw)), (qs, .inl (cA 2, 4, .inl vs)), (qx, .inl (cA 2, 4, .inl vx)), (qa, .inl (cA 2, 4, .inl va)), (qq, .inl (cA 2, 60, .inl vq)), (qf, .inl (cA 3, 60, .inl (fun i => bz (vf i))))] s.heap := hP
  have hD : va_D (aw [(mo, .inr (3, [.int vc, .ref qp, .ref qh, .ref qk, .ref qb, .int vt, .ref qg, .ref qo, .ref qd, .ref qu, .ref qw, .ref qs, .ref qx, .ref qa, .ref qq, .ref qf])), (qp, .inl (cA 2, 120, .inl vp)), (qh, .inl (cA 3, 1600, .inl (fun i => bz (vh i)))), (qk, .inl (cA 3, 40, .inl (fun i => bz (vk i)))), (qb, .inl (cA 3, 40, .inl (fun i => bz (vb i)))), (qg, .inl (cA 3, 160, .inl (fun i => bz (vg i)))), (qo, .inl (cA 3, 4, .inl (fun i => bz (vo i)))), (qd, .inl (cA 2, 4, .inl vd)), (qu, .inl (cA 2, 4, .inl vu)), (qw, .inl (cA 2, 4, .inl vw)), (qs, .inl (cA 2, 4, .inl vs)), (qx, .inl (cA 2, 4, .inl vx)), (qa, .inl (cA 2, 4, .inl va)), (qq, .inl (cA 2, 60, .inl vq)), (qf, .inl (cA 3, 60, .inl (fun i => bz (vf i))))]) [(mo, .inr (3, [.int vc, .ref qp, .ref qh, .ref qk, .ref qb, .int vt, .ref qg, .ref qo, .ref qd, .ref qu, .ref qw, .ref qs, .ref qx, .ref qa, .ref qq, .ref qf])), (qp, .inl (cA 2, 120, .inl vp)), (qh, .inl (cA 3, 1600, .inl (fun i => bz (vh i)))), (qk, .inl (cA 3, 40, .inl (fun i => bz (vk i)))), (qb, .inl (cA 3, 40, .inl (fun i => bz (vb i)))), (qg, .inl (cA 3, 160, .inl (fun i => bz (vg i)))), (qo, .inl (cA 3, 4, .inl (fun i => bz (vo i)))), (qd, .inl (cA 2, 4, .inl vd)), (qu, .inl (cA 2, 4, .inl vu)), (qw, .inl (cA 2, 4, .inl vw)), (qs, .inl (cA 2, 4, .inl vs)), (qx, .inl (cA 2, 4, .inl vx)), (qa, .inl (cA 2, 4, .inl va)), (qq, .inl (cA 2, 60, .inl vq)), (qf, .inl (cA 3, 60, .inl (fun i => bz (vf i))))] := aw_self hD0
  generalize (aw [(mo, .inr (3, [.int vc, .ref qp, .ref qh, .ref qk, .ref qb, .int vt, .ref qg, .ref qo, .ref qd, .ref qu, .ref qw, .ref qs, .ref qx, .ref qa, .ref qq, .ref qf])), (qp, .inl (cA 2, 120, .inl vp)), (qh, .inl (cA 3, 1600, .inl (fun i => bz (vh i)))), (qk, .inl (cA 3, 40, .inl (fun i => bz (vk i)))), (qb, .inl (cA 3, 40, .inl (fun i => bz (vb i)))), (qg, .inl (cA 3, 160, .inl (fun i => bz (vg i)))), (qo, .inl (cA 3, 4, .inl (fun i => bz (vo i)))), (qd, .inl (cA 2, 4, .inl vd)), (qu, .inl (cA 2, 4, .inl vu)), (qw, .inl (cA 2, 4, .inl vw)), (qs, .inl (cA 2, 4, .inl vs)), (qx, .inl (cA 2, 4, .inl vx)), (qa, .inl (cA 2, 4, .inl va)), (qq, .inl (cA 2, 60, .inl vq)), (qf, .inl (cA 3, 60, .inl (fun i => bz (vf i))))]) = A at hD ⊢
  have hS : va_S A s.heap s.heap [] := va_S.rf
  generalize ([.ref mo, .int ta, .int zb, .int zp, .int zq, .int zu] : List Value).toArray = args at FX ⊢
  obtain ⟨hx, hb, hml, hown, hts, hr, hlk⟩ := id FX
  refine lv_aload_n hx hb d_m_begin_0 rfl (lv_at hl 0 rfl) ?_
  refine lv_iload_n hx hb d_m_begin_1 rfl (lv_at hl 1 rfl) ?_
  refine ro_V (v := .int (bz (f_m_isTarget vt ta))) (As := [.int ta]) (rest := []) (q0 := 0) FX hK (c_m_isTarget l D cA mo qp qh qk qb qg qo qd qu qw qs qx qa qq qf vc vp vh vk vb vt vg vo vd vu vw vs vx va vq vf ta) hP hP rfl rfl rfl kc_m_isTarget km_m_64 ki_m ks_m_isTarget ke_m_isTarget rfl ok_m_isTarget ⟨Nat.le_of_ble_eq_true rfl, Nat.le_of_ble_eq_true rfl⟩ ⟨Nat.zero_le _, Nat.zero_le _⟩ hl.1 rfl (Nat.le_of_ble_eq_true rfl) d_m_begin_2 ?_
  refine lv_if_eq (tgt := 51) hx hb d_m_begin_5 (by decide) (fun c1 => ?_) (fun c1 => ?_)
  · have c1 := bz_f c1
    refine lv_iconst (v := (-1)) hx hb d_m_begin_51 (by decide) ?_
    exact mu_iret FX hS (by rw [show (f_m_begin vc vh vt vg vo vd vu vw vs va vq vf ta zb zp zq zu) = ((-1), vo, vd, vu, vw, vs, va) from (by rw [f_m_begin, if_neg c1])]; exact ⟨rfl, hP, hD⟩) d_m_begin_52
  · have c1 := bz_t c1
    obtain ⟨tj, htj, htt⟩ := tg_nI htn hvt c1
    refine lv_aload_n hx hb d_m_begin_8 rfl (lv_at hl 0 rfl) ?_
    refine lv_iload_n hx hb d_m_begin_9 rfl (lv_at hl 2 rfl) ?_
    refine ro_V (v := .int (bz (f_m_isChange vc zb))) (As := [.int zb]) (rest := []) (q0 := 0) FX hK (c_m_isChange l D cA mo qp qh qk qb qg qo qd qu qw qs qx qa qq qf vc vp vh vk vb vt vg vo vd vu vw vs vx va vq vf zb) hP hP rfl rfl rfl kc_m_isChange km_m_68 ki_m ks_m_isChange ke_m_isChange rfl ok_m_isChange ⟨Nat.le_of_ble_eq_true rfl, Nat.le_of_ble_eq_true rfl⟩ ⟨Nat.zero_le _, Nat.zero_le _⟩ hl.1 rfl (Nat.le_of_ble_eq_true rfl) d_m_begin_10 ?_
    refine lv_if_eq (tgt := 51) hx hb d_m_begin_13 (by decide) (fun c2 => ?_) (fun c2 => ?_)
    · have c2 := bz_f c2
      refine lv_iconst (v := (-1)) hx hb d_m_begin_51 (by decide) ?_
      exact mu_iret FX hS (by rw [show (f_m_begin vc vh vt vg vo vd vu vw vs va vq vf ta zb zp zq zu) = ((-1), vo, vd, vu, vw, vs, va) from (by rw [f_m_begin, if_pos c1, if_neg c2])]; exact ⟨rfl, hP, hD⟩) d_m_begin_52
    · have c2 := bz_t c2
      refine lv_iload hx hb d_m_begin_16 (lv_at hl 4 rfl) ?_
      refine lv_iconst (v := 1) hx hb d_m_begin_18 (by decide) ?_
      refine lv_bipush (v := 9) hx hb d_m_begin_19 (by decide) ?_
      refine ro_S (v := .int (bz (f_m_in zq 1 9))) (As := [.int zq, .int 1, .int 9]) (rest := []) FX hK (c_m_in l D cA zq 1 9) trivial kc_m_in km_m_57 ki_m ks_m_in rfl ok_m_in ⟨Nat.le_of_ble_eq_true rfl, Nat.le_of_ble_eq_true rfl⟩ ⟨Nat.zero_le _, Nat.zero_le _⟩ hl.1 rfl (Nat.le_of_ble_eq_true rfl) d_m_begin_21 ?_
      refine lv_if_eq (tgt := 51) hx hb d_m_begin_24 (by decide) (fun c3 => ?_) (fun c3 => ?_)
      · have c3 := bz_f c3
        refine lv_iconst (v := (-1)) hx hb d_m_begin_51 (by decide) ?_
        exact mu_iret FX hS (by rw [show (f_m_begin vc vh vt vg vo vd vu vw vs va vq vf ta zb zp zq zu) = ((-1), vo, vd, vu, vw, vs, va) from (by rw [f_m_begin, if_pos c1, if_pos c2, if_neg c3])]; exact ⟨rfl, hP, hD⟩) d_m_begin_52
      · have c3 := bz_t c3
        refine lv_iload_n hx hb d_m_begin_27 rfl (lv_at hl 3 rfl) ?_
        refine lv_iconst (v := 0) hx hb d_m_begin_28 (by decide) ?_
        refine lv_iload hx hb d_m_begin_29 (lv_at hl 4 rfl) ?_
        refine lv_iconst (v := 1) hx hb d_m_begin_31 (by decide) ?_
        refine lv_isub hx hb d_m_begin_32 ?_
        refine ro_S (v := .int (bz (f_m_in zp 0 (zq - 1)))) (As := [.int zp, .int 0, .int (zq - 1)]) (rest := []) FX hK (c_m_in l D cA zp 0 (zq - 1)) trivial kc_m_in km_m_57 ki_m ks_m_in rfl ok_m_in ⟨Nat.le_of_ble_eq_true rfl, Nat.le_of_ble_eq_true rfl⟩ ⟨Nat.zero_le _, Nat.zero_le _⟩ hl.1 rfl (Nat.le_of_ble_eq_true rfl) d_m_begin_33 ?_
        refine lv_if_eq (tgt := 51) hx hb d_m_begin_36 (by decide) (fun c4 => ?_) (fun c4 => ?_)
        · have c4 := bz_f c4
          refine lv_iconst (v := (-1)) hx hb d_m_begin_51 (by decide) ?_
          exact mu_iret FX hS (by rw [show (f_m_begin vc vh vt vg vo vd vu vw vs va vq vf ta zb zp zq zu) = ((-1), vo, vd, vu, vw, vs, va) from (by rw [f_m_begin, if_pos c1, if_pos c2, if_pos c3, if_neg c4])]; exact ⟨rfl, hP, hD⟩) d_m_begin_52
        · have c4 := bz_t c4
          refine lv_iload hx hb d_m_begin_39 (lv_at hl 5 rfl) ?_
          refine lv_bipush (v := 51) hx hb d_m_begin_41 (by decide) ?_
          refine lv_bipush (v := 100) hx hb d_m_begin_43 (by decide) ?_
          refine ro_S (v := .int (bz (f_m_in zu 51 100))) (As := [.int zu, .int 51, .int 100]) (rest := []) FX hK (c_m_in l D cA zu 51 100) trivial kc_m_in km_m_57 ki_m ks_m_in rfl ok_m_in ⟨Nat.le_of_ble_eq_true rfl, Nat.le_of_ble_eq_true rfl⟩ ⟨Nat.zero_le _, Nat.zero_le _⟩ hl.1 rfl (Nat.le_of_ble_eq_true rfl) d_m_begin_45 ?_
          refine lv_if_ne (tgt := 53) hx hb d_m_begin_48 (by decide) (fun c5 => ?_) (fun c5 => ?_)
          · have c5 := bz_t c5
            refine lv_aload_n hx hb d_m_begin_53 rfl (lv_at hl 0 rfl) ?_
            refine lv_iload_n hx hb d_m_begin_54 rfl (lv_at hl 1 rfl) ?_
            refine lv_iload_n hx hb d_m_begin_55 rfl (lv_at hl 2 rfl) ?_
            refine ro_V (v := .int (bz (f_m_isGood vc vh vg ta zb))) (As := [.int ta, .int zb]) (rest := []) (q0 := 0) FX hK (c_m_isGood l D cA mo qp qh qk qb qg qo qd qu qw qs qx qa qq qf vc vp vh vk vb vt vg vo vd vu vw vs vx va vq vf ta zb cn hcn hvc tj (Nat.lt_of_lt_of_le htj htn) htt) hP hP rfl rfl rfl kc_m_isGood km_m_78 ki_m ks_m_isGood ke_m_isGood rfl ok_m_isGood ⟨Nat.le_of_ble_eq_true rfl, Nat.le_of_ble_eq_true rfl⟩ ⟨Nat.zero_le _, Nat.zero_le _⟩ hl.1 rfl (Nat.le_of_ble_eq_true rfl) d_m_begin_56 ?_
            refine lv_if_eq (tgt := 65) hx hb d_m_begin_59 (by decide) (fun c6 => ?_) (fun c6 => ?_)
            · have c6 := bz_f c6
              refine lv_aload_n hx hb d_m_begin_65 rfl (lv_at hl 0 rfl) ?_
              refine ro_get (v := .ref qo) FX hK hP 0 7 rfl rfl rfl i_m (by decide) kf_m_26 d_m_begin_66 ?_
              refine lv_iload_n hx hb d_m_begin_69 rfl (lv_at hl 1 rfl) ?_
              refine lv_iconst (v := 1) hx hb d_m_begin_70 (by decide) ?_
              refine W.eq (g2 := F0 m 71 ls [.int (bz true), .int ta, .ref qo]) rfl ?_
              refine va_zast (x := bz true) hx hb hK.1 hP hD hS 6 3 rfl rfl (vin htt (by omega) (by decide)) d_m_begin_71 (fun H locs hP hD hS => ?_)
              rw [upd_bz] at hP hD
              have hP : va_P D classes [(mo, .inr (3, [.int vc, .ref qp, .ref qh, .ref qk, .ref qb, .int vt, .ref qg, .ref qo, .ref qd, .ref qu, .ref qw, .ref qs, .ref qx, .ref qa, .ref qq, .ref qf])), (qp, .inl (cA 2, 120, .inl vp)), (qh, .inl (cA 3, 1600, .inl (fun i => bz (vh i)))), (qk, .inl (cA 3, 40, .inl (fun i => bz (vk i)))), (qb, .inl (cA 3, 40, .inl (fun i => bz (vb i)))), (qg, .inl (cA 3, 160, .inl (fun i => bz (vg i)))), (qo, .inl (cA 3, 4, .inl (fun i => bz ((va_up vo ta.toNatClampNeg true) i)))), (qd, .inl (cA 2, 4, .inl vd)), (qu, .inl (cA 2, 4, .inl vu)), (qw, .inl (cA 2, 4, .inl vw)), (qs, .inl (cA 2, 4, .inl vs)), (qx, .inl (cA 2, 4, .inl vx)), (qa, .inl (cA 2, 4, .inl va)), (qq, .inl (cA 2, 60, .inl vq)), (qf, .inl (cA 3, 60, .inl (fun i => bz (vf i))))] H := hP
              have hD : va_D A [(mo, .inr (3, [.int vc, .ref qp, .ref qh, .ref qk, .ref qb, .int vt, .ref qg, .ref qo, .ref qd, .ref qu, .ref qw, .ref qs, .ref qx, .ref qa, .ref qq, .ref qf])), (qp, .inl (cA 2, 120, .inl vp)), (qh, .inl (cA 3, 1600, .inl (fun i => bz (vh i)))), (qk, .inl (cA 3, 40, .inl (fun i => bz (vk i)))), (qb, .inl (cA 3, 40, .inl (fun i => bz (vb i)))), (qg, .inl (cA 3, 160, .inl (fun i => bz (vg i)))), (qo, .inl (cA 3, 4, .inl (fun i => bz ((va_up vo ta.toNatClampNeg true) i)))), (qd, .inl (cA 2, 4, .inl vd)), (qu, .inl (cA 2, 4, .inl vu)), (qw, .inl (cA 2, 4, .inl vw)), (qs, .inl (cA 2, 4, .inl vs)), (qx, .inl (cA 2, 4, .inl vx)), (qa, .inl (cA 2, 4, .inl va)), (qq, .inl (cA 2, 60, .inl vq)), (qf, .inl (cA 3, 60, .inl (fun i => bz (vf i))))] := hD
              refine lv_aload_n hx hb d_m_begin_72 rfl (lv_at hl 0 rfl) ?_
              refine ro_get (v := .ref qd) FX hK hP 0 8 rfl rfl rfl i_m (by decide) kf_m_29 d_m_begin_73 ?_
              refine lv_iload_n hx hb d_m_begin_76 rfl (lv_at hl 1 rfl) ?_
              refine lv_iload_n hx hb d_m_begin_77 rfl (lv_at hl 2 rfl) ?_
              refine va_iast (x := zb) hx hb hK.1 hP hD hS 7 2 rfl rfl (vin htt (by omega) (by decide)) d_m_begin_78 (fun H locs hP hD hS => ?_)
              have hP : va_P D classes [(mo, .inr (3, [.int vc, .ref qp, .ref qh, .ref qk, .ref qb, .int vt, .ref qg, .ref qo, .ref qd, .ref qu, .ref qw, .ref qs, .ref qx, .ref qa, .ref qq, .ref qf])), (qp, .inl (cA 2, 120, .inl vp)), (qh, .inl (cA 3, 1600, .inl (fun i => bz (vh i)))), (qk, .inl (cA 3, 40, .inl (fun i => bz (vk i)))), (qb, .inl (cA 3, 40, .inl (fun i => bz (vb i)))), (qg, .inl (cA 3, 160, .inl (fun i => bz (vg i)))), (qo, .inl (cA 3, 4, .inl (fun i => bz ((va_up vo ta.toNatClampNeg true) i)))), (qd, .inl (cA 2, 4, .inl (upd vd ta.toNatClampNeg zb))), (qu, .inl (cA 2, 4, .inl vu)), (qw, .inl (cA 2, 4, .inl vw)), (qs, .inl (cA 2, 4, .inl vs)), (qx, .inl (cA 2, 4, .inl vx)), (qa, .inl (cA 2, 4, .inl va)), (qq, .inl (cA 2, 60, .inl vq)), (qf, .inl (cA 3, 60, .inl (fun i => bz (vf i))))] H := hP
              have hD : va_D A [(mo, .inr (3, [.int vc, .ref qp, .ref qh, .ref qk, .ref qb, .int vt, .ref qg, .ref qo, .ref qd, .ref qu, .ref qw, .ref qs, .ref qx, .ref qa, .ref qq, .ref qf])), (qp, .inl (cA 2, 120, .inl vp)), (qh, .inl (cA 3, 1600, .inl (fun i => bz (vh i)))), (qk, .inl (cA 3, 40, .inl (fun i => bz (vk i)))), (qb, .inl (cA 3, 40, .inl (fun i => bz (vb i)))), (qg, .inl (cA 3, 160, .inl (fun i => bz (vg i)))), (qo, .inl (cA 3, 4, .inl (fun i => bz ((va_up vo ta.toNatClampNeg true) i)))), (qd, .inl (cA 2, 4, .inl (upd vd ta.toNatClampNeg zb))), (qu, .inl (cA 2, 4, .inl vu)), (qw, .inl (cA 2, 4, .inl vw)), (qs, .inl (cA 2, 4, .inl vs)), (qx, .inl (cA 2, 4, .inl vx)), (qa, .inl (cA 2, 4, .inl va)), (qq, .inl (cA 2, 60, .inl vq)), (qf, .inl (cA 3, 60, .inl (fun i => bz (vf i))))] := hD
              refine lv_aload_n hx hb d_m_begin_79 rfl (lv_at hl 0 rfl) ?_
              refine ro_get (v := .ref qu) FX hK hP 0 9 rfl rfl rfl i_m (by decide) kf_m_32 d_m_begin_80 ?_
              refine lv_iload_n hx hb d_m_begin_83 rfl (lv_at hl 1 rfl) ?_
              refine lv_iload_n hx hb d_m_begin_84 rfl (lv_at hl 3 rfl) ?_
              refine va_iast (x := zp) hx hb hK.1 hP hD hS 8 2 rfl rfl (vin htt (by omega) (by decide)) d_m_begin_85 (fun H locs hP hD hS => ?_)
              have hP : va_P D classes [(mo, .inr (3, [.int vc, .ref qp, .ref qh, .ref qk, .ref qb, .int vt, .ref qg, .ref qo, .ref qd, .ref qu, .ref qw, .ref qs, .ref qx, .ref qa, .ref qq, .ref qf])), (qp, .inl (cA 2, 120, .inl vp)), (qh, .inl (cA 3, 1600, .inl (fun i => bz (vh i)))), (qk, .inl (cA 3, 40, .inl (fun i => bz (vk i)))), (qb, .inl (cA 3, 40, .inl (fun i => bz (vb i)))), (qg, .inl (cA 3, 160, .inl (fun i => bz (vg i)))), (qo, .inl (cA 3, 4, .inl (fun i => bz ((va_up vo ta.toNatClampNeg true) i)))), (qd, .inl (cA 2, 4, .inl (upd vd ta.toNatClampNeg zb))), (qu, .inl (cA 2, 4, .inl (upd vu ta.toNatClampNeg zp))), (qw, .inl (cA 2, 4, .inl vw)), (qs, .inl (cA 2, 4, .inl vs)), (qx, .inl (cA 2, 4, .inl vx)), (qa, .inl (cA 2, 4, .inl va)), (qq, .inl (cA 2, 60, .inl vq)), (qf, .inl (cA 3, 60, .inl (fun i => bz (vf i))))] H := hP
              have hD : va_D A [(mo, .inr (3, [.int vc, .ref qp, .ref qh, .ref qk, .ref qb, .int vt, .ref qg, .ref qo, .ref qd, .ref qu, .ref qw, .ref qs, .ref qx, .ref qa, .ref qq, .ref qf])), (qp, .inl (cA 2, 120, .inl vp)), (qh, .inl (cA 3, 1600, .inl (fun i => bz (vh i)))), (qk, .inl (cA 3, 40, .inl (fun i => bz (vk i)))), (qb, .inl (cA 3, 40, .inl (fun i => bz (vb i)))), (qg, .inl (cA 3, 160, .inl (fun i => bz (vg i)))), (qo, .inl (cA 3, 4, .inl (fun i => bz ((va_up vo ta.toNatClampNeg true) i)))), (qd, .inl (cA 2, 4, .inl (upd vd ta.toNatClampNeg zb))), (qu, .inl (cA 2, 4, .inl (upd vu ta.toNatClampNeg zp))), (qw, .inl (cA 2, 4, .inl vw)), (qs, .inl (cA 2, 4, .inl vs)), (qx, .inl (cA 2, 4, .inl vx)), (qa, .inl (cA 2, 4, .inl va)), (qq, .inl (cA 2, 60, .inl vq)), (qf, .inl (cA 3, 60, .inl (fun i => bz (vf i))))] := hD
              refine lv_aload_n hx hb d_m_begin_86 rfl (lv_at hl 0 rfl) ?_
              refine ro_get (v := .ref qw) FX hK hP 0 10 rfl rfl rfl i_m (by decide) kf_m_35 d_m_begin_87 ?_
              refine lv_iload_n hx hb d_m_begin_90 rfl (lv_at hl 1 rfl) ?_
              refine lv_iload hx hb d_m_begin_91 (lv_at hl 4 rfl) ?_
              refine va_iast (x := zq) hx hb hK.1 hP hD hS 9 2 rfl rfl (vin htt (by omega) (by decide)) d_m_begin_93 (fun H locs hP hD hS => ?_)
              have hP : va_P D classes [(mo, .inr (3, [.int vc, .ref qp, .ref qh, .ref qk, .ref qb, .int vt, .ref qg, .ref qo, .ref qd, .ref qu, .ref qw, .ref qs, .ref qx, .ref qa, .ref qq, .ref qf])), (qp, .inl (cA 2, 120, .inl vp)), (qh, .inl (cA 3, 1600, .inl (fun i => bz (vh i)))), (qk, .inl (cA 3, 40, .inl (fun i => bz (vk i)))), (qb, .inl (cA 3, 40, .inl (fun i => bz (vb i)))), (qg, .inl (cA 3, 160, .inl (fun i => bz (vg i)))), (qo, .inl (cA 3, 4, .inl (fun i => bz ((va_up vo ta.toNatClampNeg true) i)))), (qd, .inl (cA 2, 4, .inl (upd vd ta.toNatClampNeg zb))), (qu, .inl (cA 2, 4, .inl (upd vu ta.toNatClampNeg zp))), (qw, .inl (cA 2, 4, .inl (upd vw ta.toNatClampNeg zq))), (qs, .inl (cA 2, 4, .inl vs)), (qx, .inl (cA 2, 4, .inl vx)), (qa, .inl (cA 2, 4, .inl va)), (qq, .inl (cA 2, 60, .inl vq)), (qf, .inl (cA 3, 60, .inl (fun i => bz (vf i))))] H := hP
              have hD : va_D A [(mo, .inr (3, [.int vc, .ref qp, .ref qh, .ref qk, .ref qb, .int vt, .ref qg, .ref qo, .ref qd, .ref qu, .ref qw, .ref qs, .ref qx, .ref qa, .ref qq, .ref qf])), (qp, .inl (cA 2, 120, .inl vp)), (qh, .inl (cA 3, 1600, .inl (fun i => bz (vh i)))), (qk, .inl (cA 3, 40, .inl (fun i => bz (vk i)))), (qb, .inl (cA 3, 40, .inl (fun i => bz (vb i)))), (qg, .inl (cA 3, 160, .inl (fun i => bz (vg i)))), (qo, .inl (cA 3, 4, .inl (fun i => bz ((va_up vo ta.toNatClampNeg true) i)))), (qd, .inl (cA 2, 4, .inl (upd vd ta.toNatClampNeg zb))), (qu, .inl (cA 2, 4, .inl (upd vu ta.toNatClampNeg zp))), (qw, .inl (cA 2, 4, .inl (upd vw ta.toNatClampNeg zq))), (qs, .inl (cA 2, 4, .inl vs)), (qx, .inl (cA 2, 4, .inl vx)), (qa, .inl (cA 2, 4, .inl va)), (qq, .inl (cA 2, 60, .inl vq)), (qf, .inl (cA 3, 60, .inl (fun i => bz (vf i))))] := hD
              refine lv_aload_n hx hb d_m_begin_94 rfl (lv_at hl 0 rfl) ?_
              refine ro_get (v := .ref qs) FX hK hP 0 11 rfl rfl rfl i_m (by decide) kf_m_38 d_m_begin_95 ?_
              refine lv_iload_n hx hb d_m_begin_98 rfl (lv_at hl 1 rfl) ?_
              refine lv_iload hx hb d_m_begin_99 (lv_at hl 5 rfl) ?_
              refine va_iast (x := zu) hx hb hK.1 hP hD hS 10 2 rfl rfl (vin htt (by omega) (by decide)) d_m_begin_101 (fun H locs hP hD hS => ?_)
              have hP : va_P D classes [(mo, .inr (3, [.int vc, .ref qp, .ref qh, .ref qk, .ref qb, .int vt, .ref qg, .ref qo, .ref qd, .ref qu, .ref qw, .ref qs, .ref qx, .ref qa, .ref qq, .ref qf])), (qp, .inl (cA 2, 120, .inl vp)), (qh, .inl (cA 3, 1600, .inl (fun i => bz (vh i)))), (qk, .inl (cA 3, 40, .inl (fun i => bz (vk i)))), (qb, .inl (cA 3, 40, .inl (fun i => bz (vb i)))), (qg, .inl (cA 3, 160, .inl (fun i => bz (vg i)))), (qo, .inl (cA 3, 4, .inl (fun i => bz ((va_up vo ta.toNatClampNeg true) i)))), (qd, .inl (cA 2, 4, .inl (upd vd ta.toNatClampNeg zb))), (qu, .inl (cA 2, 4, .inl (upd vu ta.toNatClampNeg zp))), (qw, .inl (cA 2, 4, .inl (upd vw ta.toNatClampNeg zq))), (qs, .inl (cA 2, 4, .inl (upd vs ta.toNatClampNeg zu))), (qx, .inl (cA 2, 4, .inl vx)), (qa, .inl (cA 2, 4, .inl va)), (qq, .inl (cA 2, 60, .inl vq)), (qf, .inl (cA 3, 60, .inl (fun i => bz (vf i))))] H := hP
              have hD : va_D A [(mo, .inr (3, [.int vc, .ref qp, .ref qh, .ref qk, .ref qb, .int vt, .ref qg, .ref qo, .ref qd, .ref qu, .ref qw, .ref qs, .ref qx, .ref qa, .ref qq, .ref qf])), (qp, .inl (cA 2, 120, .inl vp)), (qh, .inl (cA 3, 1600, .inl (fun i => bz (vh i)))), (qk, .inl (cA 3, 40, .inl (fun i => bz (vk i)))), (qb, .inl (cA 3, 40, .inl (fun i => bz (vb i)))), (qg, .inl (cA 3, 160, .inl (fun i => bz (vg i)))), (qo, .inl (cA 3, 4, .inl (fun i => bz ((va_up vo ta.toNatClampNeg true) i)))), (qd, .inl (cA 2, 4, .inl (upd vd ta.toNatClampNeg zb))), (qu, .inl (cA 2, 4, .inl (upd vu ta.toNatClampNeg zp))), (qw, .inl (cA 2, 4, .inl (upd vw ta.toNatClampNeg zq))), (qs, .inl (cA 2, 4, .inl (upd vs ta.toNatClampNeg zu))), (qx, .inl (cA 2, 4, .inl vx)), (qa, .inl (cA 2, 4, .inl va)), (qq, .inl (cA 2, 60, .inl vq)), (qf, .inl (cA 3, 60, .inl (fun i => bz (vf i))))] := hD
              refine lv_aload_n hx hb d_m_begin_102 rfl (lv_at hl 0 rfl) ?_
              refine ro_get (v := .ref qa) FX hK hP 0 13 rfl rfl rfl i_m (by decide) kf_m_44 d_m_begin_103 ?_
              refine lv_iload_n hx hb d_m_begin_106 rfl (lv_at hl 1 rfl) ?_
              refine lv_iconst (v := 0) hx hb d_m_begin_107 (by decide) ?_
              refine va_iast (x := 0) hx hb hK.1 hP hD hS 12 2 rfl rfl (vin htt (by omega) (by decide)) d_m_begin_108 (fun H locs hP hD hS => ?_)
              have hP : va_P D classes [(mo, .inr (3, [.int vc, .ref qp, .ref qh, .ref qk, .ref qb, .int vt, .ref qg, .ref qo, .ref qd, .ref qu, .ref qw, .ref qs, .ref qx, .ref qa, .ref qq, .ref qf])), (qp, .inl (cA 2, 120, .inl vp)), (qh, .inl (cA 3, 1600, .inl (fun i => bz (vh i)))), (qk, .inl (cA 3, 40, .inl (fun i => bz (vk i)))), (qb, .inl (cA 3, 40, .inl (fun i => bz (vb i)))), (qg, .inl (cA 3, 160, .inl (fun i => bz (vg i)))), (qo, .inl (cA 3, 4, .inl (fun i => bz ((va_up vo ta.toNatClampNeg true) i)))), (qd, .inl (cA 2, 4, .inl (upd vd ta.toNatClampNeg zb))), (qu, .inl (cA 2, 4, .inl (upd vu ta.toNatClampNeg zp))), (qw, .inl (cA 2, 4, .inl (upd vw ta.toNatClampNeg zq))), (qs, .inl (cA 2, 4, .inl (upd vs ta.toNatClampNeg zu))), (qx, .inl (cA 2, 4, .inl vx)), (qa, .inl (cA 2, 4, .inl (upd va ta.toNatClampNeg 0))), (qq, .inl (cA 2, 60, .inl vq)), (qf, .inl (cA 3, 60, .inl (fun i => bz (vf i))))] H := hP
              have hD : va_D A [(mo, .inr (3, [.int vc, .ref qp, .ref qh, .ref qk, .ref qb, .int vt, .ref qg, .ref qo, .ref qd, .ref qu, .ref qw, .ref qs, .ref qx, .ref qa, .ref qq, .ref qf])), (qp, .inl (cA 2, 120, .inl vp)), (qh, .inl (cA 3, 1600, .inl (fun i => bz (vh i)))), (qk, .inl (cA 3, 40, .inl (fun i => bz (vk i)))), (qb, .inl (cA 3, 40, .inl (fun i => bz (vb i)))), (qg, .inl (cA 3, 160, .inl (fun i => bz (vg i)))), (qo, .inl (cA 3, 4, .inl (fun i => bz ((va_up vo ta.toNatClampNeg true) i)))), (qd, .inl (cA 2, 4, .inl (upd vd ta.toNatClampNeg zb))), (qu, .inl (cA 2, 4, .inl (upd vu ta.toNatClampNeg zp))), (qw, .inl (cA 2, 4, .inl (upd vw ta.toNatClampNeg zq))), (qs, .inl (cA 2, 4, .inl (upd vs ta.toNatClampNeg zu))), (qx, .inl (cA 2, 4, .inl vx)), (qa, .inl (cA 2, 4, .inl (upd va ta.toNatClampNeg 0))), (qq, .inl (cA 2, 60, .inl vq)), (qf, .inl (cA 3, 60, .inl (fun i => bz (vf i))))] := hD
              refine lv_iconst (v := 0) hx hb d_m_begin_109 (by decide) ?_
              refine lv_istore (lv' := [(6, .int 0), (0, .ref mo), (1, .int ta), (2, .int zb), (3, .int zp), (4, .int zq), (5, .int zu)]) hx hb d_m_begin_110 hl (by decide) rfl (fun ls hl => ?_)
              refine lv_iconst (v := 0) hx hb d_m_begin_112 (by decide) ?_
              refine lv_istore (lv' := [(7, .int 0), (6, .int 0), (0, .ref mo), (1, .int ta), (2, .int zb), (3, .int zp), (4, .int zq), (5, .int zu)]) hx hb d_m_begin_113 hl (by decide) rfl (fun ls hl => ?_)
              have loop : ∀ (n k : Nat) (mn : Int32) (xi : Int32) (ls : Array Slot) (H : Heap) (locs : List Loc), k + n = 41 → k ≤ 40 → xi = nI k → va_P D classes [(mo, .inr (3, [.int vc, .ref qp, .ref qh, .ref qk, .ref qb, .int vt, .ref qg, .ref qo, .ref qd, .ref qu, .ref qw, .ref qs, .ref qx, .ref qa, .ref qq, .ref qf])), (qp, .inl (cA 2, 120, .inl vp)), (qh, .inl (cA 3, 1600, .inl (fun i => bz (vh i)))), (qk, .inl (cA 3, 40, .inl (fun i => bz (vk i)))), (qb, .inl (cA 3, 40, .inl (fun i => bz (vb i)))), (qg, .inl (cA 3, 160, .inl (fun i => bz (vg i)))), (qo, .inl (cA 3, 4, .inl (fun i => bz ((va_up vo ta.toNatClampNeg true) i)))), (qd, .inl (cA 2, 4, .inl (upd vd ta.toNatClampNeg zb))), (qu, .inl (cA 2, 4, .inl (upd vu ta.toNatClampNeg zp))), (qw, .inl (cA 2, 4, .inl (upd vw ta.toNatClampNeg zq))), (qs, .inl (cA 2, 4, .inl (upd vs ta.toNatClampNeg zu))), (qx, .inl (cA 2, 4, .inl vx)), (qa, .inl (cA 2, 4, .inl (upd va ta.toNatClampNeg 0))), (qq, .inl (cA 2, 60, .inl vq)), (qf, .inl (cA 3, 60, .inl (fun i => bz (vf i))))] H → va_D A [(mo, .inr (3, [.int vc, .ref qp, .ref qh, .ref qk, .ref qb, .int vt, .ref qg, .ref qo, .ref qd, .ref qu, .ref qw, .ref qs, .ref qx, .ref qa, .ref qq, .ref qf])), (qp, .inl (cA 2, 120, .inl vp)), (qh, .inl (cA 3, 1600, .inl (fun i => bz (vh i)))), (qk, .inl (cA 3, 40, .inl (fun i => bz (vk i)))), (qb, .inl (cA 3, 40, .inl (fun i => bz (vb i)))), (qg, .inl (cA 3, 160, .inl (fun i => bz (vg i)))), (qo, .inl (cA 3, 4, .inl (fun i => bz ((va_up vo ta.toNatClampNeg true) i)))), (qd, .inl (cA 2, 4, .inl (upd vd ta.toNatClampNeg zb))), (qu, .inl (cA 2, 4, .inl (upd vu ta.toNatClampNeg zp))), (qw, .inl (cA 2, 4, .inl (upd vw ta.toNatClampNeg zq))), (qs, .inl (cA 2, 4, .inl (upd vs ta.toNatClampNeg zu))), (qx, .inl (cA 2, 4, .inl vx)), (qa, .inl (cA 2, 4, .inl (upd va ta.toNatClampNeg 0))), (qq, .inl (cA 2, 60, .inl vq)), (qf, .inl (cA 3, 60, .inl (fun i => bz (vf i))))] → va_S A s.heap H locs → lv_has ls 8 [(0, .ref mo), (1, .int ta), (6, .int mn), (7, .int xi)] → W p l e (rmd 5) s m args below meth c H locs 0 0 (MQ below (Qmu A (fun v0 H0 => v0 = some (.int ((L_m_begin_115 vc vh vt vg vo vd vu vw vs va vq vf ta zb zp zq zu n mn xi).1)) ∧ va_P D classes [(mo, .inr (3, [.int vc, .ref qp, .ref qh, .ref qk, .ref qb, .int vt, .ref qg, .ref qo, .ref qd, .ref qu, .ref qw, .ref qs, .ref qx, .ref qa, .ref qq, .ref qf])), (qp, .inl (cA 2, 120, .inl vp)), (qh, .inl (cA 3, 1600, .inl (fun i => bz (vh i)))), (qk, .inl (cA 3, 40, .inl (fun i => bz (vk i)))), (qb, .inl (cA 3, 40, .inl (fun i => bz (vb i)))), (qg, .inl (cA 3, 160, .inl (fun i => bz (vg i)))), (qo, .inl (cA 3, 4, .inl (fun i => bz (((L_m_begin_115 vc vh vt vg vo vd vu vw vs va vq vf ta zb zp zq zu n mn xi).2.1) i)))), (qd, .inl (cA 2, 4, .inl ((L_m_begin_115 vc vh vt vg vo vd vu vw vs va vq vf ta zb zp zq zu n mn xi).2.2.1))), (qu, .inl (cA 2, 4, .inl ((L_m_begin_115 vc vh vt vg vo vd vu vw vs va vq vf ta zb zp zq zu n mn xi).2.2.2.1))), (qw, .inl (cA 2, 4, .inl ((L_m_begin_115 vc vh vt vg vo vd vu vw vs va vq vf ta zb zp zq zu n mn xi).2.2.2.2.1))), (qs, .inl (cA 2, 4, .inl ((L_m_begin_115 vc vh vt vg vo vd vu vw vs va vq vf ta zb zp zq zu n mn xi).2.2.2.2.2.1))), (qx, .inl (cA 2, 4, .inl vx)), (qa, .inl (cA 2, 4, .inl ((L_m_begin_115 vc vh vt vg vo vd vu vw vs va vq vf ta zb zp zq zu n mn xi).2.2.2.2.2.2))), (qq, .inl (cA 2, 60, .inl vq)), (qf, .inl (cA 3, 60, .inl (fun i => bz (vf i))))] H0 ∧ va_D A [(mo, .inr (3, [.int vc, .ref qp, .ref qh, .ref qk, .ref qb, .int vt, .ref qg, .ref qo, .ref qd, .ref qu, .ref qw, .ref qs, .ref qx, .ref qa, .ref qq, .ref qf])), (qp, .inl (cA 2, 120, .inl vp)), (qh, .inl (cA 3, 1600, .inl (fun i => bz (vh i)))), (qk, .inl (cA 3, 40, .inl (fun i => bz (vk i)))), (qb, .inl (cA 3, 40, .inl (fun i => bz (vb i)))), (qg, .inl (cA 3, 160, .inl (fun i => bz (vg i)))), (qo, .inl (cA 3, 4, .inl (fun i => bz (((L_m_begin_115 vc vh vt vg vo vd vu vw vs va vq vf ta zb zp zq zu n mn xi).2.1) i)))), (qd, .inl (cA 2, 4, .inl ((L_m_begin_115 vc vh vt vg vo vd vu vw vs va vq vf ta zb zp zq zu n mn xi).2.2.1))), (qu, .inl (cA 2, 4, .inl ((L_m_begin_115 vc vh vt vg vo vd vu vw vs va vq vf ta zb zp zq zu n mn xi).2.2.2.1))), (qw, .inl (cA 2, 4, .inl ((L_m_begin_115 vc vh vt vg vo vd vu vw vs va vq vf ta zb zp zq zu n mn xi).2.2.2.2.1))), (qs, .inl (cA 2, 4, .inl ((L_m_begin_115 vc vh vt vg vo vd vu vw vs va vq vf ta zb zp zq zu n mn xi).2.2.2.2.2.1))), (qx, .inl (cA 2, 4, .inl vx)), (qa, .inl (cA 2, 4, .inl ((L_m_begin_115 vc vh vt vg vo vd vu vw vs va vq vf ta zb zp zq zu n mn xi).2.2.2.2.2.2))), (qq, .inl (cA 2, 60, .inl vq)), (qf, .inl (cA 3, 60, .inl (fun i => bz (vf i))))])) args s 0 0 A) (F0 m 115 ls []) := by
                intro n
                induction n with
                | zero =>
                  intro k mn xi ls H locs h1 h2
                  exact absurd h1 (by omega)
                | succ n ih =>
                  intro k mn xi ls H locs hkn hk hxi hP hD hS hl
                  refine lv_iload hx hb d_m_begin_115 (lv_at hl 3 rfl) ?_
                  refine lv_aload_n hx hb d_m_begin_117 rfl (lv_at hl 0 rfl) ?_
                  refine ro_get (v := .int vc) FX hK hP 0 0 rfl rfl rfl i_m (by decide) kf_m_53 d_m_begin_118 ?_
                  refine lv_icmp_ge (tgt := 152) hx hb d_m_begin_121 (by decide) (fun c7 => ?_) (fun c7 => ?_)
                  · have c7 := c7
                    refine lv_iload hx hb d_m_begin_152 (lv_at hl 2 rfl) ?_
                    exact mu_iret FX hS (by rw [show (L_m_begin_115 vc vh vt vg vo vd vu vw vs va vq vf ta zb zp zq zu (n + 1) mn xi) = (mn, va_up vo ta.toNatClampNeg true, upd vd ta.toNatClampNeg zb, upd vu ta.toNatClampNeg zp, upd vw ta.toNatClampNeg zq, upd vs ta.toNatClampNeg zu, upd va ta.toNatClampNeg 0) from (by rw [L_m_begin_115_s, if_pos c7])]; exact ⟨rfl, hP, hD⟩) d_m_begin_154
                  · have c7 := c7
                    have hk1 : k < cn := k_lt hxi hvc c7 (by omega)
                    refine lv_iload hx hb d_m_begin_124 (lv_at hl 2 rfl) ?_
                    refine lv_aload_n hx hb d_m_begin_126 rfl (lv_at hl 0 rfl) ?_
                    refine lv_iload_n hx hb d_m_begin_127 rfl (lv_at hl 1 rfl) ?_
                    refine lv_iload hx hb d_m_begin_128 (lv_at hl 3 rfl) ?_
                    refine ro_V (v := .long (f_m_weight vc vh vt vg (va_up vo ta.toNatClampNeg true) (upd vd ta.toNatClampNeg zb) (upd vu ta.toNatClampNeg zp) (upd vw ta.toNatClampNeg zq) (upd va ta.toNatClampNeg 0) vq vf ta xi)) (As := [.int ta, .int xi]) (rest := [.int mn]) (q0 := 0) FX hK (c_m_weight l D cA mo qp qh qk qb qg qo qd qu qw qs qx qa qq qf vc vp vh vk vb vt vg (va_up vo ta.toNatClampNeg true) (upd vd ta.toNatClampNeg zb) (upd vu ta.toNatClampNeg zp) (upd vw ta.toNatClampNeg zq) (upd vs ta.toNatClampNeg zu) vx (upd va ta.toNatClampNeg 0) vq vf ta xi cn hcn hvc tn htn hvt (va_up0 hva (rfl : (0 : Int32) = nI 0) (by decide))) hP hP rfl rfl rfl kc_m_weight km_m_81 ki_m ks_m_weight ke_m_weight rfl ok_m_weight ⟨Nat.le_of_ble_eq_true rfl, Nat.le_of_ble_eq_true rfl⟩ ⟨Nat.zero_le _, Nat.zero_le _⟩ hl.1 rfl (Nat.le_of_ble_eq_true rfl) d_m_begin_130 ?_
                    refine lv_lconst (v := 0) hx hb d_m_begin_133 (by decide) ?_
                    refine W.lcmp hx hb d_m_begin_134 ?_
                    refine lv_if_le (tgt := 142) hx hb d_m_begin_135 (by decide) (fun c8 => ?_) (fun c8 => ?_)
                    · have c8 := cp_le c8
                      refine lv_iconst (v := 0) hx hb d_m_begin_142 (by decide) ?_
                      refine lv_iadd hx hb d_m_begin_143 ?_
                      refine lv_istore (lv' := [(6, .int (mn + 0)), (0, .ref mo), (1, .int ta), (7, .int xi)]) hx hb d_m_begin_144 hl (by decide) rfl (fun ls hl => ?_)
                      refine lv_iinc (v := xi + 1) (lv' := [(7, .int (xi + 1)), (6, .int (mn + 0)), (0, .ref mo), (1, .int ta)]) hx hb d_m_begin_146 hl (k := 3) rfl rfl (by decide) rfl (fun ls hl => ?_)
                      refine lv_goto (tgt := 115) hx hb d_m_begin_149 (by decide) ?_
                      rw [show (L_m_begin_115 vc vh vt vg vo vd vu vw vs va vq vf ta zb zp zq zu (n + 1) mn xi) = L_m_begin_115 vc vh vt vg vo vd vu vw vs va vq vf ta zb zp zq zu n (mn + 0) (xi + 1) from (by rw [L_m_begin_115_s, if_neg c7, if_neg c8])]
                      exact ih (k + 1) (mn + 0) (xi + 1) ls H locs (by omega) (by omega) (by rw [hxi]; exact nI_1 _)  hP hD hS (lv_sub hl [2, 3, 1, 0] rfl)
                    · have c8 := cp_nle c8
                      refine lv_iconst (v := 1) hx hb d_m_begin_138 (by decide) ?_
                      refine lv_goto (tgt := 143) hx hb d_m_begin_139 (by decide) ?_
                      refine lv_iadd hx hb d_m_begin_143 ?_
                      refine lv_istore (lv' := [(6, .int (mn + 1)), (0, .ref mo), (1, .int ta), (7, .int xi)]) hx hb d_m_begin_144 hl (by decide) rfl (fun ls hl => ?_)
                      refine lv_iinc (v := xi + 1) (lv' := [(7, .int (xi + 1)), (6, .int (mn + 1)), (0, .ref mo), (1, .int ta)]) hx hb d_m_begin_146 hl (k := 3) rfl rfl (by decide) rfl (fun ls hl => ?_)
                      refine lv_goto (tgt := 115) hx hb d_m_begin_149 (by decide) ?_
                      rw [show (L_m_begin_115 vc vh vt vg vo vd vu vw vs va vq vf ta zb zp zq zu (n + 1) mn xi) = L_m_begin_115 vc vh vt vg vo vd vu vw vs va vq vf ta zb zp zq zu n (mn + 1) (xi + 1) from (by rw [L_m_begin_115_s, if_neg c7, if_pos c8])]
                      exact ih (k + 1) (mn + 1) (xi + 1) ls H locs (by omega) (by omega) (by rw [hxi]; exact nI_1 _)  hP hD hS (lv_sub hl [2, 3, 1, 0] rfl)
              rw [show (f_m_begin vc vh vt vg vo vd vu vw vs va vq vf ta zb zp zq zu) = L_m_begin_115 vc vh vt vg vo vd vu vw vs va vq vf ta zb zp zq zu 41 0 0 from (by rw [f_m_begin, if_pos c1, if_pos c2, if_pos c3, if_pos c4, if_pos c5, if_neg c6])]
              exact loop 41 0 0 0 ls H locs rfl (Nat.zero_le _) rfl  hP hD hS (lv_sub hl [2, 3, 1, 0] rfl)
            · have c6 := bz_t c6
              refine lv_bipush (v := (-2)) hx hb d_m_begin_62 (by decide) ?_
              exact mu_iret FX hS (by rw [show (f_m_begin vc vh vt vg vo vd vu vw vs va vq vf ta zb zp zq zu) = ((-2), vo, vd, vu, vw, vs, va) from (by rw [f_m_begin, if_pos c1, if_pos c2, if_pos c3, if_pos c4, if_pos c5, if_pos c6])]; exact ⟨rfl, hP, hD⟩) d_m_begin_64
          · have c5 := bz_f c5
            refine lv_iconst (v := (-1)) hx hb d_m_begin_51 (by decide) ?_
            exact mu_iret FX hS (by rw [show (f_m_begin vc vh vt vg vo vd vu vw vs va vq vf ta zb zp zq zu) = ((-1), vo, vd, vu, vw, vs, va) from (by rw [f_m_begin, if_pos c1, if_pos c2, if_pos c3, if_pos c4, if_neg c5])]; exact ⟨rfl, hP, hD⟩) d_m_begin_52
theorem an_in {ta : Int32} {va : Nat → Int32} {tj an : Nat} (htt : ta = nI tj) (h4 : tj < 4) (hae : va tj = nI an) (han : an < 15) : vp_in (15 * ta + va ta.toNatClampNeg) 60 := by
  rw [w_bd htt h4 hae]
  exact vp_in_nI (by omega) (by decide)
theorem va_up1 {va : Nat → Int32} {ta : Int32} {tj an : Nat} (hva : ∀ i, i < 4 → ∃ a, a ≤ 15 ∧ va i = nI a) (htt : ta = nI tj) (h4 : tj < 4) (hae : va tj = nI an) (han : an < 15) : ∀ i, i < 4 → ∃ a, a ≤ 15 ∧ (upd va ta.toNatClampNeg (va ta.toNatClampNeg + 1)) i = nI a := by
  refine va_up0 hva (a := an + 1) ?_ (by omega)
  subst htt
  rw [nI_clamp (by omega), hae]
  exact nI_1 an
def okb (cn : Nat) (r : Int32) : Prop := r = (-1) ∨ ∃ b0, b0 < cn ∧ r = nI b0
theorem ev_lt {vc vt ta : Int32} {vh vg vo vf vk vb : Nat → Bool} {vd vu vw va vq : Nat → Int32} {cn : Nat} (hcn : cn ≤ 40) (hvc : vc = nI cn) : okb cn (f_m_even vc vh vk vb vt vg vo vd vu vw va vq vf ta) := by
  have loop : ∀ (n k : Nat) (be : Int32) (bg : Int64), k + n = 41 → k ≤ 40 → okb cn be → okb cn (L_m_even_15 vc vh vk vb vt vg vo vd vu vw va vq vf ta n be bg (nI k)) := by
    intro n
    induction n with
    | zero => intro k be bg h1 h2; exact absurd h1 (by omega)
    | succ n ih =>
      intro k be bg h1 h2 hb
      rw [L_m_even_15_s]
      by_cases hk : vc ≤ nI k
      · rw [if_pos hk]; exact hb
      · have hlt : k < cn := k_lt rfl hvc hk (by omega)
        have hx : okb cn (nI k) := Or.inr ⟨k, hlt, rfl⟩
        rw [if_neg hk, nI_1]
        repeat' split
        all_goals first | exact ih (k + 1) _ _ (by omega) (by omega) hb | exact ih (k + 1) _ _ (by omega) (by omega) hx
  unfold f_m_even
  exact loop 41 0 (-1) 0 rfl (by decide) (Or.inl rfl)
theorem nx_ok {vc vt ta : Int32} {vh vg vo vf vk vb : Nat → Bool} {vd vu vw va vq vs : Nat → Int32} {cn tn : Nat} (hcn : cn ≤ 40) (hvc : vc = nI cn) (htn : tn ≤ 4) (hvt : vt = nI tn) (hva : ∀ i, i < 4 → ∃ a, a ≤ 15 ∧ va i = nI a) (h : ¬ f_m_next vc vh vk vb vt vg vo vd vu vw vs va vq vf ta = (-1)) :
    ∃ tj, tj < tn ∧ ta = nI tj ∧ (∃ an, an < 15 ∧ va tj = nI an) ∧ ∃ c0, c0 < cn ∧ f_m_next vc vh vk vb vt vg vo vd vu vw vs va vq vf ta = nI c0 := by
  unfold f_m_next at h ⊢
  by_cases h0 : f_m_state vc vh vk vb vt vg vo vd vu vw vs va vq vf ta = 0
  · rw [if_pos h0] at h ⊢
    unfold f_m_state at h0
    by_cases h1 : f_m_isSearch vt vo ta = true
    · rw [if_pos h1] at h0
      obtain ⟨tj, htj, htt⟩ := tg_nI htn hvt (se_tg h1)
      refine ⟨tj, htj, htt, ?_, (ev_lt hcn hvc).resolve_left h⟩
      by_cases h2 : f_m_heavy vc vh vt vg vo vd vu vw vs va vq vf ta = (-1)
      · rw [if_pos h2] at h0
        by_cases h3 : va ta.toNatClampNeg = 15
        · rw [if_pos h3] at h0; exact absurd h0 (by decide)
        · obtain ⟨a, ha, e⟩ := hva tj (by omega)
          refine ⟨a, ?_, e⟩
          apply Nat.lt_of_le_of_ne ha
          intro q
          apply h3
          rw [htt, nI_clamp (by omega), e, q]; rfl
      · rw [if_neg h2] at h0; exact absurd h0 (by decide)
    · rw [if_neg h1] at h0; exact absurd h0 (by decide)
  · rw [if_neg h0] at h
    exact absurd rfl h
theorem d_m_answer_0 : decode b_m_answer 0 = .ok (.aload_n 0, 1) := by decide +kernel
theorem d_m_answer_1 : decode b_m_answer 1 = .ok (.iload_n 1, 1) := by decide +kernel
theorem d_m_answer_2 : decode b_m_answer 2 = .ok (.invokevirtual 109, 3) := by decide +kernel
theorem d_m_answer_5 : decode b_m_answer 5 = .ok (.istore_n 3, 1) := by decide +kernel
theorem d_m_answer_6 : decode b_m_answer 6 = .ok (.iload_n 3, 1) := by decide +kernel
theorem d_m_answer_7 : decode b_m_answer 7 = .ok (.iconst (-1), 1) := by decide +kernel
theorem d_m_answer_8 : decode b_m_answer 8 = .ok (.if_icmp .eq 12, 3) := by decide +kernel
theorem d_m_answer_11 : decode b_m_answer 11 = .ok (.iload_n 2, 1) := by decide +kernel
theorem d_m_answer_12 : decode b_m_answer 12 = .ok (.iconst 0, 1) := by decide +kernel
theorem d_m_answer_13 : decode b_m_answer 13 = .ok (.iconst 2, 1) := by decide +kernel
theorem d_m_answer_14 : decode b_m_answer 14 = .ok (.invokestatic 57, 3) := by decide +kernel
theorem d_m_answer_17 : decode b_m_answer 17 = .ok (.ifCond .ne 5, 3) := by decide +kernel
theorem d_m_answer_20 : decode b_m_answer 20 = .ok (.iconst (-1), 1) := by decide +kernel
theorem d_m_answer_21 : decode b_m_answer 21 = .ok (.ireturn, 1) := by decide +kernel
theorem d_m_answer_22 : decode b_m_answer 22 = .ok (.iload_n 2, 1) := by decide +kernel
theorem d_m_answer_23 : decode b_m_answer 23 = .ok (.iconst 2, 1) := by decide +kernel
theorem d_m_answer_24 : decode b_m_answer 24 = .ok (.if_icmp .ne 23, 3) := by decide +kernel
theorem d_m_answer_27 : decode b_m_answer 27 = .ok (.aload_n 0, 1) := by decide +kernel
theorem d_m_answer_28 : decode b_m_answer 28 = .ok (.getfield 17, 3) := by decide +kernel
theorem d_m_answer_31 : decode b_m_answer 31 = .ok (.iload_n 3, 1) := by decide +kernel
theorem d_m_answer_32 : decode b_m_answer 32 = .ok (.iconst 1, 1) := by decide +kernel
theorem d_m_answer_33 : decode b_m_answer 33 = .ok (.bastore, 1) := by decide +kernel
theorem d_m_answer_34 : decode b_m_answer 34 = .ok (.aload_n 0, 1) := by decide +kernel
theorem d_m_answer_35 : decode b_m_answer 35 = .ok (.getfield 41, 3) := by decide +kernel
theorem d_m_answer_38 : decode b_m_answer 38 = .ok (.iload_n 1, 1) := by decide +kernel
theorem d_m_answer_39 : decode b_m_answer 39 = .ok (.dup2, 1) := by decide +kernel
theorem d_m_answer_40 : decode b_m_answer 40 = .ok (.iaload, 1) := by decide +kernel
theorem d_m_answer_41 : decode b_m_answer 41 = .ok (.iconst 1, 1) := by decide +kernel
theorem d_m_answer_42 : decode b_m_answer 42 = .ok (.iadd, 1) := by decide +kernel
theorem d_m_answer_43 : decode b_m_answer 43 = .ok (.iastore, 1) := by decide +kernel
theorem d_m_answer_44 : decode b_m_answer 44 = .ok (.goto 63, 3) := by decide +kernel
theorem d_m_answer_47 : decode b_m_answer 47 = .ok (.aload_n 0, 1) := by decide +kernel
theorem d_m_answer_48 : decode b_m_answer 48 = .ok (.getfield 20, 3) := by decide +kernel
theorem d_m_answer_51 : decode b_m_answer 51 = .ok (.iload_n 3, 1) := by decide +kernel
theorem d_m_answer_52 : decode b_m_answer 52 = .ok (.iconst 1, 1) := by decide +kernel
theorem d_m_answer_53 : decode b_m_answer 53 = .ok (.bastore, 1) := by decide +kernel
theorem d_m_answer_54 : decode b_m_answer 54 = .ok (.aload_n 0, 1) := by decide +kernel
theorem d_m_answer_55 : decode b_m_answer 55 = .ok (.getfield 47, 3) := by decide +kernel
theorem d_m_answer_58 : decode b_m_answer 58 = .ok (.bipush 15, 2) := by decide +kernel
theorem d_m_answer_60 : decode b_m_answer 60 = .ok (.iload_n 1, 1) := by decide +kernel
theorem d_m_answer_61 : decode b_m_answer 61 = .ok (.imul, 1) := by decide +kernel
theorem d_m_answer_62 : decode b_m_answer 62 = .ok (.aload_n 0, 1) := by decide +kernel
theorem d_m_answer_63 : decode b_m_answer 63 = .ok (.getfield 44, 3) := by decide +kernel
theorem d_m_answer_66 : decode b_m_answer 66 = .ok (.iload_n 1, 1) := by decide +kernel
theorem d_m_answer_67 : decode b_m_answer 67 = .ok (.iaload, 1) := by decide +kernel
theorem d_m_answer_68 : decode b_m_answer 68 = .ok (.iadd, 1) := by decide +kernel
theorem d_m_answer_69 : decode b_m_answer 69 = .ok (.iload_n 3, 1) := by decide +kernel
theorem d_m_answer_70 : decode b_m_answer 70 = .ok (.iastore, 1) := by decide +kernel
theorem d_m_answer_71 : decode b_m_answer 71 = .ok (.aload_n 0, 1) := by decide +kernel
theorem d_m_answer_72 : decode b_m_answer 72 = .ok (.getfield 50, 3) := by decide +kernel
theorem d_m_answer_75 : decode b_m_answer 75 = .ok (.bipush 15, 2) := by decide +kernel
theorem d_m_answer_77 : decode b_m_answer 77 = .ok (.iload_n 1, 1) := by decide +kernel
theorem d_m_answer_78 : decode b_m_answer 78 = .ok (.imul, 1) := by decide +kernel
theorem d_m_answer_79 : decode b_m_answer 79 = .ok (.aload_n 0, 1) := by decide +kernel
theorem d_m_answer_80 : decode b_m_answer 80 = .ok (.getfield 44, 3) := by decide +kernel
theorem d_m_answer_83 : decode b_m_answer 83 = .ok (.iload_n 1, 1) := by decide +kernel
theorem d_m_answer_84 : decode b_m_answer 84 = .ok (.iaload, 1) := by decide +kernel
theorem d_m_answer_85 : decode b_m_answer 85 = .ok (.iadd, 1) := by decide +kernel
theorem d_m_answer_86 : decode b_m_answer 86 = .ok (.iload_n 2, 1) := by decide +kernel
theorem d_m_answer_87 : decode b_m_answer 87 = .ok (.iconst 1, 1) := by decide +kernel
theorem d_m_answer_88 : decode b_m_answer 88 = .ok (.if_icmp .ne 7, 3) := by decide +kernel
theorem d_m_answer_91 : decode b_m_answer 91 = .ok (.iconst 1, 1) := by decide +kernel
theorem d_m_answer_92 : decode b_m_answer 92 = .ok (.goto 4, 3) := by decide +kernel
theorem d_m_answer_95 : decode b_m_answer 95 = .ok (.iconst 0, 1) := by decide +kernel
theorem d_m_answer_96 : decode b_m_answer 96 = .ok (.bastore, 1) := by decide +kernel
theorem d_m_answer_97 : decode b_m_answer 97 = .ok (.aload_n 0, 1) := by decide +kernel
theorem d_m_answer_98 : decode b_m_answer 98 = .ok (.getfield 44, 3) := by decide +kernel
theorem d_m_answer_101 : decode b_m_answer 101 = .ok (.iload_n 1, 1) := by decide +kernel
theorem d_m_answer_102 : decode b_m_answer 102 = .ok (.dup2, 1) := by decide +kernel
theorem d_m_answer_103 : decode b_m_answer 103 = .ok (.iaload, 1) := by decide +kernel
theorem d_m_answer_104 : decode b_m_answer 104 = .ok (.iconst 1, 1) := by decide +kernel
theorem d_m_answer_105 : decode b_m_answer 105 = .ok (.iadd, 1) := by decide +kernel
theorem d_m_answer_106 : decode b_m_answer 106 = .ok (.iastore, 1) := by decide +kernel
theorem d_m_answer_107 : decode b_m_answer 107 = .ok (.aload_n 0, 1) := by decide +kernel
theorem d_m_answer_108 : decode b_m_answer 108 = .ok (.iload_n 1, 1) := by decide +kernel
theorem d_m_answer_109 : decode b_m_answer 109 = .ok (.invokevirtual 106, 3) := by decide +kernel
theorem d_m_answer_112 : decode b_m_answer 112 = .ok (.ireturn, 1) := by decide +kernel
def f_m_answer (vc : Int32) (vh : Nat → Bool) (vk : Nat → Bool) (vb : Nat → Bool) (vt : Int32) (vg : Nat → Bool) (vo : Nat → Bool) (vd : Nat → Int32) (vu : Nat → Int32) (vw : Nat → Int32) (vs : Nat → Int32) (vx : Nat → Int32) (va : Nat → Int32) (vq : Nat → Int32) (vf : Nat → Bool) (ta : Int32) (ou : Int32) : Int32 × (Nat → Bool) × (Nat → Bool) × (Nat → Int32) × (Nat → Int32) × (Nat → Int32) × (Nat → Bool) := if (f_m_next vc vh vk vb vt vg vo vd vu vw vs va vq vf ta) = (-1) then
    (((-1), vk, vb, vx, va, vq, vf))
  else
    (if (f_m_in ou 0 2) = true then
      (if ou = 2 then
        ((f_m_state vc vh (va_up vk (f_m_next vc vh vk vb vt vg vo vd vu vw vs va vq vf ta).toNatClampNeg true) vb vt vg vo vd vu vw vs va vq vf ta, va_up vk (f_m_next vc vh vk vb vt vg vo vd vu vw vs va vq vf ta).toNatClampNeg true, vb, upd vx ta.toNatClampNeg ((vx ta.toNatClampNeg) + 1), va, vq, vf))
      else
        (if ou = 1 then
          ((f_m_state vc vh vk (va_up vb (f_m_next vc vh vk vb vt vg vo vd vu vw vs va vq vf ta).toNatClampNeg true) vt vg vo vd vu vw vs (upd va ta.toNatClampNeg ((va ta.toNatClampNeg) + 1)) (upd vq ((15 * ta) + (va ta.toNatClampNeg)).toNatClampNeg (f_m_next vc vh vk vb vt vg vo vd vu vw vs va vq vf ta)) (va_up vf ((15 * ta) + (va ta.toNatClampNeg)).toNatClampNeg true) ta, vk, va_up vb (f_m_next vc vh vk vb vt vg vo vd vu vw vs va vq vf ta).toNatClampNeg true, vx, upd va ta.toNatClampNeg ((va ta.toNatClampNeg) + 1), upd vq ((15 * ta) + (va ta.toNatClampNeg)).toNatClampNeg (f_m_next vc vh vk vb vt vg vo vd vu vw vs va vq vf ta), va_up vf ((15 * ta) + (va ta.toNatClampNeg)).toNatClampNeg true))
        else
          ((f_m_state vc vh vk (va_up vb (f_m_next vc vh vk vb vt vg vo vd vu vw vs va vq vf ta).toNatClampNeg true) vt vg vo vd vu vw vs (upd va ta.toNatClampNeg ((va ta.toNatClampNeg) + 1)) (upd vq ((15 * ta) + (va ta.toNatClampNeg)).toNatClampNeg (f_m_next vc vh vk vb vt vg vo vd vu vw vs va vq vf ta)) (va_up vf ((15 * ta) + (va ta.toNatClampNeg)).toNatClampNeg false) ta, vk, va_up vb (f_m_next vc vh vk vb vt vg vo vd vu vw vs va vq vf ta).toNatClampNeg true, vx, upd va ta.toNatClampNeg ((va ta.toNatClampNeg) + 1), upd vq ((15 * ta) + (va ta.toNatClampNeg)).toNatClampNeg (f_m_next vc vh vk vb vt vg vo vd vu vw vs va vq vf ta), va_up vf ((15 * ta) + (va ta.toNatClampNeg)).toNatClampNeg false))))
    else
      (((-1), vk, vb, vx, va, vq, vf)))
set_option maxHeartbeats 4000000 in
set_option maxRecDepth 100000 in
theorem c_m_answer (l : Launch) (D : va_G) (cA : Nat → ClassId) (mo qp qh qk qb qg qo qd qu qw qs qx qa qq qf : Nat) (vc : Int32) (vp : Nat → Int32) (vh : Nat → Bool) (vk : Nat → Bool) (vb : Nat → Bool) (vt : Int32) (vg : Nat → Bool) (vo : Nat → Bool) (vd : Nat → Int32) (vu : Nat → Int32) (vw : Nat → Int32) (vs : Nat → Int32) (vx : Nat → Int32) (va : Nat → Int32) (vq : Nat → Int32) (vf : Nat → Bool) (ta : Int32) (ou : Int32) (cn : Nat) (hcn : cn ≤ 40) (hvc : vc = nI cn) (tn : Nat) (htn : tn ≤ 4) (hvt : vt = nI tn) (hva : ∀ i, i < 4 → ∃ a, a ≤ 15 ∧ va i = nI a) : Met l y_m_answer (.code y_m_answer b_m_answer 4 (some .int) :: tb) (rmd 9) (Pro D cA [.ref mo, .int ta, .int ou] (fun H0 => va_P D classes [(mo, .inr (3, [.int vc, .ref qp, .ref qh, .ref qk, .ref qb, .int vt, .ref qg, .ref qo, .ref qd, .ref qu, .ref qw, .ref qs, .ref qx, .ref qa, .ref qq, .ref qf])), (qp, .inl (cA 2, 120, .inl vp)), (qh, .inl (cA 3, 1600, .inl (fun i => bz (vh i)))), (qk, .inl (cA 3, 40, .inl (fun i => bz (vk i)))), (qb, .inl (cA 3, 40, .inl (fun i => bz (vb i)))), (qg, .inl (cA 3, 160, .inl (fun i => bz (vg i)))), (qo, .inl (cA 3, 4, .inl (fun i => bz (vo i)))), (qd, .inl (cA 2, 4, .inl vd)), (qu, .inl (cA 2, 4, .inl vu)), (qw, .inl (cA 2, 4, .inl vw)), (qs, .inl (cA 2, 4, .inl vs)), (qx, .inl (cA 2, 4, .inl vx)), (qa, .inl (cA 2, 4, .inl va)), (qq, .inl (cA 2, 60, .inl vq)), (qf, .inl (cA 3, 60, .inl (fun i => bz (vf i))))] H0 ∧ va_D (fun _ => True) [(mo, .inr (3, [.int vc, .ref qp, .ref qh, .ref qk, .ref qb, .int vt, .ref qg, .ref qo, .ref qd, .ref qu, .ref qw, .ref qs, .ref qx, .ref qa, .ref qq, .ref qf])), (qp, .inl (cA 2, 120, .inl vp)), (qh, .inl (cA 3, 1600, .inl (fun i => bz (vh i)))), (qk, .inl (cA 3, 40, .inl (fun i => bz (vk i)))), (qb, .inl (cA 3, 40, .inl (fun i => bz (vb i)))), (qg, .inl (cA 3, 160, .inl (fun i => bz (vg i)))), (qo, .inl (cA 3, 4, .inl (fun i => bz (vo i)))), (qd, .inl (cA 2, 4, .inl vd)), (qu, .inl (cA 2, 4, .inl vu)), (qw, .inl (cA 2, 4, .inl vw)), (qs, .inl (cA 2, 4, .inl vs)), (qx, .inl (cA 2, 4, .inl vx)), (qa, .inl (cA 2, 4, .inl va)), (qq, .inl (cA 2, 60, .inl vq)), (qf, .inl (cA 3, 60, .inl (fun i => bz (vf i))))])) (Qmu (aw [(mo, .inr (3, [.int vc, .ref qp, .ref qh, .ref qk, .ref qb, .int vt, .ref qg, .ref qo, .ref qd, .ref qu, .ref qw, .ref qs, .ref qx, .ref qa, .ref qq, .ref qf])), (qp, .inl (cA 2, 120, .inl vp)), (qh, .inl (cA 3, 1600, .inl (fun i => bz (vh i)))), (qk, .inl (cA 3, 40, .inl (fun i => bz (vk i)))), (qb, .inl (cA 3, 40, .inl (fun i => bz (vb i)))), (qg, .inl (cA 3, 160, .inl (fun i => bz (vg i)))), (qo, .inl (cA 3, 4, .inl (fun i => bz (vo i)))), (qd, .inl (cA 2, 4, .inl vd)), (qu, .inl (cA 2, 4, .inl vu)), (qw, .inl (cA 2, 4, .inl vw)), (qs, .inl (cA 2, 4, .inl vs)), (qx, .inl (cA 2, 4, .inl vx)), (qa, .inl (cA 2, 4, .inl va)), (qq, .inl (cA 2, 60, .inl vq)), (qf, .inl (cA 3, 60, .inl (fun i => bz (vf i))))]) (fun v0 H0 => v0 = some (.int ((f_m_answer vc vh vk vb vt vg vo vd vu vw vs vx va vq vf ta ou).1)) ∧ va_P D classes [(mo, .inr (3, [.int vc, .ref qp, .ref qh, .ref qk, .ref qb, .int vt, .ref qg, .ref qo, .ref qd, .ref qu, .ref qw, .ref qs, .ref qx, .ref qa, .ref qq, .ref qf])), (qp, .inl (cA 2, 120, .inl vp)), (qh, .inl (cA 3, 1600, .inl (fun i => bz (vh i)))), (qk, .inl (cA 3, 40, .inl (fun i => bz (((f_m_answer vc vh vk vb vt vg vo vd vu vw vs vx va vq vf ta ou).2.1) i)))), (qb, .inl (cA 3, 40, .inl (fun i => bz (((f_m_answer vc vh vk vb vt vg vo vd vu vw vs vx va vq vf ta ou).2.2.1) i)))), (qg, .inl (cA 3, 160, .inl (fun i => bz (vg i)))), (qo, .inl (cA 3, 4, .inl (fun i => bz (vo i)))), (qd, .inl (cA 2, 4, .inl vd)), (qu, .inl (cA 2, 4, .inl vu)), (qw, .inl (cA 2, 4, .inl vw)), (qs, .inl (cA 2, 4, .inl vs)), (qx, .inl (cA 2, 4, .inl ((f_m_answer vc vh vk vb vt vg vo vd vu vw vs vx va vq vf ta ou).2.2.2.1))), (qa, .inl (cA 2, 4, .inl ((f_m_answer vc vh vk vb vt vg vo vd vu vw vs vx va vq vf ta ou).2.2.2.2.1))), (qq, .inl (cA 2, 60, .inl ((f_m_answer vc vh vk vb vt vg vo vd vu vw vs vx va vq vf ta ou).2.2.2.2.2.1))), (qf, .inl (cA 3, 60, .inl (fun i => bz (((f_m_answer vc vh vk vb vt vg vo vd vu vw vs vx va vq vf ta ou).2.2.2.2.2.2) i))))] H0 ∧ va_D (aw [(mo, .inr (3, [.int vc, .ref qp, .ref qh, .ref qk, .ref qb, .int vt, .ref qg, .ref qo, .ref qd, .ref qu, .ref qw, .ref qs, .ref qx, .ref qa, .ref qq, .ref qf])), (qp, .inl (cA 2, 120, .inl vp)), (qh, .inl (cA 3, 1600, .inl (fun i => bz (vh i)))), (qk, .inl (cA 3, 40, .inl (fun i => bz (vk i)))), (qb, .inl (cA 3, 40, .inl (fun i => bz (vb i)))), (qg, .inl (cA 3, 160, .inl (fun i => bz (vg i)))), (qo, .inl (cA 3, 4, .inl (fun i => bz (vo i)))), (qd, .inl (cA 2, 4, .inl vd)), (qu, .inl (cA 2, 4, .inl vu)), (qw, .inl (cA 2, 4, .inl vw)), (qs, .inl (cA 2, 4, .inl vs)), (qx, .inl (cA 2, 4, .inl vx)), (qa, .inl (cA 2, 4, .inl va)), (qq, .inl (cA 2, 60, .inl vq)), (qf, .inl (cA 3, 60, .inl (fun i => bz (vf i))))]) [(mo, .inr (3, [.int vc, .ref qp, .ref qh, .ref qk, .ref qb, .int vt, .ref qg, .ref qo, .ref qd, .ref qu, .ref qw, .ref qs, .ref qx, .ref qa, .ref qq, .ref qf])), (qp, .inl (cA 2, 120, .inl vp)), (qh, .inl (cA 3, 1600, .inl (fun i => bz (vh i)))), (qk, .inl (cA 3, 40, .inl (fun i => bz (((f_m_answer vc vh vk vb vt vg vo vd vu vw vs vx va vq vf ta ou).2.1) i)))), (qb, .inl (cA 3, 40, .inl (fun i => bz (((f_m_answer vc vh vk vb vt vg vo vd vu vw vs vx va vq vf ta ou).2.2.1) i)))), (qg, .inl (cA 3, 160, .inl (fun i => bz (vg i)))), (qo, .inl (cA 3, 4, .inl (fun i => bz (vo i)))), (qd, .inl (cA 2, 4, .inl vd)), (qu, .inl (cA 2, 4, .inl vu)), (qw, .inl (cA 2, 4, .inl vw)), (qs, .inl (cA 2, 4, .inl vs)), (qx, .inl (cA 2, 4, .inl ((f_m_answer vc vh vk vb vt vg vo vd vu vw vs vx va vq vf ta ou).2.2.2.1))), (qa, .inl (cA 2, 4, .inl ((f_m_answer vc vh vk vb vt vg vo vd vu vw vs vx va vq vf ta ou).2.2.2.2.1))), (qq, .inl (cA 2, 60, .inl ((f_m_answer vc vh vk vb vt vg vo vd vu vw vs vx va vq vf ta ou).2.2.2.2.2.1))), (qf, .inl (cA 3, 60, .inl (fun i => bz (((f_m_answer vc vh vk vb vt vg vo vd vu vw vs vx va vq vf ta ou).2.2.2.2.2.2) i))))])) 0 0 (aw [(mo, .inr (3, [.int vc, .ref qp, .ref qh, .ref qk, .ref qb, .int vt, .ref qg, .ref qo, .ref qd, .ref qu, .ref qw, .ref qs, .ref qx, .ref qa, .ref qq, .ref qf])), (qp, .inl (cA 2, 120, .inl vp)), (qh, .inl (cA 3, 1600, .inl (fun i => bz (vh i)))), (qk, .inl (cA 3, 40, .inl (fun i => bz (vk i)))), (qb, .inl (cA 3, 40, .inl (fun i => bz (vb i)))), (qg, .inl (cA 3, 160, .inl (fun i => bz (vg i)))), (qo, .inl (cA 3, 4, .inl (fun i => bz (vo i)))), (qd, .inl (cA 2, 4, .inl vd)), (qu, .inl (cA 2, 4, .inl vu)), (qw, .inl (cA 2, 4, .inl vw)), (qs, .inl (cA 2, 4, .inl vs)), (qx, .inl (cA 2, 4, .inl vx)), (qa, .inl (cA 2, 4, .inl va)), (qq, .inl (cA 2, 60, .inl vq)), (qf, .inl (cA 3, 60, .inl (fun i => bz (vf i))))]) := by
  refine ro_in (by decide) (Nat.le_of_ble_eq_true rfl) (fun p e s m below meth c ls FX hnm hK hP hl => ?_)
  have hl : lv_has ls 4 [(0, .ref mo), (1, .int ta), (2, .int ou)] := hl
  obtain ⟨hP, hD0⟩ := hP
  have hP : va_P D classes [(mo, .inr (3, [.int vc, .ref qp, .ref qh, .ref qk, .ref qb, .int vt, .ref qg, .ref qo, .ref qd, .ref qu, .ref qw, .ref qs, .ref qx, .ref qa, .ref qq, .ref qf])), (qp, .inl (cA 2, 120, .inl vp)), (qh, .inl (cA 3, 1600, .inl (fun i => bz (vh i)))), (qk, .inl (cA 3, 40, .inl (fun i => bz (vk i)))), (qb, .inl (cA 3, 40, .inl (fun i => bz (vb i)))), (qg, .inl (cA 3, 160, .inl (fun i => bz (vg i)))), (qo, .inl (cA 3, 4, .inl (fun i => bz (vo i)))), (qd, .inl (cA 2, 4, .inl vd)), (qu, .inl (cA 2, 4, .inl vu)), (qw, .inl (cA 2, 4, .inl vw)), (qs, .inl (cA 2, 4, .inl vs)), (qx, .inl (cA 2, 4, .inl vx)), (qa, .inl (cA 2, 4, .inl va)), (qq, .inl (cA 2, 60, .inl vq)), (qf, .inl (cA 3, 60, .inl (fun i => bz (vf i))))] s.heap := hP
  have hD : va_D (aw [(mo, .inr (3, [.int vc, .ref qp, .ref qh, .ref qk, .ref qb, .int vt, .ref qg, .ref qo, .ref qd, .ref qu, .ref qw, .ref qs, .ref qx, .ref qa, .ref qq, .ref qf])), (qp, .inl (cA 2, 120, .inl vp)), (qh, .inl (cA 3, 1600, .inl (fun i => bz (vh i)))), (qk, .inl (cA 3, 40, .inl (fun i => bz (vk i)))), (qb, .inl (cA 3, 40, .inl (fun i => bz (vb i)))), (qg, .inl (cA 3, 160, .inl (fun i => bz (vg i)))), (qo, .inl (cA 3, 4, .inl (fun i => bz (vo i)))), (qd, .inl (cA 2, 4, .inl vd)), (qu, .inl (cA 2, 4, .inl vu)), (qw, .inl (cA 2, 4, .inl vw)), (qs, .inl (cA 2, 4, .inl vs)), (qx, .inl (cA 2, 4, .inl vx)), (qa, .inl (cA 2, 4, .inl va)), (qq, .inl (cA 2, 60, .inl vq)), (qf, .inl (cA 3, 60, .inl (fun i => bz (vf i))))]) [(mo, .inr (3, [.int vc, .ref qp, .ref qh, .ref qk, .ref qb, .int vt, .ref qg, .ref qo, .ref qd, .ref qu, .ref qw, .ref qs, .ref qx, .ref qa, .ref qq, .ref qf])), (qp, .inl (cA 2, 120, .inl vp)), (qh, .inl (cA 3, 1600, .inl (fun i => bz (vh i)))), (qk, .inl (cA 3, 40, .inl (fun i => bz (vk i)))), (qb, .inl (cA 3, 40, .inl (fun i => bz (vb i)))), (qg, .inl (cA 3, 160, .inl (fun i => bz (vg i)))), (qo, .inl (cA 3, 4, .inl (fun i => bz (vo i)))), (qd, .inl (cA 2, 4, .inl vd)), (qu, .inl (cA 2, 4, .inl vu)), (qw, .inl (cA 2, 4, .inl vw)), (qs, .inl (cA 2, 4, .inl vs)), (qx, .inl (cA 2, 4, .inl vx)), (qa, .inl (cA 2, 4, .inl va)), (qq, .inl (cA 2, 60, .inl vq)), (qf, .inl (cA 3, 60, .inl (fun i => bz (vf i))))] := aw_self hD0
  generalize (aw [(mo, .inr (3, [.int vc, .ref qp, .ref qh, .ref qk, .ref qb, .int vt, .ref qg, .ref qo, .ref qd, .ref qu, .ref qw, .ref qs, .ref qx, .ref qa, .ref qq, .ref qf])), (qp, .inl (cA 2, 120, .inl vp)), (qh, .inl (cA 3, 1600, .inl (fun i => bz (vh i)))), (qk, .inl (cA 3, 40, .inl (fun i => bz (vk i)))), (qb, .inl (cA 3, 40, .inl (fun i => bz (vb i)))), (qg, .inl (cA 3, 160, .inl (fun i => bz (vg i)))), (qo, .inl (cA 3, 4, .inl (fun i => bz (vo i)))), (qd, .inl (cA 2, 4, .inl vd)), (qu, .inl (cA 2, 4, .inl vu)), (qw, .inl (cA 2, 4, .inl vw)), (qs, .inl (cA 2, 4, .inl vs)), (qx, .inl (cA 2, 4, .inl vx)), (qa, .inl (cA 2, 4, .inl va)), (qq, .inl (cA 2, 60, .inl vq)), (qf, .inl (cA 3, 60, .inl (fun i => bz (vf i))))]) = A at hD ⊢
  have hS : va_S A s.heap s.heap [] := va_S.rf
  generalize ([.ref mo, .int ta, .int ou] : List Value).toArray = args at FX ⊢
  obtain ⟨hx, hb, hml, hown, hts, hr, hlk⟩ := id FX
  refine lv_aload_n hx hb d_m_answer_0 rfl (lv_at hl 0 rfl) ?_
  refine lv_iload_n hx hb d_m_answer_1 rfl (lv_at hl 1 rfl) ?_
  refine ro_V (v := .int (f_m_next vc vh vk vb vt vg vo vd vu vw vs va vq vf ta)) (As := [.int ta]) (rest := []) (q0 := 0) FX hK (c_m_next l D cA mo qp qh qk qb qg qo qd qu qw qs qx qa qq qf vc vp vh vk vb vt vg vo vd vu vw vs vx va vq vf ta cn hcn hvc tn htn hvt hva) hP hP rfl rfl rfl kc_m_next km_m_109 ki_m ks_m_next ke_m_next rfl ok_m_next ⟨Nat.le_of_ble_eq_true rfl, Nat.le_of_ble_eq_true rfl⟩ ⟨Nat.zero_le _, Nat.zero_le _⟩ hl.1 rfl (Nat.le_of_ble_eq_true rfl) d_m_answer_2 ?_
  refine lv_istore_n (lv' := [(3, .int (f_m_next vc vh vk vb vt vg vo vd vu vw vs va vq vf ta)), (0, .ref mo), (1, .int ta), (2, .int ou)]) hx hb d_m_answer_5 rfl hl (by decide) rfl (fun ls hl => ?_)
  refine lv_iload_n hx hb d_m_answer_6 rfl (lv_at hl 0 rfl) ?_
  refine lv_iconst (v := (-1)) hx hb d_m_answer_7 (by decide) ?_
  refine lv_icmp_eq (tgt := 20) hx hb d_m_answer_8 (by decide) (fun c1 => ?_) (fun c1 => ?_)
  · have c1 := c1
    refine lv_iconst (v := (-1)) hx hb d_m_answer_20 (by decide) ?_
    exact mu_iret FX hS (by rw [show (f_m_answer vc vh vk vb vt vg vo vd vu vw vs vx va vq vf ta ou) = ((-1), vk, vb, vx, va, vq, vf) from (by rw [f_m_answer, if_pos c1])]; exact ⟨rfl, hP, hD⟩) d_m_answer_21
  · have c1 := c1
    obtain ⟨tj, htj, htt, hlt15, c0, hc0, hce⟩ := nx_ok hcn hvc htn hvt hva c1
    obtain ⟨an, han, hae⟩ := hlt15
    refine lv_iload_n hx hb d_m_answer_11 rfl (lv_at hl 3 rfl) ?_
    refine lv_iconst (v := 0) hx hb d_m_answer_12 (by decide) ?_
    refine lv_iconst (v := 2) hx hb d_m_answer_13 (by decide) ?_
    refine ro_S (v := .int (bz (f_m_in ou 0 2))) (As := [.int ou, .int 0, .int 2]) (rest := []) FX hK (c_m_in l D cA ou 0 2) trivial kc_m_in km_m_57 ki_m ks_m_in rfl ok_m_in ⟨Nat.le_of_ble_eq_true rfl, Nat.le_of_ble_eq_true rfl⟩ ⟨Nat.zero_le _, Nat.zero_le _⟩ hl.1 rfl (Nat.le_of_ble_eq_true rfl) d_m_answer_14 ?_
    refine lv_if_ne (tgt := 22) hx hb d_m_answer_17 (by decide) (fun c2 => ?_) (fun c2 => ?_)
    · have c2 := bz_t c2
      refine lv_iload_n hx hb d_m_answer_22 rfl (lv_at hl 3 rfl) ?_
      refine lv_iconst (v := 2) hx hb d_m_answer_23 (by decide) ?_
      refine lv_icmp_ne (tgt := 47) hx hb d_m_answer_24 (by decide) (fun c3 => ?_) (fun c3 => ?_)
      · have c3 := c3
        refine lv_aload_n hx hb d_m_answer_47 rfl (lv_at hl 1 rfl) ?_
        refine ro_get (v := .ref qb) FX hK hP 0 4 rfl rfl rfl i_m (by decide) kf_m_20 d_m_answer_48 ?_
        refine lv_iload_n hx hb d_m_answer_51 rfl (lv_at hl 0 rfl) ?_
        refine lv_iconst (v := 1) hx hb d_m_answer_52 (by decide) ?_
        refine W.eq (g2 := F0 m 53 ls [.int (bz true), .int (f_m_next vc vh vk vb vt vg vo vd vu vw vs va vq vf ta), .ref qb]) rfl ?_
        refine va_zast (x := bz true) hx hb hK.1 hP hD hS 4 3 rfl rfl (vin hce (by omega) (by decide)) d_m_answer_53 (fun H locs hP hD hS => ?_)
        rw [upd_bz] at hP hD
        have hP : va_P D classes [(mo, .inr (3, [.int vc, .ref qp, .ref qh, .ref qk, .ref qb, .int vt, .ref qg, .ref qo, .ref qd, .ref qu, .ref qw, .ref qs, .ref qx, .ref qa, .ref qq, .ref qf])), (qp, .inl (cA 2, 120, .inl vp)), (qh, .inl (cA 3, 1600, .inl (fun i => bz (vh i)))), (qk, .inl (cA 3, 40, .inl (fun i => bz (vk i)))), (qb, .inl (cA 3, 40, .inl (fun i => bz ((va_up vb (f_m_next vc vh vk vb vt vg vo vd vu vw vs va vq vf ta).toNatClampNeg true) i)))), (qg, .inl (cA 3, 160, .inl (fun i => bz (vg i)))), (qo, .inl (cA 3, 4, .inl (fun i => bz (vo i)))), (qd, .inl (cA 2, 4, .inl vd)), (qu, .inl (cA 2, 4, .inl vu)), (qw, .inl (cA 2, 4, .inl vw)), (qs, .inl (cA 2, 4, .inl vs)), (qx, .inl (cA 2, 4, .inl vx)), (qa, .inl (cA 2, 4, .inl va)), (qq, .inl (cA 2, 60, .inl vq)), (qf, .inl (cA 3, 60, .inl (fun i => bz (vf i))))] H := hP
        have hD : va_D A [(mo, .inr (3, [.int vc, .ref qp, .ref qh, .ref qk, .ref qb, .int vt, .ref qg, .ref qo, .ref qd, .ref qu, .ref qw, .ref qs, .ref qx, .ref qa, .ref qq, .ref qf])), (qp, .inl (cA 2, 120, .inl vp)), (qh, .inl (cA 3, 1600, .inl (fun i => bz (vh i)))), (qk, .inl (cA 3, 40, .inl (fun i => bz (vk i)))), (qb, .inl (cA 3, 40, .inl (fun i => bz ((va_up vb (f_m_next vc vh vk vb vt vg vo vd vu vw vs va vq vf ta).toNatClampNeg true) i)))), (qg, .inl (cA 3, 160, .inl (fun i => bz (vg i)))), (qo, .inl (cA 3, 4, .inl (fun i => bz (vo i)))), (qd, .inl (cA 2, 4, .inl vd)), (qu, .inl (cA 2, 4, .inl vu)), (qw, .inl (cA 2, 4, .inl vw)), (qs, .inl (cA 2, 4, .inl vs)), (qx, .inl (cA 2, 4, .inl vx)), (qa, .inl (cA 2, 4, .inl va)), (qq, .inl (cA 2, 60, .inl vq)), (qf, .inl (cA 3, 60, .inl (fun i => bz (vf i))))] := hD
        refine lv_aload_n hx hb d_m_answer_54 rfl (lv_at hl 1 rfl) ?_
        refine ro_get (v := .ref qq) FX hK hP 0 14 rfl rfl rfl i_m (by decide) kf_m_47 d_m_answer_55 ?_
        refine lv_bipush (v := 15) hx hb d_m_answer_58 (by decide) ?_
        refine lv_iload_n hx hb d_m_answer_60 rfl (lv_at hl 2 rfl) ?_
        refine lv_imul hx hb d_m_answer_61 ?_
        refine lv_aload_n hx hb d_m_answer_62 rfl (lv_at hl 1 rfl) ?_
        refine ro_get (v := .ref qa) FX hK hP 0 13 rfl rfl rfl i_m (by decide) kf_m_44 d_m_answer_63 ?_
        refine lv_iload_n hx hb d_m_answer_66 rfl (lv_at hl 2 rfl) ?_
        refine va_iald hx hb hK.1 hP 12 2 rfl rfl (vin htt (by omega) (by decide)) d_m_answer_67 ?_
        refine lv_iadd hx hb d_m_answer_68 ?_
        refine lv_iload_n hx hb d_m_answer_69 rfl (lv_at hl 0 rfl) ?_
        refine va_iast (x := f_m_next vc vh vk vb vt vg vo vd vu vw vs va vq vf ta) hx hb hK.1 hP hD hS 13 2 rfl rfl (an_in htt (by omega) hae han) d_m_answer_70 (fun H locs hP hD hS => ?_)
        have hP : va_P D classes [(mo, .inr (3, [.int vc, .ref qp, .ref qh, .ref qk, .ref qb, .int vt, .ref qg, .ref qo, .ref qd, .ref qu, .ref qw, .ref qs, .ref qx, .ref qa, .ref qq, .ref qf])), (qp, .inl (cA 2, 120, .inl vp)), (qh, .inl (cA 3, 1600, .inl (fun i => bz (vh i)))), (qk, .inl (cA 3, 40, .inl (fun i => bz (vk i)))), (qb, .inl (cA 3, 40, .inl (fun i => bz ((va_up vb (f_m_next vc vh vk vb vt vg vo vd vu vw vs va vq vf ta).toNatClampNeg true) i)))), (qg, .inl (cA 3, 160, .inl (fun i => bz (vg i)))), (qo, .inl (cA 3, 4, .inl (fun i => bz (vo i)))), (qd, .inl (cA 2, 4, .inl vd)), (qu, .inl (cA 2, 4, .inl vu)), (qw, .inl (cA 2, 4, .inl vw)), (qs, .inl (cA 2, 4, .inl vs)), (qx, .inl (cA 2, 4, .inl vx)), (qa, .inl (cA 2, 4, .inl va)), (qq, .inl (cA 2, 60, .inl (upd vq ((15 * ta) + (va ta.toNatClampNeg)).toNatClampNeg (f_m_next vc vh vk vb vt vg vo vd vu vw vs va vq vf ta)))), (qf, .inl (cA 3, 60, .inl (fun i => bz (vf i))))] H := hP
        have hD : va_D A [(mo, .inr (3, [.int vc, .ref qp, .ref qh, .ref qk, .ref qb, .int vt, .ref qg, .ref qo, .ref qd, .ref qu, .ref qw, .ref qs, .ref qx, .ref qa, .ref qq, .ref qf])), (qp, .inl (cA 2, 120, .inl vp)), (qh, .inl (cA 3, 1600, .inl (fun i => bz (vh i)))), (qk, .inl (cA 3, 40, .inl (fun i => bz (vk i)))), (qb, .inl (cA 3, 40, .inl (fun i => bz ((va_up vb (f_m_next vc vh vk vb vt vg vo vd vu vw vs va vq vf ta).toNatClampNeg true) i)))), (qg, .inl (cA 3, 160, .inl (fun i => bz (vg i)))), (qo, .inl (cA 3, 4, .inl (fun i => bz (vo i)))), (qd, .inl (cA 2, 4, .inl vd)), (qu, .inl (cA 2, 4, .inl vu)), (qw, .inl (cA 2, 4, .inl vw)), (qs, .inl (cA 2, 4, .inl vs)), (qx, .inl (cA 2, 4, .inl vx)), (qa, .inl (cA 2, 4, .inl va)), (qq, .inl (cA 2, 60, .inl (upd vq ((15 * ta) + (va ta.toNatClampNeg)).toNatClampNeg (f_m_next vc vh vk vb vt vg vo vd vu vw vs va vq vf ta)))), (qf, .inl (cA 3, 60, .inl (fun i => bz (vf i))))] := hD
        refine lv_aload_n hx hb d_m_answer_71 rfl (lv_at hl 1 rfl) ?_
        refine ro_get (v := .ref qf) FX hK hP 0 15 rfl rfl rfl i_m (by decide) kf_m_50 d_m_answer_72 ?_
        refine lv_bipush (v := 15) hx hb d_m_answer_75 (by decide) ?_
        refine lv_iload_n hx hb d_m_answer_77 rfl (lv_at hl 2 rfl) ?_
        refine lv_imul hx hb d_m_answer_78 ?_
        refine lv_aload_n hx hb d_m_answer_79 rfl (lv_at hl 1 rfl) ?_
        refine ro_get (v := .ref qa) FX hK hP 0 13 rfl rfl rfl i_m (by decide) kf_m_44 d_m_answer_80 ?_
        refine lv_iload_n hx hb d_m_answer_83 rfl (lv_at hl 2 rfl) ?_
        refine va_iald hx hb hK.1 hP 12 2 rfl rfl (vin htt (by omega) (by decide)) d_m_answer_84 ?_
        refine lv_iadd hx hb d_m_answer_85 ?_
        refine lv_iload_n hx hb d_m_answer_86 rfl (lv_at hl 3 rfl) ?_
        refine lv_iconst (v := 1) hx hb d_m_answer_87 (by decide) ?_
        refine lv_icmp_ne (tgt := 95) hx hb d_m_answer_88 (by decide) (fun c4 => ?_) (fun c4 => ?_)
        · have c4 := c4
          refine lv_iconst (v := 0) hx hb d_m_answer_95 (by decide) ?_
          refine W.eq (g2 := F0 m 96 ls [.int (bz false), .int ((15 * ta) + (va ta.toNatClampNeg)), .ref qf]) rfl ?_
          refine va_zast (x := bz false) hx hb hK.1 hP hD hS 14 3 rfl rfl (an_in htt (by omega) hae han) d_m_answer_96 (fun H locs hP hD hS => ?_)
          rw [upd_bz] at hP hD
          have hP : va_P D classes [(mo, .inr (3, [.int vc, .ref qp, .ref qh, .ref qk, .ref qb, .int vt, .ref qg, .ref qo, .ref qd, .ref qu, .ref qw, .ref qs, .ref qx, .ref qa, .ref qq, .ref qf])), (qp, .inl (cA 2, 120, .inl vp)), (qh, .inl (cA 3, 1600, .inl (fun i => bz (vh i)))), (qk, .inl (cA 3, 40, .inl (fun i => bz (vk i)))), (qb, .inl (cA 3, 40, .inl (fun i => bz ((va_up vb (f_m_next vc vh vk vb vt vg vo vd vu vw vs va vq vf ta).toNatClampNeg true) i)))), (qg, .inl (cA 3, 160, .inl (fun i => bz (vg i)))), (qo, .inl (cA 3, 4, .inl (fun i => bz (vo i)))), (qd, .inl (cA 2, 4, .inl vd)), (qu, .inl (cA 2, 4, .inl vu)), (qw, .inl (cA 2, 4, .inl vw)), (qs, .inl (cA 2, 4, .inl vs)), (qx, .inl (cA 2, 4, .inl vx)), (qa, .inl (cA 2, 4, .inl va)), (qq, .inl (cA 2, 60, .inl (upd vq ((15 * ta) + (va ta.toNatClampNeg)).toNatClampNeg (f_m_next vc vh vk vb vt vg vo vd vu vw vs va vq vf ta)))), (qf, .inl (cA 3, 60, .inl (fun i => bz ((va_up vf ((15 * ta) + (va ta.toNatClampNeg)).toNatClampNeg false) i))))] H := hP
          have hD : va_D A [(mo, .inr (3, [.int vc, .ref qp, .ref qh, .ref qk, .ref qb, .int vt, .ref qg, .ref qo, .ref qd, .ref qu, .ref qw, .ref qs, .ref qx, .ref qa, .ref qq, .ref qf])), (qp, .inl (cA 2, 120, .inl vp)), (qh, .inl (cA 3, 1600, .inl (fun i => bz (vh i)))), (qk, .inl (cA 3, 40, .inl (fun i => bz (vk i)))), (qb, .inl (cA 3, 40, .inl (fun i => bz ((va_up vb (f_m_next vc vh vk vb vt vg vo vd vu vw vs va vq vf ta).toNatClampNeg true) i)))), (qg, .inl (cA 3, 160, .inl (fun i => bz (vg i)))), (qo, .inl (cA 3, 4, .inl (fun i => bz (vo i)))), (qd, .inl (cA 2, 4, .inl vd)), (qu, .inl (cA 2, 4, .inl vu)), (qw, .inl (cA 2, 4, .inl vw)), (qs, .inl (cA 2, 4, .inl vs)), (qx, .inl (cA 2, 4, .inl vx)), (qa, .inl (cA 2, 4, .inl va)), (qq, .inl (cA 2, 60, .inl (upd vq ((15 * ta) + (va ta.toNatClampNeg)).toNatClampNeg (f_m_next vc vh vk vb vt vg vo vd vu vw vs va vq vf ta)))), (qf, .inl (cA 3, 60, .inl (fun i => bz ((va_up vf ((15 * ta) + (va ta.toNatClampNeg)).toNatClampNeg false) i))))] := hD
          refine lv_aload_n hx hb d_m_answer_97 rfl (lv_at hl 1 rfl) ?_
          refine ro_get (v := .ref qa) FX hK hP 0 13 rfl rfl rfl i_m (by decide) kf_m_44 d_m_answer_98 ?_
          refine lv_iload_n hx hb d_m_answer_101 rfl (lv_at hl 2 rfl) ?_
          refine lv_dup2_11 hx hb d_m_answer_102 rfl rfl ?_
          refine va_iald hx hb hK.1 hP 12 2 rfl rfl (vin htt (by omega) (by decide)) d_m_answer_103 ?_
          refine lv_iconst (v := 1) hx hb d_m_answer_104 (by decide) ?_
          refine lv_iadd hx hb d_m_answer_105 ?_
          refine va_iast (x := (va ta.toNatClampNeg) + 1) hx hb hK.1 hP hD hS 12 2 rfl rfl (vin htt (by omega) (by decide)) d_m_answer_106 (fun H locs hP hD hS => ?_)
          have hP : va_P D classes [(mo, .inr (3, [.int vc, .ref qp, .ref qh, .ref qk, .ref qb, .int vt, .ref qg, .ref qo, .ref qd, .ref qu, .ref qw, .ref qs, .ref qx, .ref qa, .ref qq, .ref qf])), (qp, .inl (cA 2, 120, .inl vp)), (qh, .inl (cA 3, 1600, .inl (fun i => bz (vh i)))), (qk, .inl (cA 3, 40, .inl (fun i => bz (vk i)))), (qb, .inl (cA 3, 40, .inl (fun i => bz ((va_up vb (f_m_next vc vh vk vb vt vg vo vd vu vw vs va vq vf ta).toNatClampNeg true) i)))), (qg, .inl (cA 3, 160, .inl (fun i => bz (vg i)))), (qo, .inl (cA 3, 4, .inl (fun i => bz (vo i)))), (qd, .inl (cA 2, 4, .inl vd)), (qu, .inl (cA 2, 4, .inl vu)), (qw, .inl (cA 2, 4, .inl vw)), (qs, .inl (cA 2, 4, .inl vs)), (qx, .inl (cA 2, 4, .inl vx)), (qa, .inl (cA 2, 4, .inl (upd va ta.toNatClampNeg ((va ta.toNatClampNeg) + 1)))), (qq, .inl (cA 2, 60, .inl (upd vq ((15 * ta) + (va ta.toNatClampNeg)).toNatClampNeg (f_m_next vc vh vk vb vt vg vo vd vu vw vs va vq vf ta)))), (qf, .inl (cA 3, 60, .inl (fun i => bz ((va_up vf ((15 * ta) + (va ta.toNatClampNeg)).toNatClampNeg false) i))))] H := hP
          have hD : va_D A [(mo, .inr (3, [.int vc, .ref qp, .ref qh, .ref qk, .ref qb, .int vt, .ref qg, .ref qo, .ref qd, .ref qu, .ref qw, .ref qs, .ref qx, .ref qa, .ref qq, .ref qf])), (qp, .inl (cA 2, 120, .inl vp)), (qh, .inl (cA 3, 1600, .inl (fun i => bz (vh i)))), (qk, .inl (cA 3, 40, .inl (fun i => bz (vk i)))), (qb, .inl (cA 3, 40, .inl (fun i => bz ((va_up vb (f_m_next vc vh vk vb vt vg vo vd vu vw vs va vq vf ta).toNatClampNeg true) i)))), (qg, .inl (cA 3, 160, .inl (fun i => bz (vg i)))), (qo, .inl (cA 3, 4, .inl (fun i => bz (vo i)))), (qd, .inl (cA 2, 4, .inl vd)), (qu, .inl (cA 2, 4, .inl vu)), (qw, .inl (cA 2, 4, .inl vw)), (qs, .inl (cA 2, 4, .inl vs)), (qx, .inl (cA 2, 4, .inl vx)), (qa, .inl (cA 2, 4, .inl (upd va ta.toNatClampNeg ((va ta.toNatClampNeg) + 1)))), (qq, .inl (cA 2, 60, .inl (upd vq ((15 * ta) + (va ta.toNatClampNeg)).toNatClampNeg (f_m_next vc vh vk vb vt vg vo vd vu vw vs va vq vf ta)))), (qf, .inl (cA 3, 60, .inl (fun i => bz ((va_up vf ((15 * ta) + (va ta.toNatClampNeg)).toNatClampNeg false) i))))] := hD
          refine lv_aload_n hx hb d_m_answer_107 rfl (lv_at hl 1 rfl) ?_
          refine lv_iload_n hx hb d_m_answer_108 rfl (lv_at hl 2 rfl) ?_
          refine ro_V (v := .int (f_m_state vc vh vk (va_up vb (f_m_next vc vh vk vb vt vg vo vd vu vw vs va vq vf ta).toNatClampNeg true) vt vg vo vd vu vw vs (upd va ta.toNatClampNeg ((va ta.toNatClampNeg) + 1)) (upd vq ((15 * ta) + (va ta.toNatClampNeg)).toNatClampNeg (f_m_next vc vh vk vb vt vg vo vd vu vw vs va vq vf ta)) (va_up vf ((15 * ta) + (va ta.toNatClampNeg)).toNatClampNeg false) ta)) (As := [.int ta]) (rest := []) (q0 := 0) FX hK (c_m_state l D cA mo qp qh qk qb qg qo qd qu qw qs qx qa qq qf vc vp vh vk (va_up vb (f_m_next vc vh vk vb vt vg vo vd vu vw vs va vq vf ta).toNatClampNeg true) vt vg vo vd vu vw vs vx (upd va ta.toNatClampNeg ((va ta.toNatClampNeg) + 1)) (upd vq ((15 * ta) + (va ta.toNatClampNeg)).toNatClampNeg (f_m_next vc vh vk vb vt vg vo vd vu vw vs va vq vf ta)) (va_up vf ((15 * ta) + (va ta.toNatClampNeg)).toNatClampNeg false) ta cn hcn hvc tn htn hvt (va_up1 hva htt (by omega) hae han)) hP hP rfl rfl rfl kc_m_state km_m_106 ki_m ks_m_state ke_m_state rfl ok_m_state ⟨Nat.le_of_ble_eq_true rfl, Nat.le_of_ble_eq_true rfl⟩ ⟨Nat.zero_le _, Nat.zero_le _⟩ hl.1 rfl (Nat.le_of_ble_eq_true rfl) d_m_answer_109 ?_
          exact mu_iret FX hS (by rw [show (f_m_answer vc vh vk vb vt vg vo vd vu vw vs vx va vq vf ta ou) = (f_m_state vc vh vk (va_up vb (f_m_next vc vh vk vb vt vg vo vd vu vw vs va vq vf ta).toNatClampNeg true) vt vg vo vd vu vw vs (upd va ta.toNatClampNeg ((va ta.toNatClampNeg) + 1)) (upd vq ((15 * ta) + (va ta.toNatClampNeg)).toNatClampNeg (f_m_next vc vh vk vb vt vg vo vd vu vw vs va vq vf ta)) (va_up vf ((15 * ta) + (va ta.toNatClampNeg)).toNatClampNeg false) ta, vk, va_up vb (f_m_next vc vh vk vb vt vg vo vd vu vw vs va vq vf ta).toNatClampNeg true, vx, upd va ta.toNatClampNeg ((va ta.toNatClampNeg) + 1), upd vq ((15 * ta) + (va ta.toNatClampNeg)).toNatClampNeg (f_m_next vc vh vk vb vt vg vo vd vu vw vs va vq vf ta), va_up vf ((15 * ta) + (va ta.toNatClampNeg)).toNatClampNeg false) from (by rw [f_m_answer, if_neg c1, if_pos c2, if_neg c3, if_neg c4])]; exact ⟨rfl, hP, hD⟩) d_m_answer_112
        · have c4 := c4
          refine lv_iconst (v := 1) hx hb d_m_answer_91 (by decide) ?_
          refine lv_goto (tgt := 96) hx hb d_m_answer_92 (by decide) ?_
          refine W.eq (g2 := F0 m 96 ls [.int (bz true), .int ((15 * ta) + (va ta.toNatClampNeg)), .ref qf]) rfl ?_
          refine va_zast (x := bz true) hx hb hK.1 hP hD hS 14 3 rfl rfl (an_in htt (by omega) hae han) d_m_answer_96 (fun H locs hP hD hS => ?_)
          rw [upd_bz] at hP hD
          have hP : va_P D classes [(mo, .inr (3, [.int vc, .ref qp, .ref qh, .ref qk, .ref qb, .int vt, .ref qg, .ref qo, .ref qd, .ref qu, .ref qw, .ref qs, .ref qx, .ref qa, .ref qq, .ref qf])), (qp, .inl (cA 2, 120, .inl vp)), (qh, .inl (cA 3, 1600, .inl (fun i => bz (vh i)))), (qk, .inl (cA 3, 40, .inl (fun i => bz (vk i)))), (qb, .inl (cA 3, 40, .inl (fun i => bz ((va_up vb (f_m_next vc vh vk vb vt vg vo vd vu vw vs va vq vf ta).toNatClampNeg true) i)))), (qg, .inl (cA 3, 160, .inl (fun i => bz (vg i)))), (qo, .inl (cA 3, 4, .inl (fun i => bz (vo i)))), (qd, .inl (cA 2, 4, .inl vd)), (qu, .inl (cA 2, 4, .inl vu)), (qw, .inl (cA 2, 4, .inl vw)), (qs, .inl (cA 2, 4, .inl vs)), (qx, .inl (cA 2, 4, .inl vx)), (qa, .inl (cA 2, 4, .inl va)), (qq, .inl (cA 2, 60, .inl (upd vq ((15 * ta) + (va ta.toNatClampNeg)).toNatClampNeg (f_m_next vc vh vk vb vt vg vo vd vu vw vs va vq vf ta)))), (qf, .inl (cA 3, 60, .inl (fun i => bz ((va_up vf ((15 * ta) + (va ta.toNatClampNeg)).toNatClampNeg true) i))))] H := hP
          have hD : va_D A [(mo, .inr (3, [.int vc, .ref qp, .ref qh, .ref qk, .ref qb, .int vt, .ref qg, .ref qo, .ref qd, .ref qu, .ref qw, .ref qs, .ref qx, .ref qa, .ref qq, .ref qf])), (qp, .inl (cA 2, 120, .inl vp)), (qh, .inl (cA 3, 1600, .inl (fun i => bz (vh i)))), (qk, .inl (cA 3, 40, .inl (fun i => bz (vk i)))), (qb, .inl (cA 3, 40, .inl (fun i => bz ((va_up vb (f_m_next vc vh vk vb vt vg vo vd vu vw vs va vq vf ta).toNatClampNeg true) i)))), (qg, .inl (cA 3, 160, .inl (fun i => bz (vg i)))), (qo, .inl (cA 3, 4, .inl (fun i => bz (vo i)))), (qd, .inl (cA 2, 4, .inl vd)), (qu, .inl (cA 2, 4, .inl vu)), (qw, .inl (cA 2, 4, .inl vw)), (qs, .inl (cA 2, 4, .inl vs)), (qx, .inl (cA 2, 4, .inl vx)), (qa, .inl (cA 2, 4, .inl va)), (qq, .inl (cA 2, 60, .inl (upd vq ((15 * ta) + (va ta.toNatClampNeg)).toNatClampNeg (f_m_next vc vh vk vb vt vg vo vd vu vw vs va vq vf ta)))), (qf, .inl (cA 3, 60, .inl (fun i => bz ((va_up vf ((15 * ta) + (va ta.toNatClampNeg)).toNatClampNeg true) i))))] := hD
          refine lv_aload_n hx hb d_m_answer_97 rfl (lv_at hl 1 rfl) ?_
          refine ro_get (v := .ref qa) FX hK hP 0 13 rfl rfl rfl i_m (by decide) kf_m_44 d_m_answer_98 ?_
          refine lv_iload_n hx hb d_m_answer_101 rfl (lv_at hl 2 rfl) ?_
          refine lv_dup2_11 hx hb d_m_answer_102 rfl rfl ?_
          refine va_iald hx hb hK.1 hP 12 2 rfl rfl (vin htt (by omega) (by decide)) d_m_answer_103 ?_
          refine lv_iconst (v := 1) hx hb d_m_answer_104 (by decide) ?_
          refine lv_iadd hx hb d_m_answer_105 ?_
          refine va_iast (x := (va ta.toNatClampNeg) + 1) hx hb hK.1 hP hD hS 12 2 rfl rfl (vin htt (by omega) (by decide)) d_m_answer_106 (fun H locs hP hD hS => ?_)
          have hP : va_P D classes [(mo, .inr (3, [.int vc, .ref qp, .ref qh, .ref qk, .ref qb, .int vt, .ref qg, .ref qo, .ref qd, .ref qu, .ref qw, .ref qs, .ref qx, .ref qa, .ref qq, .ref qf])), (qp, .inl (cA 2, 120, .inl vp)), (qh, .inl (cA 3, 1600, .inl (fun i => bz (vh i)))), (qk, .inl (cA 3, 40, .inl (fun i => bz (vk i)))), (qb, .inl (cA 3, 40, .inl (fun i => bz ((va_up vb (f_m_next vc vh vk vb vt vg vo vd vu vw vs va vq vf ta).toNatClampNeg true) i)))), (qg, .inl (cA 3, 160, .inl (fun i => bz (vg i)))), (qo, .inl (cA 3, 4, .inl (fun i => bz (vo i)))), (qd, .inl (cA 2, 4, .inl vd)), (qu, .inl (cA 2, 4, .inl vu)), (qw, .inl (cA 2, 4, .inl vw)), (qs, .inl (cA 2, 4, .inl vs)), (qx, .inl (cA 2, 4, .inl vx)), (qa, .inl (cA 2, 4, .inl (upd va ta.toNatClampNeg ((va ta.toNatClampNeg) + 1)))), (qq, .inl (cA 2, 60, .inl (upd vq ((15 * ta) + (va ta.toNatClampNeg)).toNatClampNeg (f_m_next vc vh vk vb vt vg vo vd vu vw vs va vq vf ta)))), (qf, .inl (cA 3, 60, .inl (fun i => bz ((va_up vf ((15 * ta) + (va ta.toNatClampNeg)).toNatClampNeg true) i))))] H := hP
          have hD : va_D A [(mo, .inr (3, [.int vc, .ref qp, .ref qh, .ref qk, .ref qb, .int vt, .ref qg, .ref qo, .ref qd, .ref qu, .ref qw, .ref qs, .ref qx, .ref qa, .ref qq, .ref qf])), (qp, .inl (cA 2, 120, .inl vp)), (qh, .inl (cA 3, 1600, .inl (fun i => bz (vh i)))), (qk, .inl (cA 3, 40, .inl (fun i => bz (vk i)))), (qb, .inl (cA 3, 40, .inl (fun i => bz ((va_up vb (f_m_next vc vh vk vb vt vg vo vd vu vw vs va vq vf ta).toNatClampNeg true) i)))), (qg, .inl (cA 3, 160, .inl (fun i => bz (vg i)))), (qo, .inl (cA 3, 4, .inl (fun i => bz (vo i)))), (qd, .inl (cA 2, 4, .inl vd)), (qu, .inl (cA 2, 4, .inl vu)), (qw, .inl (cA 2, 4, .inl vw)), (qs, .inl (cA 2, 4, .inl vs)), (qx, .inl (cA 2, 4, .inl vx)), (qa, .inl (cA 2, 4, .inl (upd va ta.toNatClampNeg ((va ta.toNatClampNeg) + 1)))), (qq, .inl (cA 2, 60, .inl (upd vq ((15 * ta) + (va ta.toNatClampNeg)).toNatClampNeg (f_m_next vc vh vk vb vt vg vo vd vu vw vs va vq vf ta)))), (qf, .inl (cA 3, 60, .inl (fun i => bz ((va_up vf ((15 * ta) + (va ta.toNatClampNeg)).toNatClampNeg true) i))))] := hD
          refine lv_aload_n hx hb d_m_answer_107 rfl (lv_at hl 1 rfl) ?_
          refine lv_iload_n hx hb d_m_answer_108 rfl (lv_at hl 2 rfl) ?_
          refine ro_V (v := .int (f_m_state vc vh vk (va_up vb (f_m_next vc vh vk vb vt vg vo vd vu vw vs va vq vf ta).toNatClampNeg true) vt vg vo vd vu vw vs (upd va ta.toNatClampNeg ((va ta.toNatClampNeg) + 1)) (upd vq ((15 * ta) + (va ta.toNatClampNeg)).toNatClampNeg (f_m_next vc vh vk vb vt vg vo vd vu vw vs va vq vf ta)) (va_up vf ((15 * ta) + (va ta.toNatClampNeg)).toNatClampNeg true) ta)) (As := [.int ta]) (rest := []) (q0 := 0) FX hK (c_m_state l D cA mo qp qh qk qb qg qo qd qu qw qs qx qa qq qf vc vp vh vk (va_up vb (f_m_next vc vh vk vb vt vg vo vd vu vw vs va vq vf ta).toNatClampNeg true) vt vg vo vd vu vw vs vx (upd va ta.toNatClampNeg ((va ta.toNatClampNeg) + 1)) (upd vq ((15 * ta) + (va ta.toNatClampNeg)).toNatClampNeg (f_m_next vc vh vk vb vt vg vo vd vu vw vs va vq vf ta)) (va_up vf ((15 * ta) + (va ta.toNatClampNeg)).toNatClampNeg true) ta cn hcn hvc tn htn hvt (va_up1 hva htt (by omega) hae han)) hP hP rfl rfl rfl kc_m_state km_m_106 ki_m ks_m_state ke_m_state rfl ok_m_state ⟨Nat.le_of_ble_eq_true rfl, Nat.le_of_ble_eq_true rfl⟩ ⟨Nat.zero_le _, Nat.zero_le _⟩ hl.1 rfl (Nat.le_of_ble_eq_true rfl) d_m_answer_109 ?_
          exact mu_iret FX hS (by rw [show (f_m_answer vc vh vk vb vt vg vo vd vu vw vs vx va vq vf ta ou) = (f_m_state vc vh vk (va_up vb (f_m_next vc vh vk vb vt vg vo vd vu vw vs va vq vf ta).toNatClampNeg true) vt vg vo vd vu vw vs (upd va ta.toNatClampNeg ((va ta.toNatClampNeg) + 1)) (upd vq ((15 * ta) + (va ta.toNatClampNeg)).toNatClampNeg (f_m_next vc vh vk vb vt vg vo vd vu vw vs va vq vf ta)) (va_up vf ((15 * ta) + (va ta.toNatClampNeg)).toNatClampNeg true) ta, vk, va_up vb (f_m_next vc vh vk vb vt vg vo vd vu vw vs va vq vf ta).toNatClampNeg true, vx, upd va ta.toNatClampNeg ((va ta.toNatClampNeg) + 1), upd vq ((15 * ta) + (va ta.toNatClampNeg)).toNatClampNeg (f_m_next vc vh vk vb vt vg vo vd vu vw vs va vq vf ta), va_up vf ((15 * ta) + (va ta.toNatClampNeg)).toNatClampNeg true) from (by rw [f_m_answer, if_neg c1, if_pos c2, if_neg c3, if_pos c4])]; exact ⟨rfl, hP, hD⟩) d_m_answer_112
      · have c3 := c3
        refine lv_aload_n hx hb d_m_answer_27 rfl (lv_at hl 1 rfl) ?_
        refine ro_get (v := .ref qk) FX hK hP 0 3 rfl rfl rfl i_m (by decide) kf_m_17 d_m_answer_28 ?_
        refine lv_iload_n hx hb d_m_answer_31 rfl (lv_at hl 0 rfl) ?_
        refine lv_iconst (v := 1) hx hb d_m_answer_32 (by decide) ?_
        refine W.eq (g2 := F0 m 33 ls [.int (bz true), .int (f_m_next vc vh vk vb vt vg vo vd vu vw vs va vq vf ta), .ref qk]) rfl ?_
        refine va_zast (x := bz true) hx hb hK.1 hP hD hS 3 3 rfl rfl (vin hce (by omega) (by decide)) d_m_answer_33 (fun H locs hP hD hS => ?_)
        rw [upd_bz] at hP hD
        have hP : va_P D classes [(mo, .inr (3, [.int vc, .ref qp, .ref qh, .ref qk, .ref qb, .int vt, .ref qg, .ref qo, .ref qd, .ref qu, .ref qw, .ref qs, .ref qx, .ref qa, .ref qq, .ref qf])), (qp, .inl (cA 2, 120, .inl vp)), (qh, .inl (cA 3, 1600, .inl (fun i => bz (vh i)))), (qk, .inl (cA 3, 40, .inl (fun i => bz ((va_up vk (f_m_next vc vh vk vb vt vg vo vd vu vw vs va vq vf ta).toNatClampNeg true) i)))), (qb, .inl (cA 3, 40, .inl (fun i => bz (vb i)))), (qg, .inl (cA 3, 160, .inl (fun i => bz (vg i)))), (qo, .inl (cA 3, 4, .inl (fun i => bz (vo i)))), (qd, .inl (cA 2, 4, .inl vd)), (qu, .inl (cA 2, 4, .inl vu)), (qw, .inl (cA 2, 4, .inl vw)), (qs, .inl (cA 2, 4, .inl vs)), (qx, .inl (cA 2, 4, .inl vx)), (qa, .inl (cA 2, 4, .inl va)), (qq, .inl (cA 2, 60, .inl vq)), (qf, .inl (cA 3, 60, .inl (fun i => bz (vf i))))] H := hP
        have hD : va_D A [(mo, .inr (3, [.int vc, .ref qp, .ref qh, .ref qk, .ref qb, .int vt, .ref qg, .ref qo, .ref qd, .ref qu, .ref qw, .ref qs, .ref qx, .ref qa, .ref qq, .ref qf])), (qp, .inl (cA 2, 120, .inl vp)), (qh, .inl (cA 3, 1600, .inl (fun i => bz (vh i)))), (qk, .inl (cA 3, 40, .inl (fun i => bz ((va_up vk (f_m_next vc vh vk vb vt vg vo vd vu vw vs va vq vf ta).toNatClampNeg true) i)))), (qb, .inl (cA 3, 40, .inl (fun i => bz (vb i)))), (qg, .inl (cA 3, 160, .inl (fun i => bz (vg i)))), (qo, .inl (cA 3, 4, .inl (fun i => bz (vo i)))), (qd, .inl (cA 2, 4, .inl vd)), (qu, .inl (cA 2, 4, .inl vu)), (qw, .inl (cA 2, 4, .inl vw)), (qs, .inl (cA 2, 4, .inl vs)), (qx, .inl (cA 2, 4, .inl vx)), (qa, .inl (cA 2, 4, .inl va)), (qq, .inl (cA 2, 60, .inl vq)), (qf, .inl (cA 3, 60, .inl (fun i => bz (vf i))))] := hD
        refine lv_aload_n hx hb d_m_answer_34 rfl (lv_at hl 1 rfl) ?_
        refine ro_get (v := .ref qx) FX hK hP 0 12 rfl rfl rfl i_m (by decide) kf_m_41 d_m_answer_35 ?_
        refine lv_iload_n hx hb d_m_answer_38 rfl (lv_at hl 2 rfl) ?_
        refine lv_dup2_11 hx hb d_m_answer_39 rfl rfl ?_
        refine va_iald hx hb hK.1 hP 11 2 rfl rfl (vin htt (by omega) (by decide)) d_m_answer_40 ?_
        refine lv_iconst (v := 1) hx hb d_m_answer_41 (by decide) ?_
        refine lv_iadd hx hb d_m_answer_42 ?_
        refine va_iast (x := (vx ta.toNatClampNeg) + 1) hx hb hK.1 hP hD hS 11 2 rfl rfl (vin htt (by omega) (by decide)) d_m_answer_43 (fun H locs hP hD hS => ?_)
        have hP : va_P D classes [(mo, .inr (3, [.int vc, .ref qp, .ref qh, .ref qk, .ref qb, .int vt, .ref qg, .ref qo, .ref qd, .ref qu, .ref qw, .ref qs, .ref qx, .ref qa, .ref qq, .ref qf])), (qp, .inl (cA 2, 120, .inl vp)), (qh, .inl (cA 3, 1600, .inl (fun i => bz (vh i)))), (qk, .inl (cA 3, 40, .inl (fun i => bz ((va_up vk (f_m_next vc vh vk vb vt vg vo vd vu vw vs va vq vf ta).toNatClampNeg true) i)))), (qb, .inl (cA 3, 40, .inl (fun i => bz (vb i)))), (qg, .inl (cA 3, 160, .inl (fun i => bz (vg i)))), (qo, .inl (cA 3, 4, .inl (fun i => bz (vo i)))), (qd, .inl (cA 2, 4, .inl vd)), (qu, .inl (cA 2, 4, .inl vu)), (qw, .inl (cA 2, 4, .inl vw)), (qs, .inl (cA 2, 4, .inl vs)), (qx, .inl (cA 2, 4, .inl (upd vx ta.toNatClampNeg ((vx ta.toNatClampNeg) + 1)))), (qa, .inl (cA 2, 4, .inl va)), (qq, .inl (cA 2, 60, .inl vq)), (qf, .inl (cA 3, 60, .inl (fun i => bz (vf i))))] H := hP
        have hD : va_D A [(mo, .inr (3, [.int vc, .ref qp, .ref qh, .ref qk, .ref qb, .int vt, .ref qg, .ref qo, .ref qd, .ref qu, .ref qw, .ref qs, .ref qx, .ref qa, .ref qq, .ref qf])), (qp, .inl (cA 2, 120, .inl vp)), (qh, .inl (cA 3, 1600, .inl (fun i => bz (vh i)))), (qk, .inl (cA 3, 40, .inl (fun i => bz ((va_up vk (f_m_next vc vh vk vb vt vg vo vd vu vw vs va vq vf ta).toNatClampNeg true) i)))), (qb, .inl (cA 3, 40, .inl (fun i => bz (vb i)))), (qg, .inl (cA 3, 160, .inl (fun i => bz (vg i)))), (qo, .inl (cA 3, 4, .inl (fun i => bz (vo i)))), (qd, .inl (cA 2, 4, .inl vd)), (qu, .inl (cA 2, 4, .inl vu)), (qw, .inl (cA 2, 4, .inl vw)), (qs, .inl (cA 2, 4, .inl vs)), (qx, .inl (cA 2, 4, .inl (upd vx ta.toNatClampNeg ((vx ta.toNatClampNeg) + 1)))), (qa, .inl (cA 2, 4, .inl va)), (qq, .inl (cA 2, 60, .inl vq)), (qf, .inl (cA 3, 60, .inl (fun i => bz (vf i))))] := hD
        refine lv_goto (tgt := 107) hx hb d_m_answer_44 (by decide) ?_
        refine lv_aload_n hx hb d_m_answer_107 rfl (lv_at hl 1 rfl) ?_
        refine lv_iload_n hx hb d_m_answer_108 rfl (lv_at hl 2 rfl) ?_
        refine ro_V (v := .int (f_m_state vc vh (va_up vk (f_m_next vc vh vk vb vt vg vo vd vu vw vs va vq vf ta).toNatClampNeg true) vb vt vg vo vd vu vw vs va vq vf ta)) (As := [.int ta]) (rest := []) (q0 := 0) FX hK (c_m_state l D cA mo qp qh qk qb qg qo qd qu qw qs qx qa qq qf vc vp vh (va_up vk (f_m_next vc vh vk vb vt vg vo vd vu vw vs va vq vf ta).toNatClampNeg true) vb vt vg vo vd vu vw vs (upd vx ta.toNatClampNeg ((vx ta.toNatClampNeg) + 1)) va vq vf ta cn hcn hvc tn htn hvt hva) hP hP rfl rfl rfl kc_m_state km_m_106 ki_m ks_m_state ke_m_state rfl ok_m_state ⟨Nat.le_of_ble_eq_true rfl, Nat.le_of_ble_eq_true rfl⟩ ⟨Nat.zero_le _, Nat.zero_le _⟩ hl.1 rfl (Nat.le_of_ble_eq_true rfl) d_m_answer_109 ?_
        exact mu_iret FX hS (by rw [show (f_m_answer vc vh vk vb vt vg vo vd vu vw vs vx va vq vf ta ou) = (f_m_state vc vh (va_up vk (f_m_next vc vh vk vb vt vg vo vd vu vw vs va vq vf ta).toNatClampNeg true) vb vt vg vo vd vu vw vs va vq vf ta, va_up vk (f_m_next vc vh vk vb vt vg vo vd vu vw vs va vq vf ta).toNatClampNeg true, vb, upd vx ta.toNatClampNeg ((vx ta.toNatClampNeg) + 1), va, vq, vf) from (by rw [f_m_answer, if_neg c1, if_pos c2, if_pos c3])]; exact ⟨rfl, hP, hD⟩) d_m_answer_112
    · have c2 := bz_f c2
      refine lv_iconst (v := (-1)) hx hb d_m_answer_20 (by decide) ?_
      exact mu_iret FX hS (by rw [show (f_m_answer vc vh vk vb vt vg vo vd vu vw vs vx va vq vf ta ou) = ((-1), vk, vb, vx, va, vq, vf) from (by rw [f_m_answer, if_neg c1, if_neg c2])]; exact ⟨rfl, hP, hD⟩) d_m_answer_21
