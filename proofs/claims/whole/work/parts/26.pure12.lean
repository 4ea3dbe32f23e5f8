/-! the invariant is kept: answer -/
section KEEP3
variable {cn nt : Nat} {G : GS} {TT : Nat → TS} {vp : Nat → Int32} {vh vk vb vg vo vf : Nat → Bool} {vd vu vw vs vx va vq : Nat → Int32}
theorem inv_skip (hI : INV cn nt G TT vp vh vk vb vg vo vf vd vu vw vs vx va vq) {j c0 : Nat} (hj : j < nt) (hc : c0 < cn) : INV cn nt (G.1, G.2.1, G.2.2.1, G.2.2.2.1, f_g_markSkipped G.2.2.2.2 (nI c0)) (va_up TT j ((TT j).1, (TT j).2.1, (TT j).2.2.1, (TT j).2.2.2.1, (TT j).2.2.2.2.1, (TT j).2.2.2.2.2.1, (TT j).2.2.2.2.2.2.1, (TT j).2.2.2.2.2.2.2.1, (TT j).2.2.2.2.2.2.2.2.1 + 1, (TT j).2.2.2.2.2.2.2.2.2)) vp vh (va_up vk c0 true) vb vg vo vf vd vu vw vs (upd vx j (vx j + 1)) va vq := by
  obtain ⟨hnt, ⟨g1, g2, g3, g4, g5, g6, g7, g8, g9, g10, g11, g12⟩, hT, hF⟩ := hI
  refine ⟨hnt, ⟨g1, g2, g3, g4, g5, g6, g7, g8, g9, g10, g11, fun i hi => ?_⟩, fun t ht => ?_, fun t h5 h6 => ?_⟩
  · show bt (f_g_markSkipped G.2.2.2.2 (nI c0)) i = va_up vk c0 true i
    unfold f_g_markSkipped
    rw [bt_or, only_bt (by omega), g12 i hi]
    by_cases h : i = c0
    · subst h; rw [va_up_self]; simp
    · rw [va_up_ne _ _ h]; simp [show ¬ c0 = i from fun q => h q.symm]
  · by_cases htj : t = j
    · subst htj
      rw [va_up_self]
      obtain ⟨t1, t2, t3, t4, t5, t6, t7, t8⟩ := hT t ht
      exact ⟨t1, t2, t3, t4, by rw [upd_self, t5], t6, t7, t8⟩
    · rw [va_up_ne _ _ htj]
      exact TI_agree g1 hnt hnt ht ht (hT t ht) (fun _ _ => rfl) rfl rfl rfl rfl rfl (upd_ne _ _ htj) rfl (fun _ _ => rfl) (fun _ _ => rfl)
  · obtain ⟨f1, f2, f3, f4⟩ := hF t h5 h6
    exact ⟨f1, f2, (upd_ne _ _ (by omega)).trans f3, f4⟩
theorem inv_learn (hI : INV cn nt G TT vp vh vk vb vg vo vf vd vu vw vs vx va vq) {j c0 a : Nat} (hj : j < nt) (hv : vo j = true) (hc : c0 < cn) (ha : a < 15) (hva : va j = nI a) (ou : Int32) (fl : Bool) (hfl : fl = true ↔ ou = 1) :
    INV cn nt (G.1, G.2.1, G.2.2.1, f_g_markBuilt G.2.2.2.1 (nI c0), G.2.2.2.2) (va_up TT j ((TT j).1, (TT j).2.1, (TT j).2.2.1, (TT j).2.2.2.1, (TT j).2.2.2.2.1, (TT j).2.2.2.2.2.1, (TT j).2.2.2.2.2.2.1, (TT j).2.2.2.2.2.2.2.1 + 1, (TT j).2.2.2.2.2.2.2.2.1, fun i => if i < 40 then (TT j).2.2.2.2.2.2.2.2.2 i * f_t_likelihood (TT j).2.2.2.2.1 (TT j).2.2.2.2.2.1 ou (bt (f_g_reach G.2.1 G.2.2.1 (nI c0)) i) else (TT j).2.2.2.2.2.2.2.2.2 i)) vp vh vk (va_up vb c0 true) vg vo (va_up vf (15 * j + a) fl) vd vu vw vs vx (upd va j (va j + 1)) (upd vq (15 * j + a) (nI c0)) := by
  obtain ⟨hnt, ⟨g1, g2, g3, g4, g5, g6, g7, g8, g9, g10, g11, g12⟩, hT, hF⟩ := hI
  have hbt : ∀ i, bt (f_g_markBuilt G.2.2.2.1 (nI c0)) i = (bt G.2.2.2.1 i || decide (c0 = i)) := fun i => by unfold f_g_markBuilt; rw [bt_or, only_bt (by omega)]
  refine ⟨hnt, ⟨g1, g2, g3, g4, g5, g6, g7, g8, fun i hi => ?_, fun i hi => ?_, fun i hi q => ?_, g12⟩, fun t ht => ?_, fun t h5 h6 => ?_⟩
  · show bt (f_g_markBuilt G.2.2.2.1 (nI c0)) i = va_up vb c0 true i
    rw [hbt, g9 i hi]
    by_cases h : i = c0
    · subst h; rw [va_up_self]; simp
    · rw [va_up_ne _ _ h]; simp [show ¬ c0 = i from fun q => h q.symm]
  · show bt (f_g_markBuilt G.2.2.2.1 (nI c0)) i = false
    rw [hbt, g10 i hi]
    simp
    omega
  · by_cases h : i = c0
    · omega
    · rw [va_up_ne _ _ h] at q
      exact g11 i hi q
  · by_cases htj : t = j
    · subst htj
      rw [va_up_self]
      obtain ⟨t1, t2, t3, t4, t5, t6, t7, t8⟩ := hT t ht
      have hva' : upd va t (va t + 1) t = nI (a + 1) := by rw [upd_self, hva, nI_1]
      refine ⟨t1, t2, t3, t4, t5, by rw [upd_self]; show (TT t).2.2.2.2.2.2.2.1 + 1 = _; rw [t6], ⟨a + 1, by omega, hva'⟩, fun _ => ?_⟩
      obtain ⟨b, p, q, s1, s2, s3, s4, s5, s6, s7, s8, s9, s10, s11, a', s12, s13, s14⟩ := t8 hv
      have haa : a' = a := (nI_eq (by omega) (by omega)).mp (s13.symm.trans hva)
      subst haa
      refine ⟨b, p, q, s1, s2, s3, s4, s5, s6, s7, s8, s9, s10, fun i hi => ?_, a' + 1, by omega, hva', fun k hk => ?_⟩
      · show (if i < 40 then (TT t).2.2.2.2.2.2.2.2.2 i * f_t_likelihood (TT t).2.2.2.2.1 (TT t).2.2.2.2.2.1 ou (bt (f_g_reach G.2.1 G.2.2.1 (nI c0)) i) else _) = _
        rw [if_pos hi, s8, s9, reach_at g1 g2 hc, s11 i hi]
        by_cases hic : i < cn
        · have hse := se_of hnt ht hv
          rw [mW_eq g1 rfl (by omega) hse (by omega) hva' hic, mW_eq g1 rfl (by omega) hse (by omega) hva hic]
          by_cases x1 : f_m_has (nI cn) vh (vd t) (nI i) = true
          · by_cases x2 : anyF (gdP vg vh t i) cn 0 = true
            · rw [if_pos x1, if_pos x2, if_pos x1, if_pos x2, Int64.zero_mul]
            · rw [if_pos x1, if_neg x2, if_pos x1, if_neg x2]
              show _ = wprod (fac (nI cn) vh vu vw (upd vq (15 * t + a') (nI c0)) (va_up vf (15 * t + a') fl) t i) a' * fac (nI cn) vh vu vw (upd vq (15 * t + a') (nI c0)) (va_up vf (15 * t + a') fl) t i a'
              rw [wprod_congr (f := fac (nI cn) vh vu vw (upd vq (15 * t + a') (nI c0)) (va_up vf (15 * t + a') fl) t i) (g := fac (nI cn) vh vu vw vq vf t i) a' (fun k hk => by unfold fac; rw [upd_ne _ _ (by omega), va_up_ne _ _ (by omega)])]
              congr 1
              unfold fac f_t_likelihood
              rw [upd_self, va_up_self, has_at g1 rfl hc hic, g3 c0 hc i hi]
              by_cases x3 : ou = 1
              · rw [if_pos x3, if_pos (hfl.mpr x3)]
              · rw [if_neg x3, if_neg (fun q => x3 (hfl.mp q))]
          · rw [if_neg x1, if_neg x1, Int64.zero_mul]
        · rw [mW_big g1 rfl (by omega) (by omega), mW_big g1 rfl (by omega) (by omega), Int64.zero_mul]
      · by_cases hka : k = a'
        · subst hka; exact ⟨c0, hc, upd_self _ _ _⟩
        · rw [upd_ne _ _ (by omega)]; exact s14 k (by omega)
    · rw [va_up_ne _ _ htj]
      exact TI_agree g1 hnt hnt ht ht (hT t ht) (fun _ _ => rfl) rfl rfl rfl rfl rfl rfl (upd_ne _ _ htj) (fun k hk => upd_ne _ _ (by omega)) (fun k hk => va_up_ne _ _ (by omega))
  · obtain ⟨f1, f2, f3, f4⟩ := hF t h5 h6
    exact ⟨f1, f2, f3, (upd_ne _ _ (by omega)).trans f4⟩
theorem hva_of (hI : INV cn nt G TT vp vh vk vb vg vo vf vd vu vw vs vx va vq) : ∀ i, i < 4 → ∃ a, a ≤ 15 ∧ va i = nI a := by
  intro i hi
  by_cases h : i < nt
  · exact (hI.2.2.1 i h).2.2.2.2.2.2.1
  · exact ⟨0, by decide, (hI.2.2.2 i (by omega) hi).2.2.2⟩
theorem e_answer (hI : INV cn nt G TT vp vh vk vb vg vo vf vd vu vw vs vx va vq) (ta ou : Int32) : (f_x_answer nt G TT ta ou).1 = (f_m_answer (nI cn) vh vk vb (nI nt) vg vo vd vu vw vs vx va vq vf ta ou).1 ∧ INV cn nt (f_x_answer nt G TT ta ou).2.1 (f_x_answer nt G TT ta ou).2.2 vp vh (f_m_answer (nI cn) vh vk vb (nI nt) vg vo vd vu vw vs vx va vq vf ta ou).2.1 (f_m_answer (nI cn) vh vk vb (nI nt) vg vo vd vu vw vs vx va vq vf ta ou).2.2.1 vg vo (f_m_answer (nI cn) vh vk vb (nI nt) vg vo vd vu vw vs vx va vq vf ta ou).2.2.2.2.2.2 vd vu vw vs (f_m_answer (nI cn) vh vk vb (nI nt) vg vo vd vu vw vs vx va vq vf ta ou).2.2.2.1 (f_m_answer (nI cn) vh vk vb (nI nt) vg vo vd vu vw vs vx va vq vf ta ou).2.2.2.2.1 (f_m_answer (nI cn) vh vk vb (nI nt) vg vo vd vu vw vs vx va vq vf ta ou).2.2.2.2.2.1 := by
  obtain ⟨hnt, hG, hT, hF⟩ := id hI
  unfold f_x_answer f_m_answer
  rcases sa_cases hI ta with ⟨h1, h2⟩ | ⟨j, hj, rfl, h1, h2, h3⟩
  · have hn : f_m_next (nI cn) vh vk vb (nI nt) vg vo vd vu vw vs va vq vf ta = (-1) := by
      unfold f_m_next f_m_state
      rw [if_neg h2, if_neg (by decide)]
    rw [om_none h1, if_pos hn]
    exact ⟨rfl, hI⟩
  · rw [om_some h1, asked_eq hI hj h3]
    by_cases hN : f_m_next (nI cn) vh vk vb (nI nt) vg vo vd vu vw vs va vq vf (nI j) = (-1)
    · rw [if_pos hN, if_pos hN]
      by_cases o1 : ou < 0
      · rw [if_pos o1]; exact ⟨rfl, hI⟩
      · rw [if_neg o1]
        by_cases o2 : ou ≤ 2
        · rw [if_pos o2]; exact ⟨rfl, hI⟩
        · rw [if_neg o2]; exact ⟨rfl, hI⟩
    · obtain ⟨tj, htj, htt, ⟨a, ha, hva⟩, c0, hc0, hce⟩ := nx_ok hG.1 rfl hnt rfl (hva_of hI) hN
      have htj2 : tj = j := (nI_eq (by omega) (by omega)).mp htt.symm
      subst htj2
      rw [if_neg hN, if_neg hN, hce]
      unfold f_m_in
      by_cases o1 : ou < 0
      · rw [if_pos o1, if_pos o1, if_neg (by decide)]; exact ⟨rfl, hI⟩
      · by_cases o2 : ou ≤ 2
        · have o2' : ¬ 2 < ou := Int32.not_lt.mpr o2
          rw [if_neg o1, if_pos o2, if_neg o1, if_neg o2', if_pos rfl, nI_clamp (n := c0) (by have := hG.1; omega), nI_clamp (n := tj) (by omega)]
          by_cases o3 : ou = 2
          · rw [if_pos o3, if_pos o3]
            unfold f_t_skip
            have hI' := inv_skip hI hj hc0
            have hs := stand_eq hI' hj h3
            rw [va_up_self] at hs
            exact ⟨hs, hI'⟩
          · have ei : ((15 * nI tj) + va tj).toNatClampNeg = 15 * tj + a := by rw [hva, show (15 : Int32) = nI 15 from rfl, lin_cl 15 (by omega)]
            rw [if_neg o3, if_neg o3, ei, learn_eq]
            by_cases o4 : ou = 1
            · rw [if_pos o4]
              have hI' := inv_learn hI hj h3 hc0 ha hva ou true ⟨fun _ => o4, fun _ => rfl⟩
              have hs := stand_eq hI' hj h3
              rw [va_up_self] at hs
              exact ⟨hs, hI'⟩
            · rw [if_neg o4]
              have hI' := inv_learn hI hj h3 hc0 ha hva ou false ⟨fun q => (by cases q), fun q => absurd q o4⟩
              have hs := stand_eq hI' hj h3
              rw [va_up_self] at hs
              exact ⟨hs, hI'⟩
        · have o2' : 2 < ou := Int32.not_le.mp o2
          rw [if_neg o1, if_neg o2, if_neg o1, if_pos o2', if_neg (by decide)]; exact ⟨rfl, hI⟩
end KEEP3
