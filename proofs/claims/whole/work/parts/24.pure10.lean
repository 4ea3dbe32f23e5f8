/-! the invariant is kept: target, stop, good -/
theorem anyF_congr {P Q : Nat → Bool} : ∀ (n k : Nat), (∀ i, k ≤ i → i < k + n → P i = Q i) → anyF P n k = anyF Q n k := by
  intro n
  induction n with
  | zero => intro k _; rfl
  | succ n ih =>
    intro k h
    show (if P k = true then true else anyF P n (k + 1)) = (if Q k = true then true else anyF Q n (k + 1))
    rw [h k (by omega) (by omega), ih (k + 1) (fun i h1 h2 => h i (by omega) (by omega))]
section KEEP
variable {cn nt nt' t : Nat} {G : GS} {TT : Nat → TS} {T : TS} {vp : Nat → Int32} {vh vk vb vg vo vf vg' vo' vf' : Nat → Bool} {vd vu vw vs vx va vq vd' vu' vw' vs' vx' va' vq' : Nat → Int32}
theorem mW_cong {a : Nat} (hcn : cn ≤ 40) (hnt : nt ≤ 4) (hnt' : nt' ≤ 4) (ht : t < nt) (ht' : t < nt') (hvo : vo t = true) (hvo' : vo' t = true) (ha : a ≤ 15) (hva : va t = nI a) (hva' : va' t = nI a) (ed : vd' t = vd t) (eu : vu' t = vu t) (ew : vw' t = vw t) (eg : ∀ c, c < 40 → vg' (40 * t + c) = vg (40 * t + c)) (eq : ∀ k, k < a → vq' (15 * t + k) = vq (15 * t + k)) (ef : ∀ k, k < a → vf' (15 * t + k) = vf (15 * t + k)) {c : Nat} (hc : c < 40) :
    mW (nI cn) vh (nI nt') vg' vo' vd' vu' vw' va' vq' vf' t c = mW (nI cn) vh (nI nt) vg vo vd vu vw va vq vf t c := by
  by_cases h : c < cn
  · rw [mW_eq hcn rfl (by omega) (se_of hnt' ht' hvo') ha hva' h, mW_eq hcn rfl (by omega) (se_of hnt ht hvo) ha hva h, ed]
    rw [anyF_congr (Q := gdP vg vh t c) cn 0 (fun i h1 h2 => by unfold gdP; rw [eg i (by omega)]), wprod_congr (g := fac (nI cn) vh vu vw vq vf t c) a (fun k hk => by unfold fac; rw [eq k hk, ef k hk, eu, ew])]
  · rw [mW_big hcn rfl (by omega) (by omega), mW_big hcn rfl (by omega) (by omega)]
theorem TI_agree (hcn : cn ≤ 40) (hnt : nt ≤ 4) (hnt' : nt' ≤ 4) (ht : t < nt) (ht' : t < nt') (h : TI cn nt vh vg vo vf vd vu vw vs vx va vq t T) (eg : ∀ c, c < 40 → vg' (40 * t + c) = vg (40 * t + c)) (eo : vo' t = vo t) (ed : vd' t = vd t) (eu : vu' t = vu t) (ew : vw' t = vw t) (es : vs' t = vs t) (ex : vx' t = vx t) (ea : va' t = va t) (eq : ∀ k, k < 15 → vq' (15 * t + k) = vq (15 * t + k)) (ef : ∀ k, k < 15 → vf' (15 * t + k) = vf (15 * t + k)) :
    TI cn nt' vh vg' vo' vf' vd' vu' vw' vs' vx' va' vq' t T := by
  obtain ⟨t1, t2, t3, t4, t5, t6, t7, t8⟩ := h
  refine ⟨fun j hj => by rw [eg j hj]; exact t1 j hj, fun j hj q => t2 j hj (by rw [← eg j hj]; exact q), fun j hj => ?_, by rw [eo]; exact t4, by rw [ex]; exact t5, by rw [ea]; exact t6, by rw [ea]; exact t7, fun hv => ?_⟩
  · rw [t3 j hj]
    constructor
    · rintro ⟨c, h1, h2, h3⟩; exact ⟨c, h1, by rw [eg c (by omega)]; exact h2, h3⟩
    · rintro ⟨c, h1, h2, h3⟩; exact ⟨c, h1, by rw [← eg c (by omega)]; exact h2, h3⟩
  · rw [eo] at hv
    obtain ⟨b, p, q, s1, s2, s3, s4, s5, s6, s7, s8, s9, s10, s11, a, s12, s13, s14⟩ := t8 hv
    refine ⟨b, p, q, s1, by rw [ed]; exact s2, by rw [ed]; exact s3, s4, s5, by rw [eu]; exact s6, by rw [ew]; exact s7, by rw [eu]; exact s8, by rw [ew]; exact s9, by rw [es]; exact s10, fun i hi => ?_, a, s12, by rw [ea]; exact s13, fun k hk => by rw [eq k (by omega)]; exact s14 k hk⟩
    rw [s11 i hi]
    exact (mW_cong hcn hnt hnt' ht ht' hv (by rw [eo]; exact hv) s12 s13 (by rw [ea]; exact s13) ed eu ew eg (fun k hk => eq k (by omega)) (fun k hk => ef k (by omega)) hi).symm
theorem e_target (hI : INV cn nt G TT vp vh vk vb vg vo vf vd vu vw vs vx va vq) : (f_x_target nt TT).1 = (f_m_target (nI nt)).1 ∧ (f_m_target (nI nt)).2 = nI (f_x_target nt TT).2.1 ∧ INV cn (f_x_target nt TT).2.1 G (f_x_target nt TT).2.2 vp vh vk vb vg vo vf vd vu vw vs vx va vq := by
  obtain ⟨hnt, hG, hT, hF⟩ := id hI
  unfold f_x_target f_m_target
  rw [if_neg (nI_pos (by omega))]
  by_cases h4 : nt = 4
  · have h1 : nI nt = 4 := by rw [h4]; rfl
    have h2 : ¬ nI nt < 4 := by rw [h1]; decide
    rw [if_pos h1, if_neg h2]
    exact ⟨rfl, rfl, hI⟩
  · have h1 : ¬ nI nt = 4 := fun q => h4 ((nI_eq (a := nt) (b := 4) (by omega) (by decide)).mp q)
    have h2 : nI nt < 4 := nI_lt (b := 4) (by omega) (by decide)
    rw [if_neg h1, if_pos h2]
    refine ⟨by show nI nt = nI nt + 1 - 1; rw [nI_1, nI_pred], nI_1 nt, by show nt + 1 ≤ 4; omega, hG, fun t ht => ?_, fun t h5 h6 => hF t (by have : nt + 1 ≤ t := h5; omega) h6⟩
    by_cases htn : t = nt
    · subst htn
      obtain ⟨f1, f2, f3, f4⟩ := hF t (Nat.le_refl _) (by omega)
      show TI cn (t + 1) vh vg vo vf vd vu vw vs vx va vq t (va_up TT t _ t)
      rw [va_up_self]
      refine ⟨fun j hj => by rw [f1 j hj]; exact bt_0 j, fun j hj q => (by rw [f1 j hj] at q; cases q), fun j hj => ⟨fun q => (by rw [bt_0] at q; cases q), ?_⟩, f2.symm, f3.symm, f4.symm, ⟨0, by decide, f4⟩, fun q => (by rw [f2] at q; cases q)⟩
      rintro ⟨c, h7, h8, -⟩
      rw [f1 c (by have := hG.1; omega)] at h8
      cases h8
    · have ht2 : t < nt := by have : t < nt + 1 := ht; omega
      show TI cn (nt + 1) vh vg vo vf vd vu vw vs vx va vq t (va_up TT nt _ t)
      rw [va_up_ne _ _ htn]
      exact TI_agree hG.1 hnt (by omega) ht2 (by omega) (hT t ht2) (fun _ _ => rfl) rfl rfl rfl rfl rfl rfl rfl (fun _ _ => rfl) (fun _ _ => rfl)
theorem e_stop (hI : INV cn nt G TT vp vh vk vb vg vo vf vd vu vw vs vx va vq) (ta : Int32) : (f_x_stop nt G TT ta).1 = (f_m_stop (nI nt) vo ta).1 ∧ INV cn nt (f_x_stop nt G TT ta).2.1 (f_x_stop nt G TT ta).2.2 vp vh vk vb vg (f_m_stop (nI nt) vo ta).2 vf vd vu vw vs vx va vq := by
  obtain ⟨hnt, hG, hT, hF⟩ := id hI
  unfold f_x_stop f_m_stop
  rcases sa_cases hI ta with ⟨h1, h2⟩ | ⟨j, hj, rfl, h1, h2, h3⟩
  · rw [om_none h1, if_neg h2]
    exact ⟨rfl, hI⟩
  · rw [om_some h1, if_pos h2, nI_clamp (by omega)]
    refine ⟨rfl, hnt, hG, fun t ht => ?_, fun t h5 h6 => ?_⟩
    · by_cases htj : t = j
      · subst htj
        show TI cn nt vh vg (va_up vo t false) vf vd vu vw vs vx va vq t (va_up TT t _ t)
        rw [va_up_self]
        obtain ⟨t1, t2, t3, t4, t5, t6, t7, t8⟩ := hT t ht
        exact ⟨t1, t2, t3, by rw [va_up_self]; rfl, t5, t6, t7, fun q => (by rw [va_up_self] at q; cases q)⟩
      · show TI cn nt vh vg (va_up vo j false) vf vd vu vw vs vx va vq t (va_up TT j _ t)
        rw [va_up_ne _ _ htj]
        exact TI_agree hG.1 hnt hnt ht ht (hT t ht) (fun _ _ => rfl) (va_up_ne _ _ htj) rfl rfl rfl rfl rfl rfl (fun _ _ => rfl) (fun _ _ => rfl)
    · obtain ⟨f1, f2, f3, f4⟩ := hF t h5 h6
      exact ⟨f1, by show va_up vo j false t = false; rw [va_up_ne _ _ (by omega)]; exact f2, f3, f4⟩
theorem e_good (hI : INV cn nt G TT vp vh vk vb vg vo vf vd vu vw vs vx va vq) (ta ch : Int32) : (f_x_good nt G TT ta ch).1 = (f_m_good (nI cn) (nI nt) vg vo ta ch).1 ∧ INV cn nt (f_x_good nt G TT ta ch).2.1 (f_x_good nt G TT ta ch).2.2 vp vh vk vb (f_m_good (nI cn) (nI nt) vg vo ta ch).2 vo vf vd vu vw vs vx va vq := by
  obtain ⟨hnt, hG, hT, hF⟩ := id hI
  obtain ⟨hcn, hsz, hrs, -⟩ := id hG
  unfold f_x_good f_m_good
  rcases ta_cases hnt ta with ⟨h1, h2⟩ | ⟨j, hj, rfl, h1, h2⟩
  · rw [om_none h1, if_neg h2]
    exact ⟨rfl, hI⟩
  · rw [om_some h1, if_pos h2, nI_clamp (n := j) (by omega), holds_is hcn hsz rfl]
    by_cases hc : f_m_isChange (nI cn) ch = true
    · obtain ⟨c, hcc, rfl⟩ := ch_nI hcn rfl hc
      obtain ⟨t1, t2, t3, t4, t5, t6, t7, t8⟩ := hT j hj
      unfold f_t_isSearched
      rw [if_pos hc, if_pos hc, t4]
      by_cases hv : vo j = true
      · rw [if_pos hv, if_pos hv]
        exact ⟨rfl, hI⟩
      · have e2 : ((40 * nI j) + nI c).toNatClampNeg = 40 * j + c := lin_cl 40 (by omega)
        rw [if_neg hv, if_neg hv, e2]
        unfold f_t_markGood
        rw [con_bt (by omega), t1 c (by omega)]
        by_cases hg : vg (40 * j + c) = true
        · rw [if_pos hg, if_pos hg]
          rw [if_neg (show ¬ ((false, (TT j).1, (TT j).2.1) : Bool × Int64 × Int64).1 = true from fun q => by cases q)]
          refine ⟨rfl, hnt, hG, fun t ht => ?_, hF⟩
          by_cases htj : t = j
          · subst htj
            show TI cn nt vh vg vo vf vd vu vw vs vx va vq t (va_up TT t _ t)
            rw [va_up_self]
            exact ⟨t1, t2, t3, rfl, t5, t6, t7, t8⟩
          · show TI cn nt vh vg vo vf vd vu vw vs vx va vq t (va_up TT j _ t)
            rw [va_up_ne _ _ htj]
            exact hT t ht
        · rw [if_neg hg, if_neg hg]
          rw [if_pos (show ((true, (TT j).1 ||| f_x_only (nI c), (TT j).2.1 ||| f_g_reach G.2.1 G.2.2.1 (nI c)) : Bool × Int64 × Int64).1 = true from rfl)]
          refine ⟨rfl, hnt, hG, fun t ht => ?_, fun t h5 h6 => ?_⟩
          · by_cases htj : t = j
            · subst htj
              show TI cn nt vh (va_up vg (40 * t + c) true) vo vf vd vu vw vs vx va vq t (va_up TT t _ t)
              rw [va_up_self]
              refine ⟨fun i hi => ?_, fun i hi q => ?_, fun i hi => ?_, rfl, t5, t6, t7, fun q => absurd q hv⟩
              · show bt ((TT t).1 ||| f_x_only (nI c)) i = va_up vg (40 * t + c) true (40 * t + i)
                rw [bt_or, t1 i hi, only_bt (by omega)]
                by_cases hic : i = c
                · subst hic; rw [va_up_self]; simp
                · rw [va_up_ne _ _ (by omega)]; simp [show ¬ c = i from fun q => hic q.symm]
              · by_cases hic : i = c
                · omega
                · rw [va_up_ne _ _ (by omega)] at q
                  exact t2 i hi q
              · show bt ((TT t).2.1 ||| f_g_reach G.2.1 G.2.2.1 (nI c)) i = true ↔ _
                rw [bt_or, Bool.or_eq_true, t3 i hi, reach_at hcn hsz hcc, hrs c hcc i hi]
                constructor
                · rintro (⟨c', h7, h8, h9⟩ | h9)
                  · refine ⟨c', h7, ?_, h9⟩
                    by_cases hic : c' = c
                    · subst hic; rw [va_up_self]
                    · rw [va_up_ne _ _ (by omega)]; exact h8
                  · exact ⟨c, hcc, by rw [va_up_self], h9⟩
                · rintro ⟨c', h7, h8, h9⟩
                  by_cases hic : c' = c
                  · subst hic; exact Or.inr h9
                  · rw [va_up_ne _ _ (by omega)] at h8
                    exact Or.inl ⟨c', h7, h8, h9⟩
            · show TI cn nt vh (va_up vg (40 * j + c) true) vo vf vd vu vw vs vx va vq t (va_up TT j _ t)
              rw [va_up_ne _ _ htj]
              exact TI_agree hcn hnt hnt ht ht (hT t ht) (fun i hi => va_up_ne _ _ (by omega)) rfl rfl rfl rfl rfl rfl rfl (fun _ _ => rfl) (fun _ _ => rfl)
          · obtain ⟨f1, f2, f3, f4⟩ := hF t h5 h6
            exact ⟨fun i hi => by show va_up vg (40 * j + c) true (40 * t + i) = false; rw [va_up_ne _ _ (by omega)]; exact f1 i hi, f2, f3, f4⟩
    · rw [if_neg hc, if_neg hc]
      exact ⟨rfl, hI⟩
end KEEP
