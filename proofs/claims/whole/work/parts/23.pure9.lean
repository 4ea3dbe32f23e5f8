def INV (cn nt : Nat) (G : GS) (TT : Nat → TS) (vp : Nat → Int32) (vh vk vb vg vo vf : Nat → Bool) (vd vu vw vs vx va vq : Nat → Int32) : Prop :=
  nt ≤ 4 ∧ GI cn G vp vh vk vb ∧ (∀ t, t < nt → TI cn nt vh vg vo vf vd vu vw vs vx va vq t (TT t)) ∧ FI nt vg vo vx va
theorem ta_some {nt j : Nat} {ta : Int32} (hnt : nt ≤ 4) (h : f_x_targetAt nt ta = some j) : j < nt ∧ ta = nI j := by
  refine ⟨ta_lt hnt h, ?_⟩
  unfold f_x_targetAt at h
  by_cases h0 : ta < 0
  · rw [if_pos h0] at h; cases h
  · rw [if_neg h0] at h
    by_cases h1 : nI nt ≤ ta
    · rw [if_pos h1] at h; cases h
    · rw [if_neg h1] at h
      by_cases h2 : ta < 4
      · rw [if_pos h2] at h
        obtain ⟨i, hi, e⟩ := nI_of h0
        subst e
        rw [nI_clamp hi] at h
        cases h
        rfl
      · rw [if_neg h2] at h; cases h
theorem ta_at {nt j : Nat} (hnt : nt ≤ 4) (hj : j < nt) : f_x_targetAt nt (nI j) = some j := by
  unfold f_x_targetAt
  rw [if_neg (nI_pos (by omega)), if_neg (nI_ge hj (by omega)), if_pos (show nI j < 4 from nI_lt (b := 4) (by omega) (by decide)), nI_clamp (by omega)]
theorem ta_cases {nt : Nat} (hnt : nt ≤ 4) (ta : Int32) : (f_x_targetAt nt ta = none ∧ ¬ f_m_isTarget (nI nt) ta = true) ∨ ∃ j, j < nt ∧ ta = nI j ∧ f_x_targetAt nt ta = some j ∧ f_m_isTarget (nI nt) ta = true := by
  by_cases h : f_m_isTarget (nI nt) ta = true
  · obtain ⟨j, hj, rfl⟩ := tg_nI hnt rfl h
    exact Or.inr ⟨j, hj, rfl, ta_at hnt hj, h⟩
  · refine Or.inl ⟨?_, h⟩
    cases hq : f_x_targetAt nt ta with
    | none => rfl
    | some j =>
      obtain ⟨hj, rfl⟩ := ta_some hnt hq
      exact absurd (tg_of hnt rfl hj) h
section EQ
variable {cn nt : Nat} {G : GS} {TT : Nat → TS} {vp : Nat → Int32} {vh vk vb vg vo vf : Nat → Bool} {vd vu vw vs vx va vq : Nat → Int32}
theorem sa_cases (hI : INV cn nt G TT vp vh vk vb vg vo vf vd vu vw vs vx va vq) (ta : Int32) : (f_x_searchAt nt TT ta = none ∧ ¬ f_m_isSearch (nI nt) vo ta = true) ∨ ∃ j, j < nt ∧ ta = nI j ∧ f_x_searchAt nt TT ta = some j ∧ f_m_isSearch (nI nt) vo ta = true ∧ vo j = true := by
  obtain ⟨hnt, -, hT, -⟩ := hI
  unfold f_x_searchAt f_m_isSearch
  rcases ta_cases hnt ta with ⟨h1, h2⟩ | ⟨j, hj, rfl, h1, h2⟩
  · rw [om_none h1, if_neg h2]
    exact Or.inl ⟨rfl, fun q => by cases q⟩
  · rw [om_some h1, if_pos h2, nI_clamp (by omega)]
    have hse : (TT j).2.2.1 = vo j := (hT j hj).2.2.2.1
    unfold f_t_isSearched
    rw [hse]
    by_cases hv : vo j = true
    · rw [if_pos hv, if_pos hv]
      exact Or.inr ⟨j, hj, rfl, rfl, rfl, hv⟩
    · rw [if_neg hv, if_neg hv]
      exact Or.inl ⟨rfl, fun q => by cases q⟩
theorem e_has (hI : INV cn nt G TT vp vh vk vb vg vo vf vd vu vw vs vx va vq) (ch ot : Int32) : f_x_has G ch ot = f_m_has (nI cn) vh ch ot := by
  obtain ⟨-, ⟨hcn, hsz, hrs, -⟩, -, -⟩ := hI
  unfold f_x_has
  by_cases h1 : f_g_holds G.2.2.1 ot = true
  · obtain ⟨j, hj, rfl⟩ := holds_ch hcn hsz h1
    rw [if_pos h1, con_bt (by omega)]
    by_cases h2 : f_g_holds G.2.2.1 ch = true
    · obtain ⟨i, hi, rfl⟩ := holds_ch hcn hsz h2
      rw [reach_at hcn hsz hi, hrs i hi j (by omega), has_at hcn rfl hi hj]
      cases vh (40 * i + j) <;> rfl
    · have e : f_g_reach G.2.1 G.2.2.1 ch = 0 := by unfold f_g_reach; rw [if_neg h2]
      rw [e, bt_0]
      unfold f_m_has
      rw [holds_is hcn hsz rfl] at h2
      rw [if_neg h2]
      rfl
  · rw [if_neg h1]
    unfold f_m_has
    rw [holds_is hcn hsz rfl] at h1
    by_cases h2 : f_m_isChange (nI cn) ch = true
    · rw [if_pos h2, if_neg h1]
    · rw [if_neg h2]
theorem stand_eq (hI : INV cn nt G TT vp vh vk vb vg vo vf vd vu vw vs vx va vq) {j : Nat} (hj : j < nt) (hv : vo j = true) : f_t_standing ((TT j).2.2.2.2.2.2.1) ((TT j).2.2.2.2.2.2.2.1) ((TT j).2.2.2.2.2.2.2.2.2) G.2.1 G.2.2.1 G.2.2.2.1 G.2.2.2.2 = f_m_state (nI cn) vh vk vb (nI nt) vg vo vd vu vw vs va vq vf (nI j) := by
  obtain ⟨hnt, hG, hT, -⟩ := hI
  obtain ⟨-, -, e3, e4, -⟩ := srch hG (hT j hj) hnt hj hv
  have han : (TT j).2.2.2.2.2.2.2.1 = va j := (hT j hj).2.2.2.2.2.1
  obtain ⟨a, ha, hva⟩ := (hT j hj).2.2.2.2.2.2.1
  unfold f_t_standing f_m_state
  rw [if_pos (se_of hnt hj hv), e3, e4, han, nI_clamp (by omega)]
  by_cases h1 : f_m_heavy (nI cn) vh (nI nt) vg vo vd vu vw vs va vq vf (nI j) = (-1)
  · rw [if_pos h1, if_pos h1]
    by_cases h2 : va j = 15
    · rw [if_pos h2, if_neg (by rw [h2]; decide)]
    · have h3 : va j < 15 := by
        rw [hva] at h2 ⊢
        refine nI_lt (b := 15) ?_ (by decide)
        apply Nat.lt_of_le_of_ne ha
        intro q
        exact h2 (by rw [q]; rfl)
      rw [if_neg h2, if_pos h3]
  · rw [if_neg h1, if_neg h1]
theorem asked_eq (hI : INV cn nt G TT vp vh vk vb vg vo vf vd vu vw vs vx va vq) {j : Nat} (hj : j < nt) (hv : vo j = true) : f_t_asked ((TT j).2.2.2.2.2.2.1) ((TT j).2.2.2.2.2.2.2.1) ((TT j).2.2.2.2.2.2.2.2.2) G.2.1 G.2.2.1 G.2.2.2.1 G.2.2.2.2 = f_m_next (nI cn) vh vk vb (nI nt) vg vo vd vu vw vs va vq vf (nI j) := by
  unfold f_t_asked f_m_next
  rw [stand_eq hI hj hv]
  obtain ⟨hnt, hG, hT, -⟩ := hI
  rw [(srch hG (hT j hj) hnt hj hv).2.2.2.1]
theorem e_state (hI : INV cn nt G TT vp vh vk vb vg vo vf vd vu vw vs vx va vq) (ta : Int32) : f_x_state nt G TT ta = f_m_state (nI cn) vh vk vb (nI nt) vg vo vd vu vw vs va vq vf ta := by
  unfold f_x_state
  rcases sa_cases hI ta with ⟨h1, h2⟩ | ⟨j, hj, rfl, h1, h2, h3⟩
  · rw [om_none h1]
    unfold f_m_state
    rw [if_neg h2]
  · rw [om_some h1]
    exact stand_eq hI hj h3
theorem e_next (hI : INV cn nt G TT vp vh vk vb vg vo vf vd vu vw vs vx va vq) (ta : Int32) : f_x_next nt G TT ta = f_m_next (nI cn) vh vk vb (nI nt) vg vo vd vu vw vs va vq vf ta := by
  unfold f_x_next
  rcases sa_cases hI ta with ⟨h1, h2⟩ | ⟨j, hj, rfl, h1, h2, h3⟩
  · rw [om_none h1]
    unfold f_m_next f_m_state
    rw [if_neg h2, if_neg (by decide)]
  · rw [om_some h1]
    exact asked_eq hI hj h3
theorem e_total (hI : INV cn nt G TT vp vh vk vb vg vo vf vd vu vw vs vx va vq) (ta : Int32) : f_x_total nt TT ta = f_m_total (nI cn) vh (nI nt) vg vo vd vu vw va vq vf ta := by
  unfold f_x_total
  rcases sa_cases hI ta with ⟨h1, h2⟩ | ⟨j, hj, rfl, h1, h2, h3⟩
  · rw [om_none h1]
    unfold f_m_total
    rw [if_neg h2]
  · rw [om_some h1]
    exact (srch hI.2.1 (hI.2.2.1 j hj) hI.1 hj h3).1
theorem e_found (hI : INV cn nt G TT vp vh vk vb vg vo vf vd vu vw vs vx va vq) (ta : Int32) : f_x_found nt TT ta = f_m_found (nI cn) vh (nI nt) vg vo vd vu vw vs va vq vf ta := by
  unfold f_x_found f_m_found
  rcases sa_cases hI ta with ⟨h1, h2⟩ | ⟨j, hj, rfl, h1, h2, h3⟩
  · rw [om_none h1, if_neg h2]
  · rw [om_some h1, if_pos h2]
    exact (srch hI.2.1 (hI.2.2.1 j hj) hI.1 hj h3).2.2.1
theorem e_told (hI : INV cn nt G TT vp vh vk vb vg vo vf vd vu vw vs vx va vq) (ta kk : Int32) : f_x_told nt TT ta kk = f_m_told (nI cn) vh (nI nt) vg vo vd vu vw va vq vf ta kk := by
  unfold f_x_told
  rcases sa_cases hI ta with ⟨h1, h2⟩ | ⟨j, hj, rfl, h1, h2, h3⟩
  · rw [om_none h1]
    unfold f_m_told
    rw [if_neg h2]
  · rw [om_some h1]
    exact (srch hI.2.1 (hI.2.2.1 j hj) hI.1 hj h3).2.2.2.2 kk
theorem e_weight (hI : INV cn nt G TT vp vh vk vb vg vo vf vd vu vw vs vx va vq) (ta ch : Int32) : f_x_weight nt TT ta ch = f_m_weight (nI cn) vh (nI nt) vg vo vd vu vw va vq vf ta ch := by
  unfold f_x_weight
  rcases sa_cases hI ta with ⟨h1, h2⟩ | ⟨j, hj, rfl, h1, h2, h3⟩
  · rw [om_none h1]
    unfold f_m_weight
    rw [if_neg h2]
  · rw [om_some h1]
    obtain ⟨hnt, hG, hT, -⟩ := hI
    obtain ⟨b, p, q, -, -, -, -, -, -, -, -, -, -, hwt, -⟩ := (hT j hj).2.2.2.2.2.2.2 h3
    by_cases c0 : ch < 0
    · unfold f_t_weightOf f_m_weight
      rw [if_pos c0, if_pos h2, if_neg (fun q => by obtain ⟨i, hi, rfl⟩ := ch_nI hG.1 rfl q; exact nI_pos (by have := hG.1; omega) c0)]
    · by_cases c1 : (40 : Int32) ≤ ch
      · unfold f_t_weightOf f_m_weight
        rw [if_neg c0, if_pos c1, if_pos h2, if_neg (fun q => by
          obtain ⟨i, hi, rfl⟩ := ch_nI hG.1 rfl q
          have hc := hG.1
          exact nI_ge (a := i) (b := 40) (by omega) (by decide) c1)]
      · obtain ⟨i, hi, rfl⟩ := in_nI c0 c1
        rw [wof_eq _ hi]
        exact hwt i hi
theorem e_part (hI : INV cn nt G TT vp vh vk vb vg vo vf vd vu vw vs vx va vq) (ta ch : Int32) : f_x_part nt G TT ta ch = f_m_part (nI cn) vh (nI nt) vg vo vd vu vw va vq vf ta ch := by
  unfold f_x_part
  rcases sa_cases hI ta with ⟨h1, h2⟩ | ⟨j, hj, rfl, h1, h2, h3⟩
  · rw [om_none h1]
    unfold f_m_part
    rw [if_neg h2]
  · rw [om_some h1]
    have hG := hI.2.1
    by_cases hc : f_g_holds G.2.2.1 ch = true
    · obtain ⟨i, hi, rfl⟩ := holds_ch hG.1 hG.2.1 hc
      rw [reach_at hG.1 hG.2.1 hi]
      exact (srch hG (hI.2.2.1 j hj) hI.1 hj h3).2.1 i hi
    · have e : f_g_reach G.2.1 G.2.2.1 ch = 0 := by unfold f_g_reach; rw [if_neg hc]
      rw [holds_is hG.1 hG.2.1 rfl] at hc
      unfold f_m_part
      rw [if_pos h2, if_neg hc, e, within_eq, wsum_congr (g := fun _ => 0) 40 (fun i _ => by show (if bt 0 i = true then _ else 0) = _; rw [bt_0]; rfl)]
      exact wsum40 (cn := 0) (by decide) (fun _ _ _ => rfl)
theorem e_counted (hI : INV cn nt G TT vp vh vk vb vg vo vf vd vu vw vs vx va vq) (ta wh : Int32) : f_x_counted nt G TT ta wh = f_m_counted (nI cn) vb (nI nt) vo vd vx va ta wh := by
  obtain ⟨hnt, hG, hT, -⟩ := hI
  obtain ⟨hcn, -, -, -, -, -, -, -, hbu, hbs, hbc, -⟩ := hG
  unfold f_x_counted f_m_counted
  by_cases w2 : wh = 2
  · rw [if_pos w2, if_pos w2, counted_cnt hcn rfl]
    unfold f_g_builtCount
    rw [bitc_cnt hbs, cnt_congr 40 hbu]
    congr 1
    refine cnt40 hcn (fun i h1 h2 => ?_)
    cases hv : vb i
    · rfl
    · have := hbc i h2 hv
      omega
  · rw [if_neg w2, if_neg w2]
    rcases ta_cases hnt ta with ⟨h1, h2⟩ | ⟨j, hj, rfl, h1, h2⟩
    · rw [om_none h1, if_neg h2]
    · obtain ⟨-, -, -, t4, t5, t6, -, t8⟩ := hT j hj
      rw [om_some h1, if_pos h2, nI_clamp (by omega)]
      unfold f_t_isSearched
      rw [t4, t5, t6]
      by_cases w1 : wh = 1
      · rw [if_pos w1, if_pos w1]
      · rw [if_neg w1, if_neg w1]
        by_cases hv : vo j = true
        · obtain ⟨b, p, q, -, -, hbd, -⟩ := t8 hv
          rw [if_pos hv, if_pos hv, hbd]
        · rw [if_neg hv, if_neg hv]
end EQ
