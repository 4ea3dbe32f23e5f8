/-! the two searches for the most even change are one -/
theorem skip_bt {sk : Int64} {j : Nat} (hj : j < 40) : f_g_isSkipped sk (nI j) = bt sk j := con_bt hj
theorem built_bt {bu : Int64} {j : Nat} (hj : j < 40) : f_g_isBuilt bu (nI j) = bt bu j := con_bt hj
theorem built_m1 {bu : Int64} : ¬ f_g_isBuilt bu (-1) = true := by
  unfold f_g_isBuilt
  rw [con_out (by decide)]
  decide
theorem holds_at {sz : Int32} {cn j : Nat} (hcn : cn ≤ 40) (hsz : sz = nI cn) (hj : j < cn) : f_g_holds sz (nI j) = true := by
  unfold f_g_holds
  have h1 : f_x_isNumber (nI j) = true := by
    unfold f_x_isNumber
    rw [if_neg (nI_pos (by omega)), if_neg (show ¬ (40 : Int32) ≤ nI j from nI_ge (a := j) (b := 40) (by omega) (by decide))]
  rw [if_pos h1, if_neg (by rw [hsz]; exact nI_ge hj (by omega))]
theorem holds_ch {sz x : Int32} {cn : Nat} (hcn : cn ≤ 40) (hsz : sz = nI cn) (h : f_g_holds sz x = true) : ∃ j, j < cn ∧ x = nI j := by
  obtain ⟨j, hj, e⟩ := holds_nI h
  refine ⟨j, ?_, e⟩
  unfold f_g_holds at h
  by_cases h1 : f_x_isNumber x = true
  · rw [if_pos h1] at h
    by_cases h2 : sz ≤ x
    · rw [if_pos h2] at h; cases h
    · exact k_lt e hsz h2 (by omega)
  · rw [if_neg h1] at h; cases h
theorem reach_at {rs : Nat → Int64} {sz : Int32} {cn j : Nat} (hcn : cn ≤ 40) (hsz : sz = nI cn) (hj : j < cn) : f_g_reach rs sz (nI j) = rs j := by
  unfold f_g_reach
  rw [if_pos (holds_at hcn hsz hj), nI_clamp (by omega)]
/-- holds and isChange say the same -/
theorem holds_is {sz vc x : Int32} {cn : Nat} (hcn : cn ≤ 40) (hsz : sz = nI cn) (hvc : vc = nI cn) : f_g_holds sz x = f_m_isChange vc x := by
  cases h1 : f_g_holds sz x
  · cases h2 : f_m_isChange vc x
    · rfl
    · obtain ⟨j, hj, rfl⟩ := ch_nI hcn hvc h2
      rw [holds_at hcn hsz hj] at h1
      exact h1.symm
  · obtain ⟨j, hj, rfl⟩ := holds_ch hcn hsz h1
    rw [ch_of hcn hvc hj]
theorem even_eq {wt rs : Nat → Int64} {sz : Int32} {bu sk : Int64} {vc vt : Int32} {vh vg vo vf vk vb : Nat → Bool} {vd vu vw va vq : Nat → Int32} {cn t B : Nat} (hcn : cn ≤ 40) (hvc : vc = nI cn) (hsz : sz = nI cn)
    (hsk : ∀ j, j < cn → bt sk j = vk j) (hbu : ∀ j, j < cn → bt bu j = vb j) (hall : f_t_weightOfAll wt = f_m_total vc vh vt vg vo vd vu vw va vq vf (nI t)) (hpart : ∀ j, j < cn → f_t_weightWithin wt (rs j) = f_m_part vc vh vt vg vo vd vu vw va vq vf (nI t) (nI j))
    (hA : ∃ a, a < 2 ^ 61 ∧ f_t_weightOfAll wt = lN a) (hX : ∀ j, j < cn → ∃ x, x < 2 ^ 61 ∧ f_t_weightWithin wt (rs j) = lN x) :
    f_t_mostEven wt rs sz bu sk = f_m_even vc vh vk vb vt vg vo vd vu vw va vq vf (nI t) := by
  have loop : ∀ (n k : Nat) (be : Int32) (bg : Int64), k + n = 41 → k ≤ cn → okb cn be → L_t_mostEven_13 wt rs sz bu sk n be bg (nI k) = L_m_even_15 vc vh vk vb vt vg vo vd vu vw va vq vf (nI t) n be bg (nI k) := by
    intro n
    induction n with
    | zero => intro k be bg h1 h2; omega
    | succ n ih =>
      intro k be bg h1 h2 hbe
      rw [L_t_mostEven_13_s, L_m_even_15_s]
      by_cases h : k = cn
      · subst h; rw [if_pos ((nIc hcn hsz (by omega)).mpr (Nat.le_refl _)), if_pos ((nIc hcn hvc (by omega)).mpr (Nat.le_refl _))]
      · have hk : k < cn := by omega
        have e0 := ih (k + 1) be bg (by omega) (by omega) hbe
        have e1 : ∀ bg', L_t_mostEven_13 wt rs sz bu sk n (nI k) bg' (nI (k + 1)) = L_m_even_15 vc vh vk vb vt vg vo vd vu vw va vq vf (nI t) n (nI k) bg' (nI (k + 1)) := fun bg' => ih (k + 1) (nI k) bg' (by omega) (by omega) (Or.inr ⟨k, hk, rfl⟩)
        have n1 : ¬ sz ≤ nI k := fun q => h (by have := (nIc hcn hsz (by omega)).mp q; omega)
        have n2 : ¬ vc ≤ nI k := fun q => h (by have := (nIc hcn hvc (by omega)).mp q; omega)
        rw [if_neg n1, if_neg n2]
        obtain ⟨a, ha, ea⟩ := hA
        obtain ⟨x, hx, ex⟩ := hX k hk
        have ep : f_m_part vc vh vt vg vo vd vu vw va vq vf (nI t) (nI k) = lN x := by rw [← hpart k hk]; exact ex
        have et : f_m_total vc vh vt vg vo vd vu vw va vq vf (nI t) = lN a := by rw [← hall]; exact ea
        rw [skip_bt (j := k) (by omega), hsk k hk, reach_at hcn hsz hk, ex, ea, ep, et, nI_clamp (n := k) (by omega), nI_1, built_bt (j := k) (by omega), hbu k hk, e0]
        simp only [e1]
        by_cases c1 : vk k = true
        · rw [if_pos c1, if_pos c1]
        · rw [if_neg c1, if_neg c1]
          by_cases c2 : 0 < lN x
          · rw [if_pos c2, if_pos c2]
            by_cases c3 : lN x < lN a
            · rw [if_pos c3, if_pos c3]
              have hxa : x ≤ a := by have := (pk_lLT (by omega) (by omega)).mp c3; omega
              rw [gap_eq hxa ha]
              have hbb : (f_g_isBuilt bu be = true) = (¬ be = (-1) ∧ vb be.toNatClampNeg = true) := by
                rcases hbe with rfl | ⟨b0, hb0, rfl⟩
                · simp [built_m1]
                · rw [built_bt (by omega), hbu b0 hb0, nI_clamp (by omega)]
                  have hne : ¬ nI b0 = (-1) := by
                    intro q
                    exact absurd (by rw [q]; decide) (nI_pos (n := b0) (by omega))
                  simp [hne]
              by_cases c4 : lN a < 2 * lN x
              · rw [if_pos c4, if_pos c4]
                have key := ev_tree (u := L_m_even_15 vc vh vk vb vt vg vo vd vu vw va vq vf (nI t) n (nI k) (2 * lN x - lN a) (nI (k + 1))) (k := L_m_even_15 vc vh vk vb vt vg vo vd vu vw va vq vf (nI t) n be bg (nI (k + 1))) (eq := 2 * lN x - lN a = bg) (bk := vb k = true) (bb := f_g_isBuilt bu be = true) (m1 := be = (-1)) (lt := 2 * lN x - lN a < bg) (fun q => by rw [q]; exact Int64.lt_irrefl) (fun q => by rw [q]; exact built_m1)
                rw [key]
                by_cases d1 : be = (-1)
                · rw [if_pos d1, if_pos d1]
                · rw [if_neg d1, if_neg d1]
                  simp only [hbb, d1, not_false_eq_true, true_and]
              · rw [if_neg c4, if_neg c4]
                have key := ev_tree (u := L_m_even_15 vc vh vk vb vt vg vo vd vu vw va vq vf (nI t) n (nI k) (lN a - 2 * lN x) (nI (k + 1))) (k := L_m_even_15 vc vh vk vb vt vg vo vd vu vw va vq vf (nI t) n be bg (nI (k + 1))) (eq := lN a - 2 * lN x = bg) (bk := vb k = true) (bb := f_g_isBuilt bu be = true) (m1 := be = (-1)) (lt := lN a - 2 * lN x < bg) (fun q => by rw [q]; exact Int64.lt_irrefl) (fun q => by rw [q]; exact built_m1)
                rw [key]
                by_cases d1 : be = (-1)
                · rw [if_pos d1, if_pos d1]
                · rw [if_neg d1, if_neg d1]
                  simp only [hbb, d1, not_false_eq_true, true_and]
            · rw [if_neg c3, if_neg c3]
          · rw [if_neg c2, if_neg c2]
  unfold f_t_mostEven f_m_even
  exact loop 41 0 (-1) 0 rfl (Nat.zero_le _) (Or.inl rfl)
