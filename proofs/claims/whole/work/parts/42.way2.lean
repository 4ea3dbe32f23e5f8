theorem fnd_min {P : Nat → Bool} {q : Nat} : ∀ (n k : Nat), k ≤ q → q < k + n → P q = true → (∀ i, k ≤ i → i < q → P i = false) → fnd P n k = nI q := by
  intro n
  induction n with
  | zero => intro k h1 h2; omega
  | succ n ih =>
    intro k h1 h2 h3 h4
    show (if P k = true then nI k else fnd P n (k + 1)) = nI q
    by_cases h : k = q
    · subst h; rw [if_pos h3]
    · rw [if_neg (by rw [h4 k (by omega) (by omega)]; decide)]
      exact ih (k + 1) (by omega) (by omega) h3 (fun i h5 h6 => h4 i (by omega) h6)
def spP (ps rs : Nat → Int64) (a gl : Nat) : Nat → Bool := fun i => bt (ps a) i && bt (rs i) gl
theorem step_eq {ps rs : Nat → Int64} {sz : Int32} {cn a gl : Nat} (hcn : cn ≤ 40) (hsz : sz = nI cn) (ha : a < cn) (hgl : gl < 40) : f_g_stepToward ps rs sz (nI a) (nI gl) = fnd (spP ps rs a gl) a 0 := by
  have loop : ∀ n k, k + n = 41 → k ≤ a → L_g_stepToward_12 ps rs sz (nI a) (nI gl) n (nI k) = fnd (spP ps rs a gl) (a - k) k := by
    intro n
    induction n with
    | zero => intro k h1 h2; omega
    | succ n ih =>
      intro k h1 h2
      rw [L_g_stepToward_12_s]
      by_cases h : k = a
      · subst h; rw [if_pos (nI_le (Nat.le_refl _) (by omega)), Nat.sub_self]; rfl
      · have e := ih (k + 1) (by omega) (by omega)
        have n1 : ¬ nI a ≤ nI k := nI_ge (by omega) (by omega)
        rw [if_neg n1, nI_clamp (n := a) (by omega), nI_clamp (n := k) (by omega), con_bt (by omega), con_bt hgl, nI_1, show a - k = (a - (k + 1)) + 1 by omega]
        show _ = (if spP ps rs a gl k = true then nI k else fnd (spP ps rs a gl) (a - (k + 1)) (k + 1))
        rw [← e]
        unfold spP
        by_cases h3 : bt (ps a) k = true
        · by_cases h4 : bt (rs k) gl = true
          · rw [if_pos h3, if_pos h4, if_pos (by simp [h3, h4])]
          · rw [if_pos h3, if_neg h4, if_neg (by simp [h4])]
        · rw [if_neg h3, if_neg (by simp [h3])]
  unfold f_g_stepToward
  rw [if_pos (holds_at hcn hsz ha)]
  exact loop 41 0 rfl (Nat.zero_le _)
section WAY
variable {cn nt : Nat} {G : GS} {TT : Nat → TS} {vp : Nat → Int32} {vh vk vb vg vo vf : Nat → Bool} {vd vu vw vs vx va vq : Nat → Int32}
/-- the class's step is the least parent that has the goal, as the reference's -/
theorem step_wy {a gl : Nat} {r : Int32} (hG : GI cn G vp vh vk vb) (ha : a < cn) (hgl : gl < cn) (h : wyI vp vh a gl 3 r) : f_g_stepToward G.1 G.2.1 G.2.2.1 (nI a) (nI gl) = r := by
  obtain ⟨g1, g2, g3, g4, g5, g6, g7, g8, g9, g10, g11, g12⟩ := hG
  rw [step_eq g1 g2 ha (by omega)]
  have hP : ∀ i, i < a → (spP G.1 G.2.1 a gl i = true ↔ ((∃ e, e < 3 ∧ vp (3 * a + e) = nI i) ∧ vh (40 * i + gl) = true)) := by
    intro i hi
    unfold spP
    rw [Bool.and_eq_true, g7 a ha i (by omega), g3 i (by omega) gl (by omega)]
  rcases h with ⟨rfl, h2⟩ | ⟨q, h1, rfl, h3, h4, h6⟩
  · refine fnd_none a 0 (fun i _ hi => ?_)
    cases h5 : spP G.1 G.2.1 a gl i
    · rfl
    · obtain ⟨⟨e, x1, x2⟩, x3⟩ := (hP i (by omega)).mp h5
      exact absurd x3 (h2 e x1 i (by omega) x2)
  · refine fnd_min a 0 (Nat.zero_le _) (by omega) ((hP q h1).mpr ⟨h4, h3⟩) (fun i _ hi => ?_)
    cases h5 : spP G.1 G.2.1 a gl i
    · rfl
    · obtain ⟨⟨e, x1, x2⟩, x3⟩ := (hP i (by omega)).mp h5
      have := h6 e x1 i (by omega) x2 x3
      omega
theorem e_way (hI : INV cn nt G TT vp vh vk vb vg vo vf vd vu vw vs vx va vq) (ta kk : Int32) : f_x_way nt G TT ta kk = f_m_way (nI cn) vp vh (nI nt) vg vo vd vu vw vs va vq vf ta kk := by
  obtain ⟨hnt, hG, hT, hF⟩ := id hI
  obtain ⟨g1, g2, g3, g4, g5, g6, g7, g8, -⟩ := id hG
  unfold f_x_way f_m_way
  rcases sa_cases hI ta with ⟨h1, h2⟩ | ⟨j, hj, rfl, h1, h2, h3⟩
  · have hn : f_m_found (nI cn) vh (nI nt) vg vo vd vu vw vs va vq vf ta = (-1) := by
      unfold f_m_found
      rw [if_neg h2]
    rw [om_none h1, if_pos hn]
  · rw [om_some h1]
    unfold f_t_onWay
    have ec : f_t_culprit (TT j).2.2.2.2.2.2.1 (TT j).2.2.2.2.2.2.2.2.2 = f_m_found (nI cn) vh (nI nt) vg vo vd vu vw vs va vq vf (nI j) := by
      have := e_found hI (nI j)
      unfold f_x_found at this
      rw [om_some h1] at this
      exact this
    rw [ec]
    by_cases hN : f_m_found (nI cn) vh (nI nt) vg vo vd vu vw vs va vq vf (nI j) = (-1)
    · rw [if_pos hN, if_pos hN]
    · rw [if_neg hN, if_neg hN]
      obtain ⟨tj, htj, htt, gl, hgl, hge, a0, ha0, hde, hh0⟩ := fd_ok g1 rfl hnt rfl hN
      have htj2 : tj = j := (nI_eq (by omega) (by omega)).mp htt.symm
      subst htj2
      obtain ⟨b, p, q, -, -, hbd, -⟩ := (hT tj hj).2.2.2.2.2.2.2 h3
      rw [hbd, nI_clamp (n := tj) (by omega), hde]
      by_cases k0 : kk < 0
      · rw [if_pos k0, if_neg (Int32.not_le.mpr k0)]
      · rw [if_neg k0, if_pos (Int32.not_lt.mp k0)]
        obtain ⟨kn, hkn, rfl⟩ := nI_of k0
        have m1 : ∀ q : Nat, q < 40 → ¬ nI q = (-1) := fun q hq z => absurd (by rw [z]; decide) (nI_pos (n := q) (by omega))
        have wk : ∀ a, a < cn → wyI vp vh a gl 3 (L_m_way_51 (nI cn) vp vh (nI nt) vg vo vd vu vw vs va vq vf (nI tj) (nI kn) (nI a) 4 (-1) (3 * nI a)).1 := fun a ha => way_in g1 rfl g6 hgl hge ha rfl
        by_cases k4 : nI kn < 40
        · rw [if_pos k4]
          have hk40 : kn < 40 := k_lt rfl (rfl : (40 : Int32) = nI 40) (Int32.not_le.mpr k4) hkn
          have loop : ∀ (n k a : Nat), k + n = 41 → a + k < cn → vh (40 * a + gl) = true → L_t_onWay_30 (TT tj).2.2.2.1 (TT tj).2.2.2.2.2.2.1 (TT tj).2.2.2.2.2.2.2.2.2 G.1 G.2.1 G.2.2.1 (nI kn) n (nI a) (nI k) = L_m_way_28 (nI cn) vp vh (nI nt) vg vo vd vu vw vs va vq vf (nI tj) (nI kn) n (nI a) (nI k) := by
            intro n
            induction n with
            | zero => intro k a x1 x2; omega
            | succ n ih =>
              intro k a x1 x2 x3
              rw [L_t_onWay_30_s, L_m_way_28_s]
              by_cases y1 : nI kn ≤ nI k
              · rw [if_pos y1, if_pos y1]
              · rw [if_neg y1, if_neg y1, if_neg (m1 a (by omega)), ec, hge, step_wy hG (by omega) hgl (wk a (by omega)), nI_1]
                by_cases y2 : nI a = nI gl
                · have y3 : a = gl := (nI_eq (by omega) (by omega)).mp y2
                  rw [if_pos y2]
                  have y4 : (L_m_way_51 (nI cn) vp vh (nI nt) vg vo vd vu vw vs va vq vf (nI tj) (nI kn) (nI a) 4 (-1) (3 * nI a)).1 = (-1) := by
                    rcases wk a (by omega) with ⟨z, -⟩ | ⟨q, z1, -, z3, -⟩
                    · exact z
                    · have := g5 q (by omega) gl (by omega) z3
                      omega
                  rw [y4]
                  cases n with
                  | zero => omega
                  | succ n =>
                    rw [L_t_onWay_30_s]
                    by_cases y5 : nI kn ≤ nI (k + 1)
                    · rw [if_pos y5]
                    · rw [if_neg y5, if_pos rfl]
                · have y3 : a ≠ gl := fun z => y2 (by rw [z])
                  rw [if_neg y2]
                  obtain ⟨a', z1, z2, z3⟩ := way_step (kk := nI kn) g1 (rfl : nI cn = nI cn) g6 g8 hgl hge (rfl : nI a = nI a) x3 y3 x2
                  rw [z1]
                  exact ih (k + 1) a' (by omega) z2 z3
          exact loop 41 0 a0 rfl (by omega) hh0
        · rw [if_neg k4]
          have hk40 : 40 ≤ kn := by
            apply Nat.le_of_not_lt
            intro z
            exact k4 (nI_lt (b := 40) z (by decide))
          have loop : ∀ (n k a : Nat), k + n = 41 → a + k < cn → vh (40 * a + gl) = true → L_m_way_28 (nI cn) vp vh (nI nt) vg vo vd vu vw vs va vq vf (nI tj) (nI kn) n (nI a) (nI k) = (-1) := by
            intro n
            induction n with
            | zero => intro k a x1 x2; omega
            | succ n ih =>
              intro k a x1 x2 x3
              rw [L_m_way_28_s, if_neg (nI_ge (by omega) hkn), hge, nI_1]
              by_cases y2 : nI a = nI gl
              · rw [if_pos y2]
              · have y3 : a ≠ gl := fun z => y2 (by rw [z])
                rw [if_neg y2]
                obtain ⟨a', z1, z2, z3⟩ := way_step (kk := nI kn) g1 (rfl : nI cn = nI cn) g6 g8 hgl hge (rfl : nI a = nI a) x3 y3 x2
                rw [z1]
                exact ih (k + 1) a' (by omega) z2 z3
          exact (loop 41 0 a0 rfl (by omega) hh0).symm
end WAY
