/-! THE INVARIANT between the class's state (nt, G, TT) and the reference's (cn changes, nt targets, its arrays) -/
def GI (cn : Nat) (G : GS) (vp : Nat → Int32) (vh vk vb : Nat → Bool) : Prop :=
  cn ≤ 40 ∧ G.2.2.1 = nI cn ∧ (∀ i, i < cn → ∀ j, j < 40 → bt (G.2.1 i) j = vh (40 * i + j)) ∧ (∀ i, i < cn → small (G.2.1 i)) ∧ (∀ i, i < cn → ∀ j, j < 40 → vh (40 * i + j) = true → j ≤ i) ∧
  (∀ i, i < cn → ∀ e, e < 3 → vp (3 * i + e) = (-1) ∨ ∃ q, q < i ∧ vp (3 * i + e) = nI q) ∧ (∀ i, i < cn → ∀ j, j < 40 → (bt (G.1 i) j = true ↔ ∃ e, e < 3 ∧ vp (3 * i + e) = nI j)) ∧
  (∀ i, i < cn → ∀ o, o < 40 → vh (40 * i + o) = true → i = o ∨ ∃ e q, e < 3 ∧ q < i ∧ vp (3 * i + e) = nI q ∧ vh (40 * q + o) = true) ∧
  (∀ j, j < 40 → bt G.2.2.2.1 j = vb j) ∧ small G.2.2.2.1 ∧ (∀ j, j < 40 → vb j = true → j < cn) ∧ (∀ j, j < 40 → bt G.2.2.2.2 j = vk j)
def TI (cn nt : Nat) (vh vg vo vf : Nat → Bool) (vd vu vw vs vx va vq : Nat → Int32) (t : Nat) (T : TS) : Prop :=
  (∀ j, j < 40 → bt T.1 j = vg (40 * t + j)) ∧ (∀ j, j < 40 → vg (40 * t + j) = true → j < cn) ∧ (∀ j, j < 40 → (bt T.2.1 j = true ↔ ∃ c, c < cn ∧ vg (40 * t + c) = true ∧ vh (40 * c + j) = true)) ∧ T.2.2.1 = vo t ∧ T.2.2.2.2.2.2.2.2.1 = vx t ∧ T.2.2.2.2.2.2.2.1 = va t ∧ (∃ a, a ≤ 15 ∧ va t = nI a) ∧
  (vo t = true → ∃ b p q, b < cn ∧ vd t = nI b ∧ T.2.2.2.1 = vd t ∧ p < q ∧ q ≤ 9 ∧ vu t = nI p ∧ vw t = nI q ∧ T.2.2.2.2.1 = vu t ∧ T.2.2.2.2.2.1 = vw t ∧ T.2.2.2.2.2.2.1 = vs t ∧ (∀ i, i < 40 → T.2.2.2.2.2.2.2.2.2 i = mW (nI cn) vh (nI nt) vg vo vd vu vw va vq vf t i) ∧ ∃ a, a ≤ 15 ∧ va t = nI a ∧ ∀ k, k < a → ∃ c, c < cn ∧ vq (15 * t + k) = nI c)
/-- targets that aren't there yet -/
def FI (nt : Nat) (vg vo : Nat → Bool) (vx va : Nat → Int32) : Prop := ∀ t, nt ≤ t → t < 4 → (∀ j, j < 40 → vg (40 * t + j) = false) ∧ vo t = false ∧ vx t = 0 ∧ va t = 0
theorem wsum40 {f : Nat → Int64} {cn : Nat} (hcn : cn ≤ 40) (h : ∀ i, cn ≤ i → i < 40 → f i = 0) : wsum f 40 = wsum f cn := by
  have e := wsum_ext (f := f) cn (40 - cn) (fun i h1 h2 => h i h1 (by omega))
  rw [show cn + (40 - cn) = 40 by omega] at e
  exact e
theorem fnd40 {P : Nat → Bool} {cn : Nat} (hcn : cn ≤ 40) (h : ∀ i, cn ≤ i → i < 40 → P i = false) : fnd P 40 0 = fnd P cn 0 := by
  have e := fnd_ext (P := P) (40 - cn) cn 0 (fun i h1 h2 => h i (by omega) (by omega))
  rw [show cn + (40 - cn) = 40 by omega] at e
  exact e
theorem cnt40 {P : Nat → Bool} {cn : Nat} (hcn : cn ≤ 40) (h : ∀ i, cn ≤ i → i < 40 → P i = false) : cnt P 40 = cnt P cn := by
  have e := cnt_ext (P := P) cn (40 - cn) (fun i h1 h2 => h i h1 (by omega))
  rw [show cn + (40 - cn) = 40 by omega] at e
  exact e
theorem k61 : 40 * 9 ^ 15 < 2 ^ 61 := by decide
theorem k63 : 9 ^ 15 < 2 ^ 63 := by decide
theorem prod_small {f : Nat → Int64} : ∀ (n : Nat), (∀ i, i < n → ∃ w, w ≤ 9 ∧ f i = lN w) → ∃ w, w ≤ 9 ^ n ∧ wprod f n = lN w := by
  intro n
  induction n with
  | zero => intro _; exact ⟨1, by decide, rfl⟩
  | succ n ih =>
    intro h
    obtain ⟨w1, h1, e1⟩ := ih (fun i hi => h i (by omega))
    obtain ⟨w2, h2, e2⟩ := h n (by omega)
    refine ⟨w1 * w2, ?_, ?_⟩
    · rw [Nat.pow_succ]; exact Nat.mul_le_mul h1 h2
    · show wprod f n * f n = _
      rw [e1, e2, lN_mul]
section RO
variable {cn nt t : Nat} {G : GS} {T : TS} {vp : Nat → Int32} {vh vk vb vg vo vf : Nat → Bool} {vd vu vw vs vx va vq : Nat → Int32}
theorem se_of (hnt : nt ≤ 4) (ht : t < nt) (hvo : vo t = true) : f_m_isSearch (nI nt) vo (nI t) = true := by
  unfold f_m_isSearch
  rw [if_pos (tg_of hnt rfl ht), nI_clamp (by omega), if_pos hvo]
theorem fac_small {p q c k : Nat} (hpq : p < q) (hq : q ≤ 9) (hu : vu t = nI p) (hw : vw t = nI q) : ∃ w, w ≤ 9 ∧ fac (nI cn) vh vu vw vq vf t c k = lN w := by
  unfold fac
  rw [hu, hw]
  by_cases h1 : vf (15 * t + k) = true
  · by_cases h2 : f_m_has (nI cn) vh (vq (15 * t + k)) (nI c) = true
    · rw [if_pos h1, if_pos h2]; exact ⟨q - p, by omega, by rw [pk_sub (by omega), nI_l (by omega)]⟩
    · rw [if_pos h1, if_neg h2]; exact ⟨0, by omega, rfl⟩
  · by_cases h2 : f_m_has (nI cn) vh (vq (15 * t + k)) (nI c) = true
    · rw [if_neg h1, if_pos h2]; exact ⟨p, by omega, nI_l (by omega)⟩
    · rw [if_neg h1, if_neg h2]; exact ⟨q, by omega, nI_l (by omega)⟩
theorem mW_small {p q a i : Nat} (hcn : cn ≤ 40) (hnt : nt ≤ 4) (ht : t < nt) (hvo : vo t = true) (hpq : p < q) (hq : q ≤ 9) (hu : vu t = nI p) (hw : vw t = nI q) (ha : a ≤ 15) (hva : va t = nI a) (hi : i < 2 ^ 31) : ∃ w, w ≤ 9 ^ 15 ∧ mW (nI cn) vh (nI nt) vg vo vd vu vw va vq vf t i = lN w := by
  by_cases hc : i < cn
  · rw [mW_eq hcn rfl (by omega) (se_of hnt ht hvo) ha hva hc]
    by_cases h1 : f_m_has (nI cn) vh (vd t) (nI i) = true
    · by_cases h2 : anyF (gdP vg vh t i) cn 0 = true
      · rw [if_pos h1, if_pos h2]; exact ⟨0, Nat.zero_le _, rfl⟩
      · rw [if_pos h1, if_neg h2]
        obtain ⟨w, h3, h4⟩ := prod_small (f := fac (nI cn) vh vu vw vq vf t i) a (fun k _ => fac_small hpq hq hu hw)
        exact ⟨w, Nat.le_trans h3 (Nat.pow_le_pow_right (by decide) ha), h4⟩
    · rw [if_neg h1]; exact ⟨0, Nat.zero_le _, rfl⟩
  · rw [mW_big hcn rfl (by omega) hi]; exact ⟨0, Nat.zero_le _, rfl⟩
/-- all that the class's search of a target answers is what the reference answers -/
theorem srch (hG : GI cn G vp vh vk vb) (hT : TI cn nt vh vg vo vf vd vu vw vs vx va vq t T) (hnt : nt ≤ 4) (ht : t < nt) (hvo : vo t = true) :
    f_t_weightOfAll T.2.2.2.2.2.2.2.2.2 = f_m_total (nI cn) vh (nI nt) vg vo vd vu vw va vq vf (nI t) ∧
    (∀ c, c < cn → f_t_weightWithin T.2.2.2.2.2.2.2.2.2 (G.2.1 c) = f_m_part (nI cn) vh (nI nt) vg vo vd vu vw va vq vf (nI t) (nI c)) ∧
    f_t_culprit T.2.2.2.2.2.2.1 T.2.2.2.2.2.2.2.2.2 = f_m_heavy (nI cn) vh (nI nt) vg vo vd vu vw vs va vq vf (nI t) ∧
    f_t_mostEven T.2.2.2.2.2.2.2.2.2 G.2.1 G.2.2.1 G.2.2.2.1 G.2.2.2.2 = f_m_even (nI cn) vh vk vb (nI nt) vg vo vd vu vw va vq vf (nI t) ∧
    ∀ kk, f_t_ranked T.2.2.2.2.2.2.2.2.2 kk = f_m_told (nI cn) vh (nI nt) vg vo vd vu vw va vq vf (nI t) kk := by
  obtain ⟨hcn, hsz, hrs, hsm, hle, hpr, hps, hst, hbu, hbs, hbc, hsk⟩ := hG
  obtain ⟨-, -, -, -, -, -, ⟨a, ha, hva⟩, hS⟩ := hT
  obtain ⟨b, p, q, hb, hvd, hbd, hpq, hq, hu, hw, hfp, hfq, hsu, hwt, -⟩ := hS hvo
  generalize T.2.2.2.2.2.2.2.2.2 = wt at hwt ⊢
  rw [hsu]
  have hse := se_of hnt ht hvo
  have hms : ∀ i, i < 2 ^ 31 → ∃ w, w ≤ 9 ^ 15 ∧ mW (nI cn) vh (nI nt) vg vo vd vu vw va vq vf t i = lN w := fun i hi => mW_small hcn hnt ht hvo hpq hq hu hw ha hva hi
  have hbig : ∀ i, cn ≤ i → i < 40 → mW (nI cn) vh (nI nt) vg vo vd vu vw va vq vf t i = 0 := fun i h1 h2 => mW_big hcn rfl h1 (by omega)
  have eall : f_t_weightOfAll wt = f_m_total (nI cn) vh (nI nt) vg vo vd vu vw va vq vf (nI t) := by
    rw [all_eq, total_eq hcn rfl hse, wsum_congr 40 hwt]
    exact wsum40 hcn hbig
  have epart : ∀ c, c < cn → f_t_weightWithin wt (G.2.1 c) = f_m_part (nI cn) vh (nI nt) vg vo vd vu vw va vq vf (nI t) (nI c) := by
    intro c hc
    rw [within_eq, part_eq hcn rfl hse hc, wsum_congr (g := fun i => if vh (40 * c + i) = true then mW (nI cn) vh (nI nt) vg vo vd vu vw va vq vf t i else 0) 40 (fun i hi => by show (if bt (G.2.1 c) i = true then wt i else 0) = _; rw [hrs c hc i hi, hwt i hi])]
    refine wsum40 hcn (fun i h1 h2 => ?_)
    show (if vh (40 * c + i) = true then mW (nI cn) vh (nI nt) vg vo vd vu vw va vq vf t i else 0) = 0
    rw [hbig i h1 h2]
    split <;> rfl
  have eheavy : f_t_culprit (vs t) wt = f_m_heavy (nI cn) vh (nI nt) vg vo vd vu vw vs va vq vf (nI t) := by
    rw [culprit_eq, heavy_eq hcn rfl (by omega), eall]
    rw [fnd_congr (Q := cuP (vs t) (mW (nI cn) vh (nI nt) vg vo vd vu vw va vq vf t) (f_m_total (nI cn) vh (nI nt) vg vo vd vu vw va vq vf (nI t))) 40 0 (fun i h1 h2 => by unfold cuP; rw [hwt i (by omega)])]
    refine fnd40 hcn (fun i h1 h2 => ?_)
    unfold cuP
    rw [hbig i h1 h2]
    rfl
  refine ⟨eall, epart, eheavy, ?_, fun kk => ?_⟩
  · refine even_eq (B := 0) hcn rfl hsz (fun j hj => hsk j (by omega)) (fun j hj => hbu j (by omega)) eall epart ?_ (fun j hj => ?_)
    · obtain ⟨w, h1, h2⟩ := sum_small (f := wt) (B := 9 ^ 15) 40 (fun i hi => by rw [hwt i hi]; exact hms i (by omega))
      exact ⟨w, Nat.lt_of_le_of_lt h1 k61, by rw [all_eq]; exact h2⟩
    · obtain ⟨w, h1, h2⟩ := sum_small (f := fun i => if bt (G.2.1 j) i = true then wt i else 0) (B := 9 ^ 15) 40 (fun i hi => by
        show ∃ w, w ≤ 9 ^ 15 ∧ (if bt (G.2.1 j) i = true then wt i else 0) = lN w
        split
        · rw [hwt i hi]; exact hms i (by omega)
        · exact ⟨0, Nat.zero_le _, rfl⟩)
      exact ⟨w, Nat.lt_of_le_of_lt h1 k61, by rw [within_eq]; exact h2⟩
  · rw [ranked_eq, told_eq hcn rfl hse]
    rw [fnd_congr (Q := tlP (mW (nI cn) vh (nI nt) vg vo vd vu vw va vq vf t) kk cn) 40 0 (fun i h1 h2 => ?_)]
    · refine fnd40 hcn (fun i h1 h2 => ?_)
      unfold tlP
      rw [hbig i h1 h2]
      simp
    · unfold raP tlP
      have hi : i < 40 := by omega
      rw [hwt i hi]
      obtain ⟨w, hw1, hw2⟩ := hms i (by omega)
      have hpos : (0 < mW (nI cn) vh (nI nt) vg vo vd vu vw va vq vf t i) ↔ ¬ mW (nI cn) vh (nI nt) vg vo vd vu vw va vq vf t i = 0 := by
        rw [hw2, show (0 : Int64) = lN 0 from rfl, pk_lLT (by decide) (Nat.lt_of_le_of_lt hw1 k63), pk_lEQ (Nat.lt_of_le_of_lt hw1 k63) (by decide)]
        omega
      by_cases h0 : mW (nI cn) vh (nI nt) vg vo vd vu vw va vq vf t i = 0
      · rw [show decide (0 < mW (nI cn) vh (nI nt) vg vo vd vu vw va vq vf t i) = false from decide_eq_false (fun q => hpos.mp q h0)]
        simp [h0]
      · rw [show decide (0 < mW (nI cn) vh (nI nt) vg vo vd vu vw va vq vf t i) = true from decide_eq_true (hpos.mpr h0), show decide (mW (nI cn) vh (nI nt) vg vo vd vu vw va vq vf t i = 0) = false from decide_eq_false h0]
        have ec : cnt (rkP wt (mW (nI cn) vh (nI nt) vg vo vd vu vw va vq vf t i) i) 40 = cnt (rkP (mW (nI cn) vh (nI nt) vg vo vd vu vw va vq vf t) (mW (nI cn) vh (nI nt) vg vo vd vu vw va vq vf t i) i) cn := by
          rw [cnt_congr (Q := rkP (mW (nI cn) vh (nI nt) vg vo vd vu vw va vq vf t) (mW (nI cn) vh (nI nt) vg vo vd vu vw va vq vf t i) i) 40 (fun k hk => by unfold rkP; rw [hwt k hk])]
          refine cnt40 hcn (fun k h3 h4 => ?_)
          unfold rkP
          rw [hbig k h3 h4]
          have a1 : ¬ mW (nI cn) vh (nI nt) vg vo vd vu vw va vq vf t i < 0 := by
            intro q
            have q2 := hpos.mpr h0
            rw [hw2] at q q2
            rw [show (0 : Int64) = lN 0 from rfl, pk_lLT (Nat.lt_of_le_of_lt hw1 k63) (by decide)] at q
            omega
          have a2 : ¬ (0 : Int64) = mW (nI cn) vh (nI nt) vg vo vd vu vw va vq vf t i := fun q => h0 q.symm
          simp [a1, a2]
        rw [ec]
        rfl
end RO
