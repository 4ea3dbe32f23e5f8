/-! sums, searches and counts over 0 .. n - 1 -/
def wsum (f : Nat → Int64) : Nat → Int64
  | 0 => 0
  | k + 1 => wsum f k + f k
theorem wsum_congr {f g : Nat → Int64} : ∀ (n : Nat), (∀ i, i < n → f i = g i) → wsum f n = wsum g n := by
  intro n
  induction n with
  | zero => intro _; rfl
  | succ n ih =>
    intro h
    show wsum f n + f n = wsum g n + g n
    rw [ih (fun i hi => h i (by omega)), h n (by omega)]
theorem wsum_ext {f : Nat → Int64} (a : Nat) : ∀ (b : Nat), (∀ i, a ≤ i → i < a + b → f i = 0) → wsum f (a + b) = wsum f a := by
  intro b
  induction b with
  | zero => intro _; rfl
  | succ b ih =>
    intro h
    show wsum f (a + b) + f (a + b) = wsum f a
    rw [ih (fun i h1 h2 => h i h1 (by omega)), h (a + b) (by omega) (by omega), Int64.add_zero]
def fnd (P : Nat → Bool) : Nat → Nat → Int32
  | 0, _ => -1
  | n + 1, k => if P k = true then nI k else fnd P n (k + 1)
theorem fnd_congr {P Q : Nat → Bool} : ∀ (n k : Nat), (∀ i, k ≤ i → i < k + n → P i = Q i) → fnd P n k = fnd Q n k := by
  intro n
  induction n with
  | zero => intro k _; rfl
  | succ n ih =>
    intro k h
    show (if P k = true then nI k else fnd P n (k + 1)) = (if Q k = true then nI k else fnd Q n (k + 1))
    rw [h k (by omega) (by omega), ih (k + 1) (fun i h1 h2 => h i (by omega) (by omega))]
theorem fnd_none {P : Nat → Bool} : ∀ (n k : Nat), (∀ i, k ≤ i → i < k + n → P i = false) → fnd P n k = -1 := by
  intro n
  induction n with
  | zero => intro k _; rfl
  | succ n ih =>
    intro k h
    show (if P k = true then nI k else fnd P n (k + 1)) = -1
    rw [if_neg (by rw [h k (by omega) (by omega)]; decide)]
    exact ih (k + 1) (fun i h1 h2 => h i (by omega) (by omega))
theorem fnd_ext {P : Nat → Bool} (b : Nat) : ∀ (a k : Nat), (∀ i, k + a ≤ i → i < k + a + b → P i = false) → fnd P (a + b) k = fnd P a k := by
  intro a
  induction a with
  | zero => intro k h; rw [Nat.zero_add]; exact fnd_none b k (fun i h1 h2 => h i (by omega) (by omega))
  | succ a ih =>
    intro k h
    rw [show a + 1 + b = (a + b) + 1 by omega]
    show (if P k = true then nI k else fnd P (a + b) (k + 1)) = (if P k = true then nI k else fnd P a (k + 1))
    rw [ih (k + 1) (fun i h1 h2 => h i (by omega) (by omega))]
theorem fnd_of {P : Nat → Bool} : ∀ (n k : Nat), fnd P n k = -1 ∨ ∃ i, k ≤ i ∧ i < k + n ∧ P i = true ∧ fnd P n k = nI i := by
  intro n
  induction n with
  | zero => intro k; exact Or.inl rfl
  | succ n ih =>
    intro k
    show (if P k = true then nI k else fnd P n (k + 1)) = -1 ∨ ∃ i, k ≤ i ∧ i < k + (n + 1) ∧ P i = true ∧ (if P k = true then nI k else fnd P n (k + 1)) = nI i
    by_cases h : P k = true
    · rw [if_pos h]; exact Or.inr ⟨k, by omega, by omega, h, rfl⟩
    · rw [if_neg h]
      rcases ih (k + 1) with h1 | ⟨i, h1, h2, h3, h4⟩
      · exact Or.inl h1
      · exact Or.inr ⟨i, by omega, by omega, h3, h4⟩
def cnt (P : Nat → Bool) : Nat → Nat
  | 0 => 0
  | k + 1 => cnt P k + (if P k = true then 1 else 0)
theorem cnt_congr {P Q : Nat → Bool} : ∀ (n : Nat), (∀ i, i < n → P i = Q i) → cnt P n = cnt Q n := by
  intro n
  induction n with
  | zero => intro _; rfl
  | succ n ih =>
    intro h
    show cnt P n + _ = cnt Q n + _
    rw [ih (fun i hi => h i (by omega)), h n (by omega)]
theorem cnt_ext {P : Nat → Bool} (a : Nat) : ∀ (b : Nat), (∀ i, a ≤ i → i < a + b → P i = false) → cnt P (a + b) = cnt P a := by
  intro b
  induction b with
  | zero => intro _; rfl
  | succ b ih =>
    intro h
    show cnt P (a + b) + (if P (a + b) = true then 1 else 0) = cnt P a
    rw [ih (fun i h1 h2 => h i h1 (by omega)), h (a + b) (by omega) (by omega)]
    rfl
theorem cnt_s1 {P : Nat → Bool} {k : Nat} (h : P k = true) : cnt P (k + 1) = cnt P k + 1 := by
  show cnt P k + (if P k = true then 1 else 0) = _
  rw [if_pos h]
theorem cnt_s0 {P : Nat → Bool} {k : Nat} (h : ¬ P k = true) : cnt P (k + 1) = cnt P k := by
  show cnt P k + (if P k = true then 1 else 0) = _
  rw [if_neg h, Nat.add_zero]
theorem cnt_le {P : Nat → Bool} : ∀ (n : Nat), cnt P n ≤ n := by
  intro n
  induction n with
  | zero => exact Nat.le_refl _
  | succ n ih =>
    show cnt P n + (if P n = true then 1 else 0) ≤ n + 1
    split <;> omega
theorem nI40 {k : Nat} (hk : k ≤ 40) : (40 : Int32) ≤ nI k ↔ k = 40 := by
  rw [show (40 : Int32) = nI 40 from rfl, nI_leI (by decide) (by omega)]
  omega
theorem nIc {vc : Int32} {cn k : Nat} (hcn : cn ≤ 40) (hvc : vc = nI cn) (hk : k ≤ 40) : vc ≤ nI k ↔ cn ≤ k := by
  rw [hvc, nI_leI (by omega) (by omega)]
/-! the class's loops -/
theorem all_eq (wt : Nat → Int64) : f_t_weightOfAll wt = wsum wt 40 := by
  have loop : ∀ n k, k + n = 41 → k ≤ 40 → L_t_weightOfAll_4 wt n (wsum wt k) (nI k) = wsum wt 40 := by
    intro n
    induction n with
    | zero => intro k h1 h2; omega
    | succ n ih =>
      intro k h1 h2
      rw [L_t_weightOfAll_4_s]
      by_cases h : k = 40
      · subst h; rw [if_pos ((nI40 (by omega)).mpr rfl)]
      · rw [if_neg (fun q => h ((nI40 h2).mp q)), nI_clamp (by omega), nI_1]
        exact ih (k + 1) (by omega) (by omega)
  exact loop 41 0 rfl (by decide)
theorem within_eq (wt : Nat → Int64) (zs : Int64) : f_t_weightWithin wt zs = wsum (fun i => if bt zs i = true then wt i else 0) 40 := by
  have loop : ∀ n k, k + n = 41 → k ≤ 40 → L_t_weightWithin_5 wt zs n (wsum (fun i => if bt zs i = true then wt i else 0) k) (nI k) = wsum (fun i => if bt zs i = true then wt i else 0) 40 := by
    intro n
    induction n with
    | zero => intro k h1 h2; omega
    | succ n ih =>
      intro k h1 h2
      rw [L_t_weightWithin_5_s]
      by_cases h : k = 40
      · subst h; rw [if_pos ((nI40 (by omega)).mpr rfl)]
      · have e := ih (k + 1) (by omega) (by omega)
        rw [if_neg (fun q => h ((nI40 h2).mp q)), con_bt (by omega), nI_clamp (by omega), nI_1]
        by_cases hb : bt zs k = true
        · rw [if_pos hb]
          rw [show wsum (fun i => if bt zs i = true then wt i else 0) (k + 1) = wsum (fun i => if bt zs i = true then wt i else 0) k + wt k from by show _ + (if bt zs k = true then wt k else 0) = _; rw [if_pos hb]] at e
          exact e
        · rw [if_neg hb]
          rw [show wsum (fun i => if bt zs i = true then wt i else 0) (k + 1) = wsum (fun i => if bt zs i = true then wt i else 0) k from by show _ + (if bt zs k = true then wt k else 0) = _; rw [if_neg hb, Int64.add_zero]] at e
          exact e
  exact loop 41 0 rfl (by decide)
def cuP (su : Int32) (wt : Nat → Int64) (all : Int64) : Nat → Bool := fun i => decide (0 < wt i) && !decide (wt i * 100 < su.toInt64 * all)
theorem culprit_eq (su : Int32) (wt : Nat → Int64) : f_t_culprit su wt = fnd (cuP su wt (f_t_weightOfAll wt)) 40 0 := by
  have loop : ∀ n k, k + n = 41 → k ≤ 40 → L_t_culprit_13 su wt n (nI k) = fnd (cuP su wt (f_t_weightOfAll wt)) (40 - k) k := by
    intro n
    induction n with
    | zero => intro k h1 h2; omega
    | succ n ih =>
      intro k h1 h2
      rw [L_t_culprit_13_s]
      by_cases h : k = 40
      · subst h; rw [if_pos ((nI40 (by omega)).mpr rfl)]; rfl
      · have e := ih (k + 1) (by omega) (by omega)
        rw [if_neg (fun q => h ((nI40 h2).mp q)), nI_clamp (by omega), nI_1, show 40 - k = (40 - (k + 1)) + 1 by omega]
        show _ = (if cuP su wt (f_t_weightOfAll wt) k = true then nI k else fnd (cuP su wt (f_t_weightOfAll wt)) (40 - (k + 1)) (k + 1))
        rw [← e]
        unfold cuP
        by_cases h3 : 0 < wt k
        · by_cases h4 : wt k * 100 < su.toInt64 * f_t_weightOfAll wt
          · rw [if_pos h3, if_pos h4, if_neg (by simp [h3, h4])]
          · rw [if_pos h3, if_neg h4, if_pos (by simp [h3, h4])]
        · rw [if_neg h3, if_neg (by simp [h3])]
  exact loop 41 0 rfl (by decide)
def rkP (wt : Nat → Int64) (own : Int64) (c : Nat) : Nat → Bool := fun i => decide (own < wt i) || (decide (wt i = own) && decide (i < c))
theorem wof_eq (wt : Nat → Int64) {c : Nat} (hc : c < 40) : f_t_weightOf wt (nI c) = wt c := by
  unfold f_t_weightOf
  rw [if_neg (nI_pos (by omega)), if_neg (fun q => by have := (nI40 (by omega)).mp q; omega), nI_clamp (by omega)]
theorem rank_eq (wt : Nat → Int64) {c : Nat} (hc : c < 40) : f_t_rankOf wt (nI c) = nI (cnt (rkP wt (wt c) c) 40) := by
  have loop : ∀ n k, k + n = 41 → k ≤ 40 → L_t_rankOf_12 wt (nI c) n (nI (cnt (rkP wt (wt c) c) k)) (nI k) = nI (cnt (rkP wt (wt c) c) 40) := by
    intro n
    induction n with
    | zero => intro k h1 h2; omega
    | succ n ih =>
      intro k h1 h2
      rw [L_t_rankOf_12_s]
      by_cases h : k = 40
      · subst h; rw [if_pos ((nI40 (by omega)).mpr rfl)]
      · have e := ih (k + 1) (by omega) (by omega)
        rw [if_neg (fun q => h ((nI40 h2).mp q)), nI_clamp (by omega), nI_1, nI_1, wof_eq wt hc]
        have s1 : rkP wt (wt c) c k = true → cnt (rkP wt (wt c) c) (k + 1) = cnt (rkP wt (wt c) c) k + 1 := fun q => cnt_s1 q
        have s0 : ¬ rkP wt (wt c) c k = true → cnt (rkP wt (wt c) c) (k + 1) = cnt (rkP wt (wt c) c) k := fun q => cnt_s0 q
        by_cases h3 : wt c < wt k
        · rw [if_pos h3, ← e, s1 (by simp [rkP, h3])]
        · rw [if_neg h3]
          by_cases h4 : wt k = wt c
          · rw [if_pos h4]
            by_cases h5 : nI c ≤ nI k
            · have h6 : ¬ k < c := by have := (nI_leI (by omega) (by omega)).mp h5; omega
              rw [if_pos h5, ← e, s0 (by simp [rkP, h3, h6])]
            · have h6 : k < c := by
                apply Nat.lt_of_not_le
                intro q
                exact h5 ((nI_leI (by omega) (by omega)).mpr q)
              rw [if_neg h5, ← e, s1 (by simp [rkP, h4, h6])]
          · rw [if_neg h4, ← e, s0 (by simp [rkP, h3, h4])]
  unfold f_t_rankOf
  exact loop 41 0 rfl (by decide)
def raP (wt : Nat → Int64) (kk : Int32) : Nat → Bool := fun i => decide (0 < wt i) && decide (nI (cnt (rkP wt (wt i) i) 40) = kk)
theorem ranked_eq (wt : Nat → Int64) (kk : Int32) : f_t_ranked wt kk = fnd (raP wt kk) 40 0 := by
  have loop : ∀ n k, k + n = 41 → k ≤ 40 → L_t_ranked_2 wt kk n (nI k) = fnd (raP wt kk) (40 - k) k := by
    intro n
    induction n with
    | zero => intro k h1 h2; omega
    | succ n ih =>
      intro k h1 h2
      rw [L_t_ranked_2_s]
      by_cases h : k = 40
      · subst h; rw [if_pos ((nI40 (by omega)).mpr rfl)]; rfl
      · have e := ih (k + 1) (by omega) (by omega)
        rw [if_neg (fun q => h ((nI40 h2).mp q)), nI_clamp (by omega), nI_1, rank_eq wt (c := k) (by omega), show 40 - k = (40 - (k + 1)) + 1 by omega]
        show _ = (if raP wt kk k = true then nI k else fnd (raP wt kk) (40 - (k + 1)) (k + 1))
        rw [← e]
        unfold raP
        by_cases h3 : 0 < wt k
        · by_cases h4 : nI (cnt (rkP wt (wt k) k) 40) = kk
          · rw [if_pos h3, if_pos h4, if_pos (by simp [h3, h4])]
          · rw [if_pos h3, if_neg h4, if_neg (by simp [h4])]
        · rw [if_neg h3, if_neg (by simp [h3])]
  exact loop 41 0 rfl (by decide)
