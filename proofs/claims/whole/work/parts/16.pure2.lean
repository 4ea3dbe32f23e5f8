/-! the reference's loops -/
theorem lin_cl (c : Nat) {i j : Nat} (h : c * i + j < 2 ^ 31) : (nI c * nI i + nI j).toNatClampNeg = c * i + j := by
  rw [pk_mul, nI_add, nI_clamp h]
theorem has_at {vc : Int32} {vh : Nat → Bool} {cn i j : Nat} (hcn : cn ≤ 40) (hvc : vc = nI cn) (hi : i < cn) (hj : j < cn) : f_m_has vc vh (nI i) (nI j) = vh (40 * i + j) := by
  unfold f_m_has
  have e : ((40 * nI i) + nI j).toNatClampNeg = 40 * i + j := lin_cl 40 (by omega)
  rw [if_pos (ch_of hcn hvc hi), if_pos (ch_of hcn hvc hj), e]
  cases vh (40 * i + j) <;> rfl
theorem has_ch {vc : Int32} {vh : Nat → Bool} {cn : Nat} {x y : Int32} (hcn : cn ≤ 40) (hvc : vc = nI cn) (h : f_m_has vc vh x y = true) : ∃ i j, i < cn ∧ j < cn ∧ x = nI i ∧ y = nI j ∧ vh (40 * i + j) = true := by
  by_cases h1 : f_m_isChange vc x = true
  · by_cases h2 : f_m_isChange vc y = true
    · obtain ⟨i, hi, rfl⟩ := ch_nI hcn hvc h1
      obtain ⟨j, hj, rfl⟩ := ch_nI hcn hvc h2
      exact ⟨i, j, hi, hj, rfl, rfl, by rw [has_at hcn hvc hi hj] at h; exact h⟩
    · unfold f_m_has at h; rw [if_pos h1, if_neg h2] at h; cases h
  · unfold f_m_has at h; rw [if_neg h1] at h; cases h
theorem has_big {vc : Int32} {vh : Nat → Bool} {cn j : Nat} {x : Int32} (hcn : cn ≤ 40) (hvc : vc = nI cn) (hj : cn ≤ j) (hj2 : j < 2 ^ 31) : ¬ f_m_has vc vh x (nI j) = true := by
  intro h
  obtain ⟨i, j', _, h2, _, h3, _⟩ := has_ch hcn hvc h
  have := (nI_eq hj2 (by omega)).mp h3
  omega
theorem ch_big {vc : Int32} {cn j : Nat} (hcn : cn ≤ 40) (hvc : vc = nI cn) (hj : cn ≤ j) (hj2 : j < 2 ^ 31) : ¬ f_m_isChange vc (nI j) = true := by
  intro h
  obtain ⟨j', h2, h3⟩ := ch_nI hcn hvc h
  have := (nI_eq hj2 (by omega)).mp h3
  omega
def anyF (P : Nat → Bool) : Nat → Nat → Bool
  | 0, _ => false
  | n + 1, k => if P k = true then true else anyF P n (k + 1)
theorem anyF_iff {P : Nat → Bool} : ∀ (n k : Nat), anyF P n k = true ↔ ∃ i, k ≤ i ∧ i < k + n ∧ P i = true := by
  intro n
  induction n with
  | zero =>
    intro k
    constructor
    · intro h; cases h
    · rintro ⟨i, h1, h2, _⟩; omega
  | succ n ih =>
    intro k
    show (if P k = true then true else anyF P n (k + 1)) = true ↔ _
    by_cases h : P k = true
    · rw [if_pos h]
      exact ⟨fun _ => ⟨k, by omega, by omega, h⟩, fun _ => rfl⟩
    · rw [if_neg h, ih]
      constructor
      · rintro ⟨i, h1, h2, h3⟩; exact ⟨i, by omega, by omega, h3⟩
      · rintro ⟨i, h1, h2, h3⟩
        refine ⟨i, ?_, by omega, h3⟩
        apply Nat.lt_of_le_of_ne h1
        intro q; subst q; exact h h3
def gdP (vg vh : Nat → Bool) (t o : Nat) : Nat → Bool := fun c => vg (40 * t + c) && vh (40 * c + o)
theorem good_eq {vc : Int32} {vh vg : Nat → Bool} {cn t o : Nat} (hcn : cn ≤ 40) (hvc : vc = nI cn) (ht : t < 4) (ho : o < cn) : f_m_isGood vc vh vg (nI t) (nI o) = anyF (gdP vg vh t o) cn 0 := by
  have loop : ∀ n k, k + n = 41 → k ≤ cn → L_m_isGood_2 vc vh vg (nI t) (nI o) n (nI k) = anyF (gdP vg vh t o) (cn - k) k := by
    intro n
    induction n with
    | zero => intro k h1 h2; omega
    | succ n ih =>
      intro k h1 h2
      rw [L_m_isGood_2_s]
      by_cases h : k = cn
      · subst h; rw [if_pos ((nIc hcn hvc (by omega)).mpr (Nat.le_refl _)), Nat.sub_self]; rfl
      · have e := ih (k + 1) (by omega) (by omega)
        have e2 : ((40 * nI t) + nI k).toNatClampNeg = 40 * t + k := lin_cl 40 (by omega)
        rw [if_neg (fun q => h (by have := (nIc hcn hvc (by omega)).mp q; omega)), e2, has_at hcn hvc (by omega) ho, nI_1, show cn - k = (cn - (k + 1)) + 1 by omega]
        show _ = (if gdP vg vh t o k = true then true else anyF (gdP vg vh t o) (cn - (k + 1)) (k + 1))
        rw [← e]
        unfold gdP
        by_cases h3 : vg (40 * t + k) = true
        · by_cases h4 : vh (40 * k + o) = true
          · rw [if_pos h3, if_pos h4, if_pos (by simp [h3, h4])]
          · rw [if_pos h3, if_neg h4, if_neg (by simp [h4])]
        · rw [if_neg h3, if_neg (by simp [h3])]
  exact loop 41 0 rfl (Nat.zero_le _)
def wprod (f : Nat → Int64) : Nat → Int64
  | 0 => 1
  | k + 1 => wprod f k * f k
theorem wprod_congr {f g : Nat → Int64} : ∀ (n : Nat), (∀ i, i < n → f i = g i) → wprod f n = wprod g n := by
  intro n
  induction n with
  | zero => intro _; rfl
  | succ n ih =>
    intro h
    show wprod f n * f n = wprod g n * g n
    rw [ih (fun i hi => h i (by omega)), h n (by omega)]
/-- what an answer says of a change: k-th answer of target t, change c -/
def fac (vc : Int32) (vh : Nat → Bool) (vu vw vq : Nat → Int32) (vf : Nat → Bool) (t c k : Nat) : Int64 :=
  if vf (15 * t + k) = true then (if f_m_has vc vh (vq (15 * t + k)) (nI c) = true then (vw t - vu t).toInt64 else 0) else (if f_m_has vc vh (vq (15 * t + k)) (nI c) = true then (vu t).toInt64 else (vw t).toInt64)
section MODEL
variable {vc vt : Int32} {vh vg vo vf vk vb : Nat → Bool} {vd vu vw va vq vs : Nat → Int32} {cn t : Nat}
/-- the weight of change c for target t, as the reference has it -/
abbrev mW (vc : Int32) (vh : Nat → Bool) (vt : Int32) (vg vo : Nat → Bool) (vd vu vw va vq : Nat → Int32) (vf : Nat → Bool) (t : Nat) : Nat → Int64 := fun c => f_m_weight vc vh vt vg vo vd vu vw va vq vf (nI t) (nI c)
theorem prod_eq {c an : Nat} (ht : t < 4) (han : an ≤ 15) (hva : va t = nI an) : L_m_weight_49 vc vh vt vg vo vd vu vw va vq vf (nI t) (nI c) 16 1 (15 * nI t) = wprod (fac vc vh vu vw vq vf t c) an := by
  have hb : 15 * nI t + va (nI t).toNatClampNeg = nI (15 * t + an) := w_bd rfl ht hva
  have loop : ∀ n k, k + n = 16 → k ≤ an → L_m_weight_49 vc vh vt vg vo vd vu vw va vq vf (nI t) (nI c) n (wprod (fac vc vh vu vw vq vf t c) k) (nI (15 * t + k)) = wprod (fac vc vh vu vw vq vf t c) an := by
    intro n
    induction n with
    | zero => intro k h1 h2; omega
    | succ n ih =>
      intro k h1 h2
      rw [L_m_weight_49_s, hb]
      by_cases h : k = an
      · subst h; rw [if_pos (nI_le (Nat.le_refl _) (by omega))]
      · have e := ih (k + 1) (by omega) (by omega)
        rw [if_neg (nI_ge (by omega) (by omega)), nI_clamp (n := 15 * t + k) (by omega), nI_1, nI_clamp (n := t) (by omega)]
        have s : ∀ x, fac vc vh vu vw vq vf t c k = x → L_m_weight_49 vc vh vt vg vo vd vu vw va vq vf (nI t) (nI c) n (wprod (fac vc vh vu vw vq vf t c) k * x) (nI (15 * t + k + 1)) = wprod (fac vc vh vu vw vq vf t c) an := fun x hx => by
          rw [← hx]; exact e
        by_cases h3 : vf (15 * t + k) = true
        · by_cases h4 : f_m_has vc vh (vq (15 * t + k)) (nI c) = true
          · rw [if_pos h3, if_pos h4]; exact s _ (by unfold fac; rw [if_pos h3, if_pos h4])
          · rw [if_pos h3, if_neg h4]; exact s _ (by unfold fac; rw [if_pos h3, if_neg h4])
        · by_cases h4 : f_m_has vc vh (vq (15 * t + k)) (nI c) = true
          · rw [if_neg h3, if_pos h4]; exact s _ (by unfold fac; rw [if_neg h3, if_pos h4])
          · rw [if_neg h3, if_neg h4]; exact s _ (by unfold fac; rw [if_neg h3, if_neg h4])
  rw [w_st (rfl : nI t = nI t)]
  exact loop 16 0 rfl (Nat.zero_le _)
theorem mW_eq {c an : Nat} (hcn : cn ≤ 40) (hvc : vc = nI cn) (ht : t < 4) (hse : f_m_isSearch vt vo (nI t) = true) (han : an ≤ 15) (hva : va t = nI an) (hc : c < cn) :
    mW vc vh vt vg vo vd vu vw va vq vf t c = if f_m_has vc vh (vd t) (nI c) = true then (if anyF (gdP vg vh t c) cn 0 = true then 0 else wprod (fac vc vh vu vw vq vf t c) an) else 0 := by
  show f_m_weight vc vh vt vg vo vd vu vw va vq vf (nI t) (nI c) = _
  unfold f_m_weight
  rw [if_pos hse, if_pos (ch_of hcn hvc hc), nI_clamp (by omega), good_eq hcn hvc ht hc, prod_eq ht han hva]
theorem mW_big {c : Nat} (hcn : cn ≤ 40) (hvc : vc = nI cn) (hc : cn ≤ c) (hc2 : c < 2 ^ 31) : mW vc vh vt vg vo vd vu vw va vq vf t c = 0 := by
  show f_m_weight vc vh vt vg vo vd vu vw va vq vf (nI t) (nI c) = _
  unfold f_m_weight
  by_cases h : f_m_isSearch vt vo (nI t) = true
  · rw [if_pos h, if_neg (ch_big hcn hvc hc hc2)]
  · rw [if_neg h]
theorem total_eq (hcn : cn ≤ 40) (hvc : vc = nI cn) (hse : f_m_isSearch vt vo (nI t) = true) : f_m_total vc vh vt vg vo vd vu vw va vq vf (nI t) = wsum (mW vc vh vt vg vo vd vu vw va vq vf t) cn := by
  have loop : ∀ n k, k + n = 41 → k ≤ cn → L_m_total_15 vc vh vt vg vo vd vu vw va vq vf (nI t) n (wsum (mW vc vh vt vg vo vd vu vw va vq vf t) k) (nI k) = wsum (mW vc vh vt vg vo vd vu vw va vq vf t) cn := by
    intro n
    induction n with
    | zero => intro k h1 h2; omega
    | succ n ih =>
      intro k h1 h2
      rw [L_m_total_15_s]
      by_cases h : k = cn
      · subst h; rw [if_pos ((nIc hcn hvc (by omega)).mpr (Nat.le_refl _))]
      · rw [if_neg (fun q => h (by have := (nIc hcn hvc (by omega)).mp q; omega)), nI_1]
        exact ih (k + 1) (by omega) (by omega)
  unfold f_m_total
  rw [if_pos hse]
  exact loop 41 0 rfl (Nat.zero_le _)
theorem part_eq {c : Nat} (hcn : cn ≤ 40) (hvc : vc = nI cn) (hse : f_m_isSearch vt vo (nI t) = true) (hc : c < cn) : f_m_part vc vh vt vg vo vd vu vw va vq vf (nI t) (nI c) = wsum (fun i => if vh (40 * c + i) = true then mW vc vh vt vg vo vd vu vw va vq vf t i else 0) cn := by
  have loop : ∀ n k, k + n = 41 → k ≤ cn → L_m_part_23 vc vh vt vg vo vd vu vw va vq vf (nI t) (nI c) n (wsum (fun i => if vh (40 * c + i) = true then mW vc vh vt vg vo vd vu vw va vq vf t i else 0) k) (nI k) = wsum (fun i => if vh (40 * c + i) = true then mW vc vh vt vg vo vd vu vw va vq vf t i else 0) cn := by
    intro n
    induction n with
    | zero => intro k h1 h2; omega
    | succ n ih =>
      intro k h1 h2
      rw [L_m_part_23_s]
      by_cases h : k = cn
      · subst h; rw [if_pos ((nIc hcn hvc (by omega)).mpr (Nat.le_refl _))]
      · have e := ih (k + 1) (by omega) (by omega)
        rw [if_neg (fun q => h (by have := (nIc hcn hvc (by omega)).mp q; omega)), nI_1, has_at hcn hvc hc (by omega)]
        by_cases hb : vh (40 * c + k) = true
        · rw [if_pos hb]
          rw [show wsum (fun i => if vh (40 * c + i) = true then mW vc vh vt vg vo vd vu vw va vq vf t i else 0) (k + 1) = wsum (fun i => if vh (40 * c + i) = true then mW vc vh vt vg vo vd vu vw va vq vf t i else 0) k + f_m_weight vc vh vt vg vo vd vu vw va vq vf (nI t) (nI k) from by show _ + (if vh (40 * c + k) = true then _ else 0) = _; rw [if_pos hb]] at e
          exact e
        · rw [if_neg hb]
          rw [show wsum (fun i => if vh (40 * c + i) = true then mW vc vh vt vg vo vd vu vw va vq vf t i else 0) (k + 1) = wsum (fun i => if vh (40 * c + i) = true then mW vc vh vt vg vo vd vu vw va vq vf t i else 0) k from by show _ + (if vh (40 * c + k) = true then _ else 0) = _; rw [if_neg hb, Int64.add_zero]] at e
          exact e
  unfold f_m_part
  rw [if_pos hse, if_pos (ch_of hcn hvc hc)]
  exact loop 41 0 rfl (Nat.zero_le _)
theorem heavy_eq (hcn : cn ≤ 40) (hvc : vc = nI cn) (ht : t < 4) : f_m_heavy vc vh vt vg vo vd vu vw vs va vq vf (nI t) = fnd (cuP (vs t) (mW vc vh vt vg vo vd vu vw va vq vf t) (f_m_total vc vh vt vg vo vd vu vw va vq vf (nI t))) cn 0 := by
  have loop : ∀ n k, k + n = 41 → k ≤ cn → L_m_heavy_9 vc vh vt vg vo vd vu vw vs va vq vf (nI t) n (nI k) = fnd (cuP (vs t) (mW vc vh vt vg vo vd vu vw va vq vf t) (f_m_total vc vh vt vg vo vd vu vw va vq vf (nI t))) (cn - k) k := by
    intro n
    induction n with
    | zero => intro k h1 h2; omega
    | succ n ih =>
      intro k h1 h2
      rw [L_m_heavy_9_s]
      by_cases h : k = cn
      · subst h; rw [if_pos ((nIc hcn hvc (by omega)).mpr (Nat.le_refl _)), Nat.sub_self]; rfl
      · have e := ih (k + 1) (by omega) (by omega)
        rw [if_neg (fun q => h (by have := (nIc hcn hvc (by omega)).mp q; omega)), nI_1, nI_clamp (n := t) (by omega), show cn - k = (cn - (k + 1)) + 1 by omega]
        show _ = (if cuP (vs t) (mW vc vh vt vg vo vd vu vw va vq vf t) (f_m_total vc vh vt vg vo vd vu vw va vq vf (nI t)) k = true then nI k else fnd (cuP (vs t) (mW vc vh vt vg vo vd vu vw va vq vf t) (f_m_total vc vh vt vg vo vd vu vw va vq vf (nI t))) (cn - (k + 1)) (k + 1))
        rw [← e]
        unfold cuP
        show _ = (if (decide (0 < f_m_weight vc vh vt vg vo vd vu vw va vq vf (nI t) (nI k)) && !decide (f_m_weight vc vh vt vg vo vd vu vw va vq vf (nI t) (nI k) * 100 < (vs t).toInt64 * f_m_total vc vh vt vg vo vd vu vw va vq vf (nI t))) = true then _ else _)
        rw [Int64.mul_comm 100]
        by_cases h3 : 0 < f_m_weight vc vh vt vg vo vd vu vw va vq vf (nI t) (nI k)
        · by_cases h4 : f_m_weight vc vh vt vg vo vd vu vw va vq vf (nI t) (nI k) * 100 < (vs t).toInt64 * f_m_total vc vh vt vg vo vd vu vw va vq vf (nI t)
          · rw [if_pos h3, if_pos h4, if_neg (by simp [h4])]
          · rw [if_pos h3, if_neg h4, if_pos (by simp [h3, h4])]
        · rw [if_neg h3, if_neg (by simp [h3])]
  unfold f_m_heavy
  exact loop 41 0 rfl (Nat.zero_le _)
end MODEL
