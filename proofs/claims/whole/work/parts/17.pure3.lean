/-! what may be told of numbers that stay small -/
theorem neg_sm {d : Nat} (h : d < 2 ^ 62) : (-(lN d)).toInt = -(d : Int) := Int64.toInt_neg_ofNat_of_le (by omega)
theorem gap_eq {x a : Nat} (hx : x ≤ a) (ha : a < 2 ^ 61) : (if 0 < lN x - (lN a - lN x) then lN x - (lN a - lN x) else -(lN x - (lN a - lN x))) = (if lN a < 2 * lN x then 2 * lN x - lN a else lN a - 2 * lN x) := by
  rw [show (2 : Int64) * lN x = lN (2 * x) from lN_mul 2 x, lN_sub hx]
  by_cases h : a < 2 * x
  · rw [lN_sub (a := x) (b := a - x) (by omega), if_pos (show (0 : Int64) < lN (x - (a - x)) from (pk_lLT (a := 0) (by omega) (by omega)).mpr (by omega)), if_pos ((pk_lLT (by omega) (by omega)).mpr h), lN_sub (by omega)]
    congr 1
    omega
  · have e : lN x - lN (a - x) = -(lN (a - 2 * x)) := by
      rw [show a - x = x + (a - 2 * x) by omega, ← lN_add, ← Int64.sub_sub, Int64.sub_self, Int64.zero_sub]
    rw [e, if_neg (fun q => by rw [Int64.lt_iff_toInt_lt, neg_sm (by omega)] at q; have h0 : (0 : Int64).toInt = 0 := (by decide); omega), if_neg (fun q => h ((pk_lLT (by omega) (by omega)).mp q)), lN_sub (by omega), Int64.neg_neg]
/-- weights that are numbers up to B -/
def smallW (wt : Nat → Int64) (B : Nat) : Prop := ∀ i, i < 40 → ∃ w, w ≤ B ∧ wt i = lN w
theorem sum_small {f : Nat → Int64} {B : Nat} : ∀ (n : Nat), (∀ i, i < n → ∃ w, w ≤ B ∧ f i = lN w) → ∃ w, w ≤ n * B ∧ wsum f n = lN w := by
  intro n
  induction n with
  | zero => intro _; exact ⟨0, by omega, rfl⟩
  | succ n ih =>
    intro h
    obtain ⟨w1, h1, e1⟩ := ih (fun i hi => h i (by omega))
    obtain ⟨w2, h2, e2⟩ := h n (by omega)
    refine ⟨w1 + w2, ?_, ?_⟩
    · rw [Nat.add_mul, Nat.one_mul]; omega
    · show wsum f n + f n = _
      rw [e1, e2, lN_add]
theorem ev_tree {α : Type} {u k : α} {eq bk bb m1 lt : Prop} [Decidable eq] [Decidable bk] [Decidable bb] [Decidable m1] [Decidable lt] (h1 : eq → ¬ lt) (h2 : m1 → ¬ bb) :
    (if eq then (if bk then (if bb then (if m1 then u else if lt then u else k) else (if m1 then u else if lt then u else u)) else (if m1 then u else if lt then u else k)) else (if m1 then u else if lt then u else k)) = (if m1 then u else if lt then u else if eq then (if bk then (if bb then k else u) else k) else k) := by
  by_cases c1 : eq <;> by_cases c2 : bk <;> by_cases c3 : bb <;> by_cases c4 : m1 <;> by_cases c5 : lt <;> simp_all
