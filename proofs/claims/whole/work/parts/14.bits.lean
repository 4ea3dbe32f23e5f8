/-! ===== Int64 as a set of bits: test, set, clear ===== -/
theorem ts_nf {x : Bool} (h : ¬ x = false) : x = true := by cases x <;> first | rfl | exact absurd rfl h
theorem ts_nt {x : Bool} (h : ¬ x = true) : x = false := by cases x <;> first | rfl | exact absurd rfl h
theorem ts_bit {w : Int64} {s : UInt64} {j : Nat} (hj : j < 64) (hs : s.toNat = j) : ((w.toUInt64 >>> s).toInt64 &&& 1) = 0 ↔ w.toBitVec.getLsbD j = false := by
  have e : (w.toUInt64 >>> s).toInt64.toBitVec = w.toBitVec >>> j := by
    apply BitVec.eq_of_toNat_eq
    show (w.toUInt64 >>> s).toNat = _
    rw [UInt64.toNat_shiftRight, hs, Nat.mod_eq_of_lt hj, BitVec.toNat_ushiftRight]
    rfl
  rw [← Int64.toBitVec_inj, Int64.toBitVec_and, e]
  show w.toBitVec >>> j &&& 1#64 = 0#64 ↔ _
  constructor
  · intro h
    have t := congrArg (fun x => x.getLsbD 0) h
    simpa using t
  · intro h
    apply BitVec.eq_of_getLsbD_eq
    intro i hi
    cases i with
    | zero => simp [h]
    | succ i => simp
theorem ts_or {w m : Int64} {j : Nat} (hj : j < 64) (hm : m.toBitVec = BitVec.twoPow 64 j) : (w ||| m) = w ↔ w.toBitVec.getLsbD j = true := by
  rw [← Int64.toBitVec_inj, Int64.toBitVec_or, hm]
  constructor
  · intro h
    have t := congrArg (fun x => x.getLsbD j) h
    simp only [BitVec.getLsbD_or, BitVec.getLsbD_twoPow] at t
    simpa [hj] using t.symm
  · intro h
    apply BitVec.eq_of_getLsbD_eq
    intro i hi
    rw [BitVec.getLsbD_or, BitVec.getLsbD_twoPow]
    by_cases e : j = i
    · subst e; rw [h, Bool.true_or]
    · simp [e]
theorem ts_and {w m : Int64} {j : Nat} (hj : j < 64) (hm : m.toBitVec = BitVec.twoPow 64 j) : (w &&& (m ^^^ (-1))) = w ↔ w.toBitVec.getLsbD j = false := by
  have ha : (-1 : Int64).toBitVec = BitVec.allOnes 64 := by decide
  rw [← Int64.toBitVec_inj, Int64.toBitVec_and, Int64.toBitVec_xor, hm, ha]
  constructor
  · intro h
    have t := congrArg (fun x => x.getLsbD j) h
    simp only [BitVec.getLsbD_and, BitVec.getLsbD_xor, BitVec.getLsbD_twoPow, BitVec.getLsbD_allOnes] at t
    simpa [hj] using t.symm
  · intro h
    apply BitVec.eq_of_getLsbD_eq
    intro i hi
    rw [BitVec.getLsbD_and, BitVec.getLsbD_xor, BitVec.getLsbD_twoPow, BitVec.getLsbD_allOnes]
    by_cases e : j = i
    · subst e; rw [h, Bool.false_and]
    · simp [e, hi]
/-! ===== lN n to 2^64: shifts, and, or, masks, one bit ===== -/
theorem wb_tb (n : Nat) : (lN n).toBitVec = BitVec.ofNat 64 n := rfl
theorem wb_inj {a b : Int64} (h : a.toBitVec = b.toBitVec) : a = b := Int64.toBitVec_inj.mp h
theorem wb_tn {n : Nat} (h : n < 2 ^ 64) : (lN n).toBitVec.toNat = n := by rw [wb_tb, BitVec.toNat_ofNat, Nat.mod_eq_of_lt h]
theorem wb_of (x : Int64) : ∃ n, n < 2 ^ 64 ∧ x = lN n := ⟨x.toBitVec.toNat, x.toBitVec.isLt, wb_inj (by rw [wb_tb]; simp)⟩
theorem wb_of32 (x : Int32) : ∃ n, n < 2 ^ 32 ∧ x = nI n := ⟨x.toBitVec.toNat, x.toBitVec.isLt, Int32.toBitVec_inj.mp (by show _ = BitVec.ofNat 32 _; simp)⟩
theorem wb_c : ∀ k, k < 64 → ((nI k).toInt64 &&& 63) = lN k := by decide +kernel
theorem wb_cu : ∀ k, k < 64 → ((nI k).toInt64.toUInt64 &&& Int64.toUInt64 63) = UInt64.ofNat k := by decide +kernel
theorem wb_sm : ∀ k, k < 64 → (BitVec.ofNat 64 k).smod 64 = BitVec.ofNat 64 k := by decide +kernel
theorem wb_pw {a b : Nat} (h : a ≤ b) : 2 ^ b = 2 ^ a * 2 ^ (b - a) := by rw [← Nat.pow_add]; congr 1; omega
theorem wb_lt2 {a b : Nat} (h : a < b) : 2 ^ a < 2 ^ b := Nat.pow_lt_pow_right (by decide) h
theorem wb_mod (n : Nat) : lN n = lN (n % 2 ^ 64) := wb_inj (by rw [wb_tb, wb_tb]; apply BitVec.eq_of_toNat_eq; rw [BitVec.toNat_ofNat, BitVec.toNat_ofNat, Nat.mod_mod])
theorem wb_shr {n k : Nat} (hn : n < 2 ^ 64) (hk : k < 64) : ((lN n).toUInt64 >>> ((nI k).toInt64.toUInt64 &&& Int64.toUInt64 63)).toInt64 = lN (n / 2 ^ k) := by
  rw [wb_cu k hk]
  apply wb_inj
  apply BitVec.eq_of_toNat_eq
  show ((lN n).toUInt64 >>> UInt64.ofNat k).toNat = (BitVec.ofNat 64 _).toNat
  have h1 : (UInt64.ofNat k).toNat = k := by
    show (BitVec.ofNat 64 k).toNat = k
    rw [BitVec.toNat_ofNat, Nat.mod_eq_of_lt (by omega)]
  have h2 : (lN n).toUInt64.toNat = n := wb_tn hn
  rw [UInt64.toNat_shiftRight, h1, h2, Nat.mod_eq_of_lt hk, Nat.shiftRight_eq_div_pow, BitVec.toNat_ofNat, Nat.mod_eq_of_lt (Nat.lt_of_le_of_lt (Nat.div_le_self _ _) hn)]
theorem wb_shl (n : Nat) {k : Nat} (hk : k < 64) : lN n <<< ((nI k).toInt64 &&& 63) = lN (n * 2 ^ k) := by
  rw [wb_c k hk]
  apply wb_inj
  rw [Int64.toBitVec_shiftLeft, wb_tb, wb_tb, wb_tb, wb_sm k hk]
  apply BitVec.eq_of_toNat_eq
  rw [BitVec.shiftLeft_eq', BitVec.toNat_shiftLeft, BitVec.toNat_ofNat, BitVec.toNat_ofNat, BitVec.toNat_ofNat, Nat.mod_eq_of_lt (show k < 2 ^ 64 by omega), Nat.shiftLeft_eq, Nat.mul_mod, Nat.mod_mod, ← Nat.mul_mod]
theorem wb_and {a b : Nat} (ha : a < 2 ^ 64) (hb : b < 2 ^ 64) : lN a &&& lN b = lN (a &&& b) := by
  apply wb_inj
  rw [Int64.toBitVec_and, wb_tb, wb_tb, wb_tb]
  apply BitVec.eq_of_toNat_eq
  rw [BitVec.toNat_and, BitVec.toNat_ofNat, BitVec.toNat_ofNat, BitVec.toNat_ofNat, Nat.mod_eq_of_lt ha, Nat.mod_eq_of_lt hb, Nat.mod_eq_of_lt (Nat.and_lt_two_pow _ hb)]
theorem wb_or {a b : Nat} (ha : a < 2 ^ 64) (hb : b < 2 ^ 64) : lN a ||| lN b = lN (a ||| b) := by
  apply wb_inj
  rw [Int64.toBitVec_or, wb_tb, wb_tb, wb_tb]
  apply BitVec.eq_of_toNat_eq
  rw [BitVec.toNat_or, BitVec.toNat_ofNat, BitVec.toNat_ofNat, BitVec.toNat_ofNat, Nat.mod_eq_of_lt ha, Nat.mod_eq_of_lt hb, Nat.mod_eq_of_lt (Nat.or_lt_two_pow ha hb)]
theorem wb_mask {n k : Nat} (hn : n < 2 ^ 64) (hk : k < 64) : lN n &&& lN (2 ^ k - 1) = lN (n % 2 ^ k) := by
  rw [wb_and hn (by have := wb_lt2 hk; omega), Nat.and_two_pow_sub_one_eq_mod]
theorem wb_a1 {n : Nat} (hn : n < 2 ^ 64) : lN n &&& 1 = lN (n % 2) := wb_mask (k := 1) hn (by decide)
theorem wb_bit {n k : Nat} (hn : n < 2 ^ 64) (hk : k < 64) : ((lN n).toUInt64 >>> ((nI k).toInt64.toUInt64 &&& Int64.toUInt64 63)).toInt64 &&& 1 = lN (n / 2 ^ k % 2) := by
  rw [wb_shr hn hk, wb_a1 (Nat.lt_of_le_of_lt (Nat.div_le_self _ _) hn)]
theorem wb_xor {q k : Nat} (hk : k < 63) (h : 2 ^ k ≤ q) (h2 : q < 2 ^ (k + 1)) : lN q ^^^ lN (2 ^ k) = lN (q - 2 ^ k) := by
  obtain ⟨r, rfl⟩ : ∃ r, q = 2 ^ k + r := ⟨q - 2 ^ k, by omega⟩
  have hr : r < 2 ^ k := by rw [Nat.pow_succ] at h2; omega
  have hx : (2 ^ k + r) ^^^ 2 ^ k = r := by
    apply Nat.eq_of_testBit_eq
    intro i
    rw [Nat.testBit_xor, Nat.testBit_two_pow]
    rcases Nat.lt_trichotomy i k with h | h | h
    · rw [Nat.testBit_two_pow_add_gt h]
      simp [show ¬ k = i by omega]
    · subst h
      rw [Nat.testBit_two_pow_add_eq]
      simp
    · have a1 : 2 ^ (k + 1) ≤ 2 ^ i := Nat.pow_le_pow_right (by decide) h
      rw [Nat.testBit_lt_two_pow (show 2 ^ k + r < 2 ^ i by omega), Nat.testBit_lt_two_pow (show r < 2 ^ i by omega)]
      simp [show ¬ k = i by omega]
  have b1 := wb_lt2 (show k + 1 < 64 by omega)
  have b2 := wb_lt2 (show k < 64 by omega)
  apply wb_inj
  rw [Int64.toBitVec_xor, wb_tb, wb_tb, wb_tb]
  apply BitVec.eq_of_toNat_eq
  rw [BitVec.toNat_xor, BitVec.toNat_ofNat, BitVec.toNat_ofNat, BitVec.toNat_ofNat, Nat.mod_eq_of_lt (by omega : 2 ^ k + r < 2 ^ 64), Nat.mod_eq_of_lt b2, hx, Nat.add_sub_cancel_left, Nat.mod_eq_of_lt (by omega)]
theorem u_tn {n : Nat} (h : n < 2 ^ 64) : (UInt64.ofNat n).toNat = n := Nat.mod_eq_of_lt h
def bt (z : Int64) (j : Nat) : Bool := z.toBitVec.getLsbD j
theorem bt_or (a b : Int64) (j : Nat) : bt (a ||| b) j = (bt a j || bt b j) := by simp [bt]
theorem bt_and (a b : Int64) (j : Nat) : bt (a &&& b) j = (bt a j && bt b j) := by simp [bt]
theorem bt_0 (j : Nat) : bt 0 j = false := by simp [bt]
theorem bt_not (a : Int64) {j : Nat} (hj : j < 64) : bt (a ^^^ (-1)) j = !(bt a j) := by
  have h : (-1 : Int64).toBitVec = BitVec.allOnes 64 := by decide
  simp [bt, h, hj]
theorem bt_ext {a b : Int64} (h : ∀ j, j < 64 → bt a j = bt b j) : a = b := by
  apply Int64.toBitVec_inj.mp
  apply BitVec.eq_of_getLsbD_eq
  intro i hi
  exact h i hi
theorem con_bt {zs : Int64} {j : Nat} (hj : j < 40) : f_x_contains zs (nI j) = bt zs j := by
  have h1 : f_x_isNumber (nI j) = true := by
    unfold f_x_isNumber
    rw [if_neg (nI_pos (by omega)), if_neg (show ¬ (40 : Int32) ≤ nI j from nI_ge (a := j) (b := 40) hj (by decide))]
  unfold f_x_contains
  rw [if_pos h1]
  have h2 := ts_bit (w := zs) (s := (nI j).toInt64.toUInt64 &&& Int64.toUInt64 63) (j := j) (by omega) (by rw [wb_cu j (by omega)]; exact u_tn (by omega))
  by_cases h3 : (zs.toUInt64 >>> ((nI j).toInt64.toUInt64 &&& Int64.toUInt64 63)).toInt64 &&& 1 = 0
  · rw [if_pos h3]
    exact (h2.mp h3).symm
  · rw [if_neg h3]
    have h4 : ¬ zs.toBitVec.getLsbD j = false := fun q => h3 (h2.mpr q)
    unfold bt
    cases h5 : zs.toBitVec.getLsbD j
    · exact absurd h5 h4
    · rfl
theorem con_out {zs : Int64} {x : Int32} (h : f_x_isNumber x ≠ true) : f_x_contains zs x = false := by
  unfold f_x_contains
  rw [if_neg h]
theorem only_bt {i : Nat} (hi : i < 40) (j : Nat) : bt (f_x_only (nI i)) j = decide (i = j) := by
  have h1 : f_x_isNumber (nI i) = true := by
    unfold f_x_isNumber
    rw [if_neg (nI_pos (by omega)), if_neg (show ¬ (40 : Int32) ≤ nI i from nI_ge (a := i) (b := 40) hi (by decide))]
  unfold f_x_only
  rw [if_pos h1]
  have h2 : (1 : Int64) <<< ((nI i).toInt64 &&& 63) = lN (2 ^ i) := by
    have := wb_shl 1 (k := i) (by omega)
    rw [Nat.one_mul] at this
    exact this
  rw [h2]
  unfold bt
  rw [wb_tb]
  have h3 : 2 ^ i < 2 ^ 64 := Nat.pow_lt_pow_right (by decide) (by omega)
  rw [BitVec.getLsbD_ofNat, Nat.testBit_two_pow]
  by_cases h4 : i = j
  · subst h4
    simp
    omega
  · simp [h4]
/-! how many bits are set: what Long.bitCount answers of a number below 2 ^ 40, byte by byte -/
theorem sp8 {b m0 x M : Nat} (hb : b < 256) (hm : m0 < 256) : (b + 256 * x) &&& (m0 + 256 * M) = (b &&& m0) + 256 * (x &&& M) := by
  apply Nat.eq_of_testBit_eq
  intro i
  have hb8 : b < 2 ^ 8 := hb
  have hm8 : m0 < 2 ^ 8 := hm
  have hbm : b &&& m0 < 2 ^ 8 := Nat.lt_of_le_of_lt Nat.and_le_left hb
  rw [show b + 256 * x = 2 ^ 8 * x + b by omega, show m0 + 256 * M = 2 ^ 8 * M + m0 by omega, show (b &&& m0) + 256 * (x &&& M) = 2 ^ 8 * (x &&& M) + (b &&& m0) by omega]
  rw [Nat.testBit_and, Nat.testBit_two_pow_mul_add _ hb8, Nat.testBit_two_pow_mul_add _ hm8, Nat.testBit_two_pow_mul_add _ hbm]
  by_cases h : i < 8
  · rw [if_pos h, if_pos h, if_pos h, Nat.testBit_and]
  · rw [if_neg h, if_neg h, if_neg h, Nat.testBit_and]
def bv (l : List Nat) : Nat := match l with
  | [] => 0
  | b :: l => b + 256 * bv l
def bm (m : Nat) : Nat → Nat
  | 0 => 0
  | k + 1 => m + 256 * bm m k
theorem b55 : ∀ b, b < 256 → ∀ c, c < 2 → (b / 2 + 128 * c) &&& 85 = (b / 2) &&& 85 := by decide +kernel
theorem b33 : ∀ b, b < 256 → ∀ c, c < 4 → (b / 4 + 64 * c) &&& 51 = (b / 4) &&& 51 := by decide +kernel
theorem bv_and (m : Nat) (hm : m < 256) : ∀ (k : Nat) (l : List Nat), (∀ b ∈ l, b < 256) → l.length ≤ k → bv l &&& bm m k = bv (l.map (fun b => b &&& m)) := by
  intro k
  induction k with
  | zero =>
    intro l _ h
    cases l with
    | nil => simp [bv]
    | cons b l => simp at h
  | succ k ih =>
    intro l hl h
    cases l with
    | nil => simp [bv]
    | cons b l =>
      have h1 := ih l (fun b hb => hl b (List.mem_cons_of_mem _ hb)) (by simpa using h)
      show (b + 256 * bv l) &&& (m + 256 * bm m k) = (b &&& m) + 256 * bv (l.map (fun b => b &&& m))
      rw [sp8 (hl b List.mem_cons_self) hm, h1]
theorem bv_sh1 : ∀ (k : Nat) (l : List Nat), (∀ b ∈ l, b < 256) → l.length ≤ k → (bv l / 2) &&& bm 85 k = bv (l.map (fun b => (b / 2) &&& 85)) := by
  intro k
  induction k with
  | zero =>
    intro l _ h
    cases l with
    | nil => simp [bv]
    | cons b l => simp at h
  | succ k ih =>
    intro l hl h
    cases l with
    | nil => simp [bv]
    | cons b l =>
      have h1 := ih l (fun b hb => hl b (List.mem_cons_of_mem _ hb)) (by simpa using h)
      have hb := hl b List.mem_cons_self
      show ((b + 256 * bv l) / 2) &&& (85 + 256 * bm 85 k) = ((b / 2) &&& 85) + 256 * bv (l.map (fun b => (b / 2) &&& 85))
      rw [show (b + 256 * bv l) / 2 = (b / 2 + 128 * (bv l % 2)) + 256 * (bv l / 2) by omega, sp8 (by omega) (by decide), h1, b55 b hb _ (by omega)]
theorem bv_sh2 : ∀ (k : Nat) (l : List Nat), (∀ b ∈ l, b < 256) → l.length ≤ k → (bv l / 4) &&& bm 51 k = bv (l.map (fun b => (b / 4) &&& 51)) := by
  intro k
  induction k with
  | zero =>
    intro l _ h
    cases l with
    | nil => simp [bv]
    | cons b l => simp at h
  | succ k ih =>
    intro l hl h
    cases l with
    | nil => simp [bv]
    | cons b l =>
      have h1 := ih l (fun b hb => hl b (List.mem_cons_of_mem _ hb)) (by simpa using h)
      have hb := hl b List.mem_cons_self
      show ((b + 256 * bv l) / 4) &&& (51 + 256 * bm 51 k) = ((b / 4) &&& 51) + 256 * bv (l.map (fun b => (b / 4) &&& 51))
      rw [show (b + 256 * bv l) / 4 = (b / 4 + 64 * (bv l % 4)) + 256 * (bv l / 4) by omega, sp8 (by omega) (by decide), h1, b33 b hb _ (by omega)]
theorem bv_sub (f : Nat → Nat) : ∀ (l : List Nat), (∀ b ∈ l, f b ≤ b) → bv (l.map f) ≤ bv l ∧ bv l - bv (l.map f) = bv (l.map (fun b => b - f b)) := by
  intro l
  induction l with
  | nil => intro _; exact ⟨Nat.le_refl _, rfl⟩
  | cons b l ih =>
    intro h
    obtain ⟨h1, h2⟩ := ih (fun b hb => h b (List.mem_cons_of_mem _ hb))
    have hb := h b List.mem_cons_self
    show f b + 256 * bv (l.map f) ≤ b + 256 * bv l ∧ b + 256 * bv l - (f b + 256 * bv (l.map f)) = (b - f b) + 256 * bv (l.map (fun b => b - f b))
    rw [← h2]
    omega
theorem bv_add (f g : Nat → Nat) : ∀ (l : List Nat), bv (l.map f) + bv (l.map g) = bv (l.map (fun b => f b + g b)) := by
  intro l
  induction l with
  | nil => rfl
  | cons b l ih =>
    show f b + 256 * bv (l.map f) + (g b + 256 * bv (l.map g)) = (f b + g b) + 256 * bv (l.map (fun b => f b + g b))
    rw [← ih]
    omega
def bq1 (b : Nat) : Nat := b - ((b / 2) &&& 85)
def bq2 (b : Nat) : Nat := (bq1 b &&& 51) + ((bq1 b / 4) &&& 51)
def bq3 (b : Nat) : Nat := (bq2 b + bq2 b / 16) % 16
theorem bq_ok : ∀ b, b < 256 → (b / 2) &&& 85 ≤ b ∧ bq1 b < 256 ∧ bq2 b ≤ 68 ∧ bq2 b % 16 ≤ 4 ∧ bq3 b ≤ 8 ∧ bq3 b = b % 2 + b / 2 % 2 + b / 4 % 2 + b / 8 % 2 + b / 16 % 2 + b / 32 % 2 + b / 64 % 2 + b / 128 % 2 := by decide +kernel
theorem b0f : ∀ y, y < 73 → ∀ c, c < 5 → (y + 16 * c) &&& 15 = y % 16 := by decide +kernel
theorem bv_16 : ∀ (l : List Nat), (∀ b ∈ l, b ≤ 68 ∧ b % 16 ≤ 4) → bv l % 16 ≤ 4 := by
  intro l h
  cases l with
  | nil => exact Nat.zero_le _
  | cons b l =>
    have hb := h b List.mem_cons_self
    show (b + 256 * bv l) % 16 ≤ 4
    omega
theorem bv_f : ∀ (k : Nat) (l : List Nat), (∀ b ∈ l, b ≤ 68 ∧ b % 16 ≤ 4) → l.length ≤ k → (bv l + bv l / 16) &&& bm 15 k = bv (l.map (fun b => (b + b / 16) % 16)) := by
  intro k
  induction k with
  | zero =>
    intro l _ h
    cases l with
    | nil => simp [bv]
    | cons b l => simp at h
  | succ k ih =>
    intro l hl h
    cases l with
    | nil => simp [bv]
    | cons b l =>
      have hl' := fun b hb => hl b (List.mem_cons_of_mem _ hb)
      have h1 := ih l hl' (by simpa using h)
      have hb := hl b List.mem_cons_self
      have h16 := bv_16 l hl'
      show (b + 256 * bv l + (b + 256 * bv l) / 16) &&& (15 + 256 * bm 15 k) = (b + b / 16) % 16 + 256 * bv (l.map (fun b => (b + b / 16) % 16))
      rw [show b + 256 * bv l + (b + 256 * bv l) / 16 = (b + b / 16 + 16 * (bv l % 16)) + 256 * (bv l + bv l / 16) by omega, sp8 (by omega) (by decide), h1, b0f (b + b / 16) (by omega) _ (by omega)]
