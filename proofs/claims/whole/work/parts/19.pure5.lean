/-! how many bits of a number below 2 ^ 40 are set, by Long.bitCount -/
theorem bv_lt : ∀ (l : List Nat), (∀ b ∈ l, b < 256) → bv l < 256 ^ l.length := by
  intro l
  induction l with
  | nil => intro _; exact Nat.one_pos
  | cons b l ih =>
    intro h
    have h1 := ih (fun b hb => h b (List.mem_cons_of_mem _ hb))
    have h2 := h b List.mem_cons_self
    show b + 256 * bv l < 256 ^ (l.length + 1)
    rw [Nat.pow_succ]
    omega
theorem sh_lN {n : Nat} (k : Nat) (hn : n < 2 ^ 64) (hk : k < 64) : ((lN n).toUInt64 >>> ((nI k).toInt64.toUInt64 &&& Int64.toUInt64 63)).toInt64 = lN (n / 2 ^ k) := wb_shr hn hk
theorem bc_low {n : Nat} : nI n &&& 127 = nI (n % 128) := by
  rw [pk_and (nI n) 7 (by decide)]
  congr 1
  show (BitVec.ofNat 32 n).toNat % 2 ^ 7 = n % 128
  rw [BitVec.toNat_ofNat]
  omega
def byts (n : Nat) : List Nat := [n % 256, n / 256 % 256, n / 65536 % 256, n / 16777216 % 256, n / 4294967296 % 256]
theorem bitc {n : Nat} (hn : n < 2 ^ 40) : f_lo_bitCount (lN n) = nI (bq3 (n % 256) + bq3 (n / 256 % 256) + bq3 (n / 65536 % 256) + bq3 (n / 16777216 % 256) + bq3 (n / 4294967296 % 256)) := by
  have hl : ∀ b ∈ byts n, b < 256 := by
    intro b hb
    simp only [byts, List.mem_cons, List.not_mem_nil, or_false] at hb
    omega
  have hb : bv (byts n) = n := by
    simp only [byts, bv]
    omega
  have h1 : ∀ b ∈ (byts n).map bq1, b < 256 := by
    intro b hb
    obtain ⟨c, hc, rfl⟩ := List.mem_map.mp hb
    exact (bq_ok c (hl c hc)).2.1
  have h2 : ∀ b ∈ (byts n).map bq2, b ≤ 68 ∧ b % 16 ≤ 4 := by
    intro b hb
    obtain ⟨c, hc, rfl⟩ := List.mem_map.mp hb
    exact ⟨(bq_ok c (hl c hc)).2.2.1, (bq_ok c (hl c hc)).2.2.2.1⟩
  have l1 : bv ((byts n).map bq1) < 2 ^ 40 := by
    have q := bv_lt _ h1
    rw [List.length_map, show (byts n).length = 5 from rfl] at q
    exact Nat.lt_of_lt_of_le q (by decide)
  have l2 : bv ((byts n).map bq2) < 2 ^ 40 := by
    have q := bv_lt ((byts n).map bq2) (fun b hb => by have := (h2 b hb).1; omega)
    rw [List.length_map, show (byts n).length = 5 from rfl] at q
    exact Nat.lt_of_lt_of_le q (by decide)
  have e1 : lN n - (((lN n).toUInt64 >>> ((1 : Int32).toInt64.toUInt64 &&& Int64.toUInt64 63)).toInt64 &&& 6148914691236517205) = lN (bv ((byts n).map bq1)) := by
    have a1 := bv_sh1 8 (byts n) hl (Nat.le_of_ble_eq_true rfl)
    have a2 := bv_sub (fun b => (b / 2) &&& 85) (byts n) (fun b hb => (bq_ok b (hl b hb)).1)
    rw [hb] at a1 a2
    rw [show (1 : Int32) = nI 1 from rfl, sh_lN 1 (by omega) (by decide), show (6148914691236517205 : Int64) = lN (bm 85 8) from by decide, wb_and (by omega) (by decide), show n / 2 ^ 1 = n / 2 from rfl, a1, lN_sub a2.1, a2.2]
    rfl
  have e2 : (lN (bv ((byts n).map bq1)) &&& 3689348814741910323) + (((lN (bv ((byts n).map bq1))).toUInt64 >>> ((2 : Int32).toInt64.toUInt64 &&& Int64.toUInt64 63)).toInt64 &&& 3689348814741910323) = lN (bv ((byts n).map bq2)) := by
    rw [show (2 : Int32) = nI 2 from rfl, sh_lN 2 (by omega) (by decide), show (3689348814741910323 : Int64) = lN (bm 51 8) from by decide, wb_and (by omega) (by decide), wb_and (by omega) (by decide), show bv ((byts n).map bq1) / 2 ^ 2 = bv ((byts n).map bq1) / 4 from rfl, bv_and 51 (by decide) 8 _ h1 (Nat.le_of_ble_eq_true rfl), bv_sh2 8 _ h1 (Nat.le_of_ble_eq_true rfl), lN_add, bv_add, List.map_map]
    rfl
  have e3 : (lN (bv ((byts n).map bq2)) + ((lN (bv ((byts n).map bq2))).toUInt64 >>> ((4 : Int32).toInt64.toUInt64 &&& Int64.toUInt64 63)).toInt64) &&& 1085102592571150095 = lN (bv ((byts n).map bq3)) := by
    rw [show (4 : Int32) = nI 4 from rfl, sh_lN 4 (by omega) (by decide), show (1085102592571150095 : Int64) = lN (bm 15 8) from by decide, lN_add, wb_and (by omega) (by decide), show bv ((byts n).map bq2) / 2 ^ 4 = bv ((byts n).map bq2) / 16 from rfl, bv_f 8 _ h2 (Nat.le_of_ble_eq_true rfl), List.map_map]
    rfl
  unfold f_lo_bitCount
  rw [e1, e2, e3]
  have p0 := (bq_ok (n % 256) (by omega)).2.2.2.2.1
  have p1 := (bq_ok (n / 256 % 256) (by omega)).2.2.2.2.1
  have p2 := (bq_ok (n / 65536 % 256) (by omega)).2.2.2.2.1
  have p3 := (bq_ok (n / 16777216 % 256) (by omega)).2.2.2.2.1
  have p4 := (bq_ok (n / 4294967296 % 256) (by omega)).2.2.2.2.1
  have hv : bv ((byts n).map bq3) = bq3 (n % 256) + 256 * (bq3 (n / 256 % 256) + 256 * (bq3 (n / 65536 % 256) + 256 * (bq3 (n / 16777216 % 256) + 256 * (bq3 (n / 4294967296 % 256) + 256 * 0)))) := rfl
  rw [hv]
  generalize bq3 (n % 256) = q0 at p0 ⊢
  generalize bq3 (n / 256 % 256) = q1 at p1 ⊢
  generalize bq3 (n / 65536 % 256) = q2 at p2 ⊢
  generalize bq3 (n / 16777216 % 256) = q3 at p3 ⊢
  generalize bq3 (n / 4294967296 % 256) = q4 at p4 ⊢
  generalize hN : q0 + 256 * (q1 + 256 * (q2 + 256 * (q3 + 256 * (q4 + 256 * 0)))) = N
  have g1 : lN N + ((lN N).toUInt64 >>> ((8 : Int32).toInt64.toUInt64 &&& Int64.toUInt64 63)).toInt64 = lN (N + N / 256) := by
    rw [show (8 : Int32) = nI 8 from rfl, sh_lN 8 (by omega) (by decide), lN_add]
  rw [g1]
  generalize hM : N + N / 256 = M1
  have g2 : lN M1 + ((lN M1).toUInt64 >>> ((16 : Int32).toInt64.toUInt64 &&& Int64.toUInt64 63)).toInt64 = lN (M1 + M1 / 65536) := by
    rw [show (16 : Int32) = nI 16 from rfl, sh_lN 16 (by omega) (by decide), lN_add]
  rw [g2]
  generalize hM2 : M1 + M1 / 65536 = M2
  have g3 : lN M2 + ((lN M2).toUInt64 >>> ((32 : Int32).toInt64.toUInt64 &&& Int64.toUInt64 63)).toInt64 = lN (M2 + M2 / 4294967296) := by
    rw [show (32 : Int32) = nI 32 from rfl, sh_lN 32 (by omega) (by decide), lN_add]
  rw [g3, lN_i, bc_low]
  congr 1
  have d1 : N / 256 = q1 + 256 * q2 + 65536 * q3 + 16777216 * q4 := by omega
  have d2 : M1 / 65536 = (q2 + q3) + 256 * (q3 + q4) + 65536 * q4 := by omega
  have d3 : M2 / 4294967296 = q4 := by omega
  have d4 : M2 + M2 / 4294967296 = (q0 + q1 + q2 + q3 + q4) + 128 * (2 * (q1 + q2 + q3 + q4) + 512 * (q2 + q3 + q4) + 131072 * (q3 + q4) + 33554432 * q4) := by omega
  rw [d4, Nat.add_mul_mod_self_left]
  exact Nat.mod_eq_of_lt (by omega)
theorem bt_lN {n j : Nat} (hj : j < 64) : bt (lN n) j = decide (n / 2 ^ j % 2 = 1) := by
  unfold bt
  rw [wb_tb, BitVec.getLsbD_ofNat, Nat.testBit_eq_decide_div_mod_eq]
  simp [hj]
theorem cnt8 {P : Nat → Bool} {k b : Nat} (hb : b < 256) (h0 : P k = decide (b % 2 = 1)) (h1 : P (k + 1) = decide (b / 2 % 2 = 1)) (h2 : P (k + 2) = decide (b / 4 % 2 = 1)) (h3 : P (k + 3) = decide (b / 8 % 2 = 1)) (h4 : P (k + 4) = decide (b / 16 % 2 = 1)) (h5 : P (k + 5) = decide (b / 32 % 2 = 1)) (h6 : P (k + 6) = decide (b / 64 % 2 = 1)) (h7 : P (k + 7) = decide (b / 128 % 2 = 1)) : cnt P (k + 8) = cnt P k + bq3 b := by
  have s : ∀ (j x : Nat), P j = decide (x % 2 = 1) → cnt P (j + 1) = cnt P j + x % 2 := by
    intro j x hx
    by_cases q : x % 2 = 1
    · rw [cnt_s1 (by rw [hx]; simp [q]), q]
    · rw [cnt_s0 (by rw [hx]; simp [q]), show x % 2 = 0 by omega, Nat.add_zero]
  rw [(bq_ok b hb).2.2.2.2.2, s (k + 7) _ h7, s (k + 6) _ h6, s (k + 5) _ h5, s (k + 4) _ h4, s (k + 3) _ h3, s (k + 2) _ h2, s (k + 1) _ h1, s k _ h0]
  omega
theorem bits_cnt {n : Nat} (hn : n < 2 ^ 40) : cnt (bt (lN n)) 40 = bq3 (n % 256) + bq3 (n / 256 % 256) + bq3 (n / 65536 % 256) + bq3 (n / 16777216 % 256) + bq3 (n / 4294967296 % 256) := by
  have f : ∀ (j b r : Nat), j < 64 → (n / 2 ^ j % 2 = b / r % 2) → bt (lN n) j = decide (b / r % 2 = 1) := fun j b r hj e => by rw [bt_lN hj, e]
  have f0 : ∀ (j b : Nat), j < 64 → (n / 2 ^ j % 2 = b % 2) → bt (lN n) j = decide (b % 2 = 1) := fun j b hj e => by rw [bt_lN hj, e]
  have c0 : cnt (bt (lN n)) (0 + 8) = cnt (bt (lN n)) 0 + bq3 (n % 256) := cnt8 (by omega) (f0 _ _ (by omega) (by omega)) (f _ _ _ (by omega) (by omega)) (f _ _ _ (by omega) (by omega)) (f _ _ _ (by omega) (by omega)) (f _ _ _ (by omega) (by omega)) (f _ _ _ (by omega) (by omega)) (f _ _ _ (by omega) (by omega)) (f _ _ _ (by omega) (by omega))
  have c1 : cnt (bt (lN n)) (8 + 8) = cnt (bt (lN n)) 8 + bq3 (n / 256 % 256) := cnt8 (by omega) (f0 _ _ (by omega) (by omega)) (f _ _ _ (by omega) (by omega)) (f _ _ _ (by omega) (by omega)) (f _ _ _ (by omega) (by omega)) (f _ _ _ (by omega) (by omega)) (f _ _ _ (by omega) (by omega)) (f _ _ _ (by omega) (by omega)) (f _ _ _ (by omega) (by omega))
  have c2 : cnt (bt (lN n)) (16 + 8) = cnt (bt (lN n)) 16 + bq3 (n / 65536 % 256) := cnt8 (by omega) (f0 _ _ (by omega) (by omega)) (f _ _ _ (by omega) (by omega)) (f _ _ _ (by omega) (by omega)) (f _ _ _ (by omega) (by omega)) (f _ _ _ (by omega) (by omega)) (f _ _ _ (by omega) (by omega)) (f _ _ _ (by omega) (by omega)) (f _ _ _ (by omega) (by omega))
  have c3 : cnt (bt (lN n)) (24 + 8) = cnt (bt (lN n)) 24 + bq3 (n / 16777216 % 256) := cnt8 (by omega) (f0 _ _ (by omega) (by omega)) (f _ _ _ (by omega) (by omega)) (f _ _ _ (by omega) (by omega)) (f _ _ _ (by omega) (by omega)) (f _ _ _ (by omega) (by omega)) (f _ _ _ (by omega) (by omega)) (f _ _ _ (by omega) (by omega)) (f _ _ _ (by omega) (by omega))
  have c4 : cnt (bt (lN n)) (32 + 8) = cnt (bt (lN n)) 32 + bq3 (n / 4294967296 % 256) := cnt8 (by omega) (f0 _ _ (by omega) (by omega)) (f _ _ _ (by omega) (by omega)) (f _ _ _ (by omega) (by omega)) (f _ _ _ (by omega) (by omega)) (f _ _ _ (by omega) (by omega)) (f _ _ _ (by omega) (by omega)) (f _ _ _ (by omega) (by omega)) (f _ _ _ (by omega) (by omega))
  have c5 : cnt (bt (lN n)) 0 = 0 := rfl
  have e0 : cnt (bt (lN n)) (0 + 8) = cnt (bt (lN n)) 8 := rfl
  have e1 : cnt (bt (lN n)) (8 + 8) = cnt (bt (lN n)) 16 := rfl
  have e2 : cnt (bt (lN n)) (16 + 8) = cnt (bt (lN n)) 24 := rfl
  have e3 : cnt (bt (lN n)) (24 + 8) = cnt (bt (lN n)) 32 := rfl
  have e4 : cnt (bt (lN n)) (32 + 8) = cnt (bt (lN n)) 40 := rfl
  omega
/-- a set of changes: no bit from 40 on -/
def small (z : Int64) : Prop := ∀ j, 40 ≤ j → bt z j = false
theorem small_lN {z : Int64} (h : small z) : ∃ n, n < 2 ^ 40 ∧ z = lN n := by
  obtain ⟨n, hn, rfl⟩ := wb_of z
  refine ⟨n, ?_, rfl⟩
  apply Nat.lt_of_not_le
  intro q
  obtain ⟨i, h1, h2⟩ := Nat.exists_ge_and_testBit_of_ge_two_pow q
  have h3 := h i h1
  unfold bt at h3
  rw [wb_tb, BitVec.getLsbD_ofNat, h2] at h3
  have h4 : ¬ i < 64 := by simpa using h3
  have h5 : n < 2 ^ i := Nat.lt_of_lt_of_le hn (Nat.pow_le_pow_right (by decide) (by omega))
  rw [Nat.testBit_lt_two_pow h5] at h2
  cases h2
theorem bitc_cnt {z : Int64} (h : small z) : f_lo_bitCount z = nI (cnt (bt z) 40) := by
  obtain ⟨n, hn, rfl⟩ := small_lN h
  rw [bitc hn, bits_cnt hn]
