theorem law_lt {L k : Nat} (hL : L ≤ 3072) (hk : k ≤ 512) : Int32.ofNat L - 6 < nI (6 * k) ↔ L < 6 * k + 6 := by
  show (nI L - nI 6) < nI (6 * k) ↔ _
  rw [Int32.lt_iff_toInt_lt, pk_sub_toInt (by omega) (by decide), nI_toInt (by omega)]
  omega
theorem law_end {p : Program} {l : Launch} {e : Env} {s : State} {m : MethodId} {below : List Frame} {meth : Method} {c : Code} {b L ax k : Nat} {xs : Nat → Int32} {D : va_G} {cA : Nat → ClassId} {qz : Nat → Nat} {H : Heap} {locs : List Loc} {ls : Array Slot} (C : LC p s m meth c #[Value.ref b] b L xs D cA qz) (h1 : L < 6 * k + 6) (h2 : k ≤ 512) (hl : lv_has ls 4 (lz b ax (qz 0) k)) (hS : va_S (fun q => s.heap.size ≤ q) s.heap H locs) : W p l e room_1 s m #[Value.ref b] below meth c H locs (20 + 2 * k) (2216 + 51 * k) (lw_Z below #[Value.ref b] s) (F0 m 18 ls []) := by
  obtain ⟨F, hK, hX, hbl, hL, hM1, hM2⟩ := C
  have hbA : ¬ s.heap.size ≤ b := fun q => Nat.lt_irrefl _ (Nat.lt_of_lt_of_le hbl q)
  refine lv_iload_n F.1 F.2.1 d_law_18 rfl (lv_at hl 0 rfl) ?_
  refine lv_aload_n F.1 F.2.1 d_law_19 rfl (lv_at hl 3 rfl) ?_
  refine va_slen F.1 F.2.1 hX hbl hbA hS d_law_20 ?_
  refine lv_bipush (v := 6) F.1 F.2.1 d_law_21 (by decide) ?_
  refine lv_isub F.1 F.2.1 d_law_23 ?_
  refine lv_icmp_gt (tgt := 619) F.1 F.2.1 d_law_24 (by decide) (fun _ => ?_) (fun h => absurd ((law_lt hL h2).mpr h1) h)
  refine lv_iconst (v := 1) F.1 F.2.1 d_law_619 (by decide) ?_
  refine va_forget hS.2.2 ?_
  refine W.widen (k := 600000) (n := 7302250) (by omega) (by omega) ?_
  exact lw_ret F.1 F.2.1 F.2.2.2.2.2.1 F.2.2.2.2.2.2 d_law_620
theorem law_head {p : Program} {l : Launch} {e : Env} {s : State} {m : MethodId} {below : List Frame} {meth : Method} {c : Code} {b L ax k : Nat} {xs : Nat → Int32} {D : va_G} {cA : Nat → ClassId} {qz : Nat → Nat} {H : Heap} {locs : List Loc} {ls : Array Slot} {cells slots : Nat} {Q : State → Prop} (C : LC p s m meth c #[Value.ref b] b L xs D cA qz) (hk : 6 * k + 6 ≤ L) (h2 : k ≤ 512) (hl : lv_has ls 4 (lz b ax (qz 0) k)) (hS : va_S (fun q => s.heap.size ≤ q) s.heap H locs) (kk : ∀ j, j < 16 → W p l e room_1 s m #[Value.ref b] below meth c H locs cells slots Q (F0 m 33 ls [.int (nI j)])) : W p l e room_1 s m #[Value.ref b] below meth c H locs cells slots Q (F0 m 18 ls []) := by
  obtain ⟨F, hK, hX, hbl, hL, hM1, hM2⟩ := C
  have hbA : ¬ s.heap.size ≤ b := fun q => Nat.lt_irrefl _ (Nat.lt_of_lt_of_le hbl q)
  refine lv_iload_n F.1 F.2.1 d_law_18 rfl (lv_at hl 0 rfl) ?_
  refine lv_aload_n F.1 F.2.1 d_law_19 rfl (lv_at hl 3 rfl) ?_
  refine va_slen F.1 F.2.1 hX hbl hbA hS d_law_20 ?_
  refine lv_bipush (v := 6) F.1 F.2.1 d_law_21 (by decide) ?_
  refine lv_isub F.1 F.2.1 d_law_23 ?_
  refine lv_icmp_gt (tgt := 619) F.1 F.2.1 d_law_24 (by decide) (fun h => absurd ((law_lt hL h2).mp h) (by omega)) (fun _ => ?_)
  refine lv_aload_n F.1 F.2.1 d_law_27 rfl (lv_at hl 3 rfl) ?_
  refine lv_iload_n F.1 F.2.1 d_law_28 rfl (lv_at hl 0 rfl) ?_
  refine va_sld F.1 F.2.1 hX hbl hbA hS (vin rfl (by omega) (by omega)) d_law_29 ?_
  refine lv_bipush (v := 15) F.1 F.2.1 d_law_30 (by decide) ?_
  refine lv_iand F.1 F.2.1 d_law_32 ?_
  obtain ⟨j, hj, ej⟩ := pk_andE (xs (nI (6 * k)).toNatClampNeg) (m := 15) 4 (by decide)
  rw [ej]
  exact kk j hj
set_option maxHeartbeats 4000000 in
set_option maxRecDepth 100000 in
theorem law_loop {p : Program} {l : Launch} {e : Env} {s : State} {m : MethodId} {below : List Frame} {meth : Method} {c : Code} {b L ax : Nat} {xs : Nat → Int32} {D : va_G} {cA : Nat → ClassId} {qz : Nat → Nat} (C : LC p s m meth c #[Value.ref b] b L xs D cA qz) :
    ∀ (n k : Nat) (H : Heap) (locs : List Loc) (ls : Array Slot), L < 6 * (k + n) → k ≤ 512 → lv_has ls 4 (lz b ax (qz 0) k) → va_S (fun q => s.heap.size ≤ q) s.heap H locs → LW D cA s.heap.size ax qz H → W p l e room_1 s m #[Value.ref b] below meth c H locs (20 + 2 * k) (2216 + 51 * k) (lw_Z below #[Value.ref b] s) (F0 m 18 ls []) := by
  intro n
  induction n with
  | zero =>
    intro k H locs ls h1 h2 hl hS hW
    exact law_end C (by omega) h2 hl hS
  | succ n ih =>
    intro k H locs ls h1 h2 hl hS hW
    by_cases hk : 6 * k + 6 ≤ L
    · obtain ⟨F, hK, hX, hbl, hL, hM1, hM2⟩ := id C
      have hc : 20 + 2 * k ≤ 599000 ∧ 2216 + 51 * k ≤ 7300000 := by omega
      refine law_head C hk h2 hl hS (fun j hj => ?_)
      have kk : ∀ (H1 : Heap) (locs1 : List Loc), LW D cA s.heap.size ax qz H1 → va_S (fun q => s.heap.size ≤ q) s.heap H1 locs1 → W p l e room_1 s m #[Value.ref b] below meth c H1 locs1 (20 + 2 * k + 2) (2216 + 51 * k + 51) (lw_Z below #[Value.ref b] s) (F0 m 613 ls []) := by
        intro H1 locs1 hW1 hS1
        refine lv_iinc (v := nI (6 * (k + 1))) (lv' := lz b ax (qz 0) (k + 1)) F.1 F.2.1 d_law_613 hl (k := 0) rfl ?_ (by decide) rfl (fun ls hl => ?_)
        · show nI (6 * k) + nI 6 = _
          rw [nI_add]; rfl
        refine lv_goto (tgt := 18) F.1 F.2.1 d_law_616 (by decide) ?_
        exact ih (k + 1) H1 locs1 ls (by omega) (by omega) hl hS1 hW1
      rcases (show j = 0 ∨ j = 1 ∨ j = 2 ∨ j = 3 ∨ j = 4 ∨ j = 5 ∨ j = 6 ∨ j = 7 ∨ j = 8 ∨ j = 9 ∨ j = 10 ∨ j = 11 ∨ j = 12 ∨ j = 13 ∨ j = 14 ∨ j = 15 by omega) with rfl | rfl | rfl | rfl | rfl | rfl | rfl | rfl | rfl | rfl | rfl | rfl | rfl | rfl | rfl | rfl
      · exact lv_tableIn (off := 79) (tgt := 112) F.1 F.2.1 d_law_33 (by decide) (by decide) rfl (by decide) (law_change C hk hl hS hc hW kk)
      · exact lv_tableIn (off := 122) (tgt := 155) F.1 F.2.1 d_law_33 (by decide) (by decide) rfl (by decide) (law_has C hk hl hS hc hW kk)
      · exact lv_tableIn (off := 155) (tgt := 188) F.1 F.2.1 d_law_33 (by decide) (by decide) rfl (by decide) (law_target C hk hl hS hc hW kk)
      · exact lv_tableIn (off := 168) (tgt := 201) F.1 F.2.1 d_law_33 (by decide) (by decide) rfl (by decide) (law_good C hk hl hS hc hW kk)
      · exact lv_tableIn (off := 201) (tgt := 234) F.1 F.2.1 d_law_33 (by decide) (by decide) rfl (by decide) (law_begin C hk hl hS hc hW kk)
      · exact lv_tableIn (off := 264) (tgt := 297) F.1 F.2.1 d_law_33 (by decide) (by decide) rfl (by decide) (law_stop C hk hl hS hc hW kk)
      · exact lv_tableIn (off := 287) (tgt := 320) F.1 F.2.1 d_law_33 (by decide) (by decide) rfl (by decide) (law_state C hk hl hS hc hW kk)
      · exact lv_tableIn (off := 310) (tgt := 343) F.1 F.2.1 d_law_33 (by decide) (by decide) rfl (by decide) (law_next C hk hl hS hc hW kk)
      · exact lv_tableIn (off := 333) (tgt := 366) F.1 F.2.1 d_law_33 (by decide) (by decide) rfl (by decide) (law_answer C hk hl hS hc hW kk)
      · exact lv_tableIn (off := 366) (tgt := 399) F.1 F.2.1 d_law_33 (by decide) (by decide) rfl (by decide) (law_weight C hk hl hS hc hW kk)
      · exact lv_tableIn (off := 400) (tgt := 433) F.1 F.2.1 d_law_33 (by decide) (by decide) rfl (by decide) (law_part C hk hl hS hc hW kk)
      · exact lv_tableIn (off := 434) (tgt := 467) F.1 F.2.1 d_law_33 (by decide) (by decide) rfl (by decide) (law_total C hk hl hS hc hW kk)
      · exact lv_tableIn (off := 458) (tgt := 491) F.1 F.2.1 d_law_33 (by decide) (by decide) rfl (by decide) (law_found C hk hl hS hc hW kk)
      · exact lv_tableIn (off := 481) (tgt := 514) F.1 F.2.1 d_law_33 (by decide) (by decide) rfl (by decide) (law_told C hk hl hS hc hW kk)
      · exact lv_tableIn (off := 514) (tgt := 547) F.1 F.2.1 d_law_33 (by decide) (by decide) rfl (by decide) (law_way C hk hl hS hc hW kk)
      · exact lv_tableIn (off := 547) (tgt := 580) F.1 F.2.1 d_law_33 (by decide) (by decide) rfl (by decide) (law_counted C hk hl hS hc hW kk)
    · exact law_end C (by omega) h2 hl hS
