set_option maxHeartbeats 4000000 in
set_option maxRecDepth 100000 in
theorem law_answer {p : Program} {l : Launch} {e : Env} {s : State} {m : MethodId} {args : Array Value} {below : List Frame} {meth : Method} {c : Code} {H : Heap} {locs : List Loc} {cells slots : Nat} {Q : State → Prop} {ls : Array Slot} {b L k ax : Nat} {xs : Nat → Int32} {D : va_G} {cA : Nat → ClassId} {qz : Nat → Nat} (C : LC p s m meth c args b L xs D cA qz) (hk : 6 * k + 6 ≤ L) (hl : lv_has ls 4 (lz b ax (qz 0) k)) (hS : va_S (fun q => s.heap.size ≤ q) s.heap H locs) (hc : cells ≤ 599000 ∧ slots ≤ 7300000) (hW : LW D cA s.heap.size ax qz H)
    (kk : ∀ (H1 : Heap) (locs1 : List Loc), LW D cA s.heap.size ax qz H1 → va_S (fun q => s.heap.size ≤ q) s.heap H1 locs1 → W p l e room_1 s m args below meth c H1 locs1 (cells + 2) (slots + 51) Q (F0 m 613 ls [])) : W p l e room_1 s m args below meth c H locs cells slots Q (F0 m 366 ls []) := by
  obtain ⟨F, hK, hX, hbl, hL, hM1, hM2⟩ := C
  obtain ⟨cn, nt, ad, G, TT, vp, vh, vk, vb, vg, vo, vf, vd, vu, vw, vs, vx, va, vq, rfl, hx5, hPm, hinj, hz, hdj, hI⟩ := id hW
  have hcr : cells ≤ room_1.cells ∧ slots ≤ room_1.slots := ⟨Nat.le_trans hc.1 (Nat.le_of_ble_eq_true rfl), Nat.le_trans hc.2 (Nat.le_of_ble_eq_true rfl)⟩
  have hMz : ∀ q, oM qz q → s.heap.size ≤ q := fun q h => by obtain ⟨i, hi, rfl⟩ := h; exact hM2 i hi
  refine lv_aload_n F.1 F.2.1 d_law_366 rfl (lv_at hl 2 rfl) ?_
  refine law_ld F hX hbl hS hl hk hL 1 (by decide) rfl dl_law_367 ?_
  refine law_ld F hX hbl hS hl hk hL 2 (by decide) rfl dl_law_372 ?_
  refine mu_G (As := [.int (xs (6 * k + 1)), .int (xs (6 * k + 2))]) (rest := []) (q0 := 0) F hK (c_x_answer l D cA ad nt G TT (xs (6 * k + 1)) (xs (6 * k + 2)) hI.1 cn hI.2.1.1 hI.2.1.2.1 hinj) hx5 hx5.1 rfl rfl rfl kc_x_answer km_w_52 ki_x ks_x_answer ke_x_answer rfl ok_x_answer ⟨Nat.le_of_ble_eq_true rfl, Nat.le_of_ble_eq_true rfl⟩ hcr hl.1 rfl (Nat.le_of_ble_eq_true rfl) d_law_377 hS hz (fun v1 H1 locs1 hv1 hs1 hk1 hS => ?_)
  obtain ⟨rfl, hx5⟩ := hv1
  have hPm := cz_keep hPm (fun q h1 h2 => hdj q h2 h1) hk1
  refine W.eq (g2 := F0 m 380 ls [.int ((f_x_answer nt G TT (xs (6 * k + 1)) (xs (6 * k + 2))).1)]) rfl ?_
  refine lv_aload_n F.1 F.2.1 d_law_380 rfl (lv_at hl 1 rfl) ?_
  refine law_ld F hX hbl hS hl hk hL 1 (by decide) rfl dl_law_381 ?_
  refine law_ld F hX hbl hS hl hk hL 2 (by decide) rfl dl_law_386 ?_
  refine mu_G (As := [.int (xs (6 * k + 1)), .int (xs (6 * k + 2))]) (rest := [.int ((f_x_answer nt G TT (xs (6 * k + 1)) (xs (6 * k + 2))).1)]) (q0 := 0) F hK (c_m_answer l D cA (qz 0) (qz 1) (qz 2) (qz 3) (qz 4) (qz 5) (qz 6) (qz 7) (qz 8) (qz 9) (qz 10) (qz 11) (qz 12) (qz 13) (qz 14) (nI cn) vp vh vk vb (nI nt) vg vo vd vu vw vs vx va vq vf (xs (6 * k + 1)) (xs (6 * k + 2)) cn hI.2.1.1 rfl nt hI.1 rfl (hva_of hI)) ⟨hPm, cz_d hM1⟩ hPm rfl rfl rfl kc_m_answer km_w_55 ki_m ks_m_answer ke_m_answer rfl ok_m_answer ⟨Nat.le_of_ble_eq_true rfl, Nat.le_of_ble_eq_true rfl⟩ hcr hl.1 rfl (Nat.le_of_ble_eq_true rfl) d_law_391 hS (fun q h => hMz q (cz_o h)) (fun v2 H2 locs2 hv2 hs2 hk2 hS => ?_)
  obtain ⟨rfl, hPm, -⟩ := hv2
  have hPm : va_P D classes (cM cA qz (nI cn) vp vh ((f_m_answer (nI cn) vh vk vb (nI nt) vg vo vd vu vw vs vx va vq vf (xs (6 * k + 1)) (xs (6 * k + 2))).2.1) ((f_m_answer (nI cn) vh vk vb (nI nt) vg vo vd vu vw vs vx va vq vf (xs (6 * k + 1)) (xs (6 * k + 2))).2.2.1) (nI nt) vg vo vd vu vw vs ((f_m_answer (nI cn) vh vk vb (nI nt) vg vo vd vu vw vs vx va vq vf (xs (6 * k + 1)) (xs (6 * k + 2))).2.2.2.1) ((f_m_answer (nI cn) vh vk vb (nI nt) vg vo vd vu vw vs vx va vq vf (xs (6 * k + 1)) (xs (6 * k + 2))).2.2.2.2.1) ((f_m_answer (nI cn) vh vk vb (nI nt) vg vo vd vu vw vs vx va vq vf (xs (6 * k + 1)) (xs (6 * k + 2))).2.2.2.2.2.1) ((f_m_answer (nI cn) vh vk vb (nI nt) vg vo vd vu vw vs vx va vq vf (xs (6 * k + 1)) (xs (6 * k + 2))).2.2.2.2.2.2)) H2 := hPm
  have hx5 := wx_keep2 hx5 (fun q hq h => hdj q hq (cz_o h)) hk2
  refine W.eq (g2 := F0 m 394 ls [.int ((f_m_answer (nI cn) vh vk vb (nI nt) vg vo vd vu vw vs vx va vq vf (xs (6 * k + 1)) (xs (6 * k + 2))).1), .int ((f_x_answer nt G TT (xs (6 * k + 1)) (xs (6 * k + 2))).1)]) rfl ?_
  obtain ⟨e1, e3⟩ := e_answer hI (xs (6 * k + 1)) (xs (6 * k + 2))
  refine lv_icmp_eq (tgt := 613) F.1 F.2.1 d_law_394 (by decide) (fun _ => ?_) (fun h => absurd e1 h)
  exact W.widen (k := cells + 2) (n := slots + 51) (Nat.le_add_right _ _) (Nat.le_add_right _ _) (kk H2 locs2 ⟨cn, nt, ad, _, _, vp, vh, (f_m_answer (nI cn) vh vk vb (nI nt) vg vo vd vu vw vs vx va vq vf (xs (6 * k + 1)) (xs (6 * k + 2))).2.1, (f_m_answer (nI cn) vh vk vb (nI nt) vg vo vd vu vw vs vx va vq vf (xs (6 * k + 1)) (xs (6 * k + 2))).2.2.1, vg, vo, (f_m_answer (nI cn) vh vk vb (nI nt) vg vo vd vu vw vs vx va vq vf (xs (6 * k + 1)) (xs (6 * k + 2))).2.2.2.2.2.2, vd, vu, vw, vs, (f_m_answer (nI cn) vh vk vb (nI nt) vg vo vd vu vw vs vx va vq vf (xs (6 * k + 1)) (xs (6 * k + 2))).2.2.2.1, (f_m_answer (nI cn) vh vk vb (nI nt) vg vo vd vu vw vs vx va vq vf (xs (6 * k + 1)) (xs (6 * k + 2))).2.2.2.2.1, (f_m_answer (nI cn) vh vk vb (nI nt) vg vo vd vu vw vs vx va vq vf (xs (6 * k + 1)) (xs (6 * k + 2))).2.2.2.2.2.1, rfl, hx5, hPm, hinj, hz, hdj, e3⟩ hS)
set_option maxHeartbeats 4000000 in
set_option maxRecDepth 100000 in
theorem law_weight {p : Program} {l : Launch} {e : Env} {s : State} {m : MethodId} {args : Array Value} {below : List Frame} {meth : Method} {c : Code} {H : Heap} {locs : List Loc} {cells slots : Nat} {Q : State → Prop} {ls : Array Slot} {b L k ax : Nat} {xs : Nat → Int32} {D : va_G} {cA : Nat → ClassId} {qz : Nat → Nat} (C : LC p s m meth c args b L xs D cA qz) (hk : 6 * k + 6 ≤ L) (hl : lv_has ls 4 (lz b ax (qz 0) k)) (hS : va_S (fun q => s.heap.size ≤ q) s.heap H locs) (hc : cells ≤ 599000 ∧ slots ≤ 7300000) (hW : LW D cA s.heap.size ax qz H)
    (kk : ∀ (H1 : Heap) (locs1 : List Loc), LW D cA s.heap.size ax qz H1 → va_S (fun q => s.heap.size ≤ q) s.heap H1 locs1 → W p l e room_1 s m args below meth c H1 locs1 (cells + 2) (slots + 51) Q (F0 m 613 ls [])) : W p l e room_1 s m args below meth c H locs cells slots Q (F0 m 399 ls []) := by
  obtain ⟨F, hK, hX, hbl, hL, hM1, hM2⟩ := C
  obtain ⟨cn, nt, ad, G, TT, vp, vh, vk, vb, vg, vo, vf, vd, vu, vw, vs, vx, va, vq, rfl, hx5, hPm, hinj, hz, hdj, hI⟩ := id hW
  have hcr : cells ≤ room_1.cells ∧ slots ≤ room_1.slots := ⟨Nat.le_trans hc.1 (Nat.le_of_ble_eq_true rfl), Nat.le_trans hc.2 (Nat.le_of_ble_eq_true rfl)⟩
  refine lv_aload_n F.1 F.2.1 d_law_399 rfl (lv_at hl 2 rfl) ?_
  refine law_ld F hX hbl hS hl hk hL 1 (by decide) rfl dl_law_400 ?_
  refine law_ld F hX hbl hS hl hk hL 2 (by decide) rfl dl_law_405 ?_
  refine ro_V (v := .long (f_x_weight nt TT (xs (6 * k + 1)) (xs (6 * k + 2)))) (As := [.int (xs (6 * k + 1)), .int (xs (6 * k + 2))]) (rest := []) (q0 := 0) F hK (c_x_weight l D cA ad nt G TT (xs (6 * k + 1)) (xs (6 * k + 2)) hI.1 cn hI.2.1.1 hI.2.1.2.1) hx5 hx5.1 rfl rfl rfl kc_x_weight km_w_56 ki_x ks_x_weight ke_x_weight rfl ok_x_weight ⟨Nat.le_of_ble_eq_true rfl, Nat.le_of_ble_eq_true rfl⟩ hcr hl.1 rfl (Nat.le_of_ble_eq_true rfl) d_law_410 ?_
  refine lv_aload_n F.1 F.2.1 d_law_413 rfl (lv_at hl 1 rfl) ?_
  refine law_ld F hX hbl hS hl hk hL 1 (by decide) rfl dl_law_414 ?_
  refine law_ld F hX hbl hS hl hk hL 2 (by decide) rfl dl_law_419 ?_
  refine ro_V (v := .long (f_m_weight (nI cn) vh (nI nt) vg vo vd vu vw va vq vf (xs (6 * k + 1)) (xs (6 * k + 2)))) (As := [.int (xs (6 * k + 1)), .int (xs (6 * k + 2))]) (rest := [.long (f_x_weight nt TT (xs (6 * k + 1)) (xs (6 * k + 2)))]) (q0 := 0) F hK (c_m_weight l D cA (qz 0) (qz 1) (qz 2) (qz 3) (qz 4) (qz 5) (qz 6) (qz 7) (qz 8) (qz 9) (qz 10) (qz 11) (qz 12) (qz 13) (qz 14) (nI cn) vp vh vk vb (nI nt) vg vo vd vu vw vs vx va vq vf (xs (6 * k + 1)) (xs (6 * k + 2)) cn hI.2.1.1 rfl nt hI.1 rfl (hva_of hI)) hPm hPm rfl rfl rfl kc_m_weight km_w_60 ki_m ks_m_weight ke_m_weight rfl ok_m_weight ⟨Nat.le_of_ble_eq_true rfl, Nat.le_of_ble_eq_true rfl⟩ hcr hl.1 rfl (Nat.le_of_ble_eq_true rfl) d_law_424 ?_
  refine W.lcmp F.1 F.2.1 d_law_427 ?_
  refine lv_if_eq (tgt := 613) F.1 F.2.1 d_law_428 (by decide) (fun _ => ?_) (fun h => absurd (e_weight hI (xs (6 * k + 1)) (xs (6 * k + 2))) (cp_ne h))
  exact W.widen (k := cells + 2) (n := slots + 51) (Nat.le_add_right _ _) (Nat.le_add_right _ _) (kk H locs hW hS)
set_option maxHeartbeats 4000000 in
set_option maxRecDepth 100000 in
theorem law_part {p : Program} {l : Launch} {e : Env} {s : State} {m : MethodId} {args : Array Value} {below : List Frame} {meth : Method} {c : Code} {H : Heap} {locs : List Loc} {cells slots : Nat} {Q : State → Prop} {ls : Array Slot} {b L k ax : Nat} {xs : Nat → Int32} {D : va_G} {cA : Nat → ClassId} {qz : Nat → Nat} (C : LC p s m meth c args b L xs D cA qz) (hk : 6 * k + 6 ≤ L) (hl : lv_has ls 4 (lz b ax (qz 0) k)) (hS : va_S (fun q => s.heap.size ≤ q) s.heap H locs) (hc : cells ≤ 599000 ∧ slots ≤ 7300000) (hW : LW D cA s.heap.size ax qz H)
    (kk : ∀ (H1 : Heap) (locs1 : List Loc), LW D cA s.heap.size ax qz H1 → va_S (fun q => s.heap.size ≤ q) s.heap H1 locs1 → W p l e room_1 s m args below meth c H1 locs1 (cells + 2) (slots + 51) Q (F0 m 613 ls [])) : W p l e room_1 s m args below meth c H locs cells slots Q (F0 m 433 ls []) := by
  obtain ⟨F, hK, hX, hbl, hL, hM1, hM2⟩ := C
  obtain ⟨cn, nt, ad, G, TT, vp, vh, vk, vb, vg, vo, vf, vd, vu, vw, vs, vx, va, vq, rfl, hx5, hPm, hinj, hz, hdj, hI⟩ := id hW
  have hcr : cells ≤ room_1.cells ∧ slots ≤ room_1.slots := ⟨Nat.le_trans hc.1 (Nat.le_of_ble_eq_true rfl), Nat.le_trans hc.2 (Nat.le_of_ble_eq_true rfl)⟩
  refine lv_aload_n F.1 F.2.1 d_law_433 rfl (lv_at hl 2 rfl) ?_
  refine law_ld F hX hbl hS hl hk hL 1 (by decide) rfl dl_law_434 ?_
  refine law_ld F hX hbl hS hl hk hL 2 (by decide) rfl dl_law_439 ?_
  refine ro_V (v := .long (f_x_part nt G TT (xs (6 * k + 1)) (xs (6 * k + 2)))) (As := [.int (xs (6 * k + 1)), .int (xs (6 * k + 2))]) (rest := []) (q0 := 0) F hK (c_x_part l D cA ad nt G TT (xs (6 * k + 1)) (xs (6 * k + 2)) hI.1 cn hI.2.1.1 hI.2.1.2.1) hx5 hx5.1 rfl rfl rfl kc_x_part km_w_61 ki_x ks_x_part ke_x_part rfl ok_x_part ⟨Nat.le_of_ble_eq_true rfl, Nat.le_of_ble_eq_true rfl⟩ hcr hl.1 rfl (Nat.le_of_ble_eq_true rfl) d_law_444 ?_
  refine lv_aload_n F.1 F.2.1 d_law_447 rfl (lv_at hl 1 rfl) ?_
  refine law_ld F hX hbl hS hl hk hL 1 (by decide) rfl dl_law_448 ?_
  refine law_ld F hX hbl hS hl hk hL 2 (by decide) rfl dl_law_453 ?_
  refine ro_V (v := .long (f_m_part (nI cn) vh (nI nt) vg vo vd vu vw va vq vf (xs (6 * k + 1)) (xs (6 * k + 2)))) (As := [.int (xs (6 * k + 1)), .int (xs (6 * k + 2))]) (rest := [.long (f_x_part nt G TT (xs (6 * k + 1)) (xs (6 * k + 2)))]) (q0 := 0) F hK (c_m_part l D cA (qz 0) (qz 1) (qz 2) (qz 3) (qz 4) (qz 5) (qz 6) (qz 7) (qz 8) (qz 9) (qz 10) (qz 11) (qz 12) (qz 13) (qz 14) (nI cn) vp vh vk vb (nI nt) vg vo vd vu vw vs vx va vq vf (xs (6 * k + 1)) (xs (6 * k + 2)) cn hI.2.1.1 rfl nt hI.1 rfl (hva_of hI)) hPm hPm rfl rfl rfl kc_m_part km_w_64 ki_m ks_m_part ke_m_part rfl ok_m_part ⟨Nat.le_of_ble_eq_true rfl, Nat.le_of_ble_eq_true rfl⟩ hcr hl.1 rfl (Nat.le_of_ble_eq_true rfl) d_law_458 ?_
  refine W.lcmp F.1 F.2.1 d_law_461 ?_
  refine lv_if_eq (tgt := 613) F.1 F.2.1 d_law_462 (by decide) (fun _ => ?_) (fun h => absurd (e_part hI (xs (6 * k + 1)) (xs (6 * k + 2))) (cp_ne h))
  exact W.widen (k := cells + 2) (n := slots + 51) (Nat.le_add_right _ _) (Nat.le_add_right _ _) (kk H locs hW hS)
set_option maxHeartbeats 4000000 in
set_option maxRecDepth 100000 in
theorem law_total {p : Program} {l : Launch} {e : Env} {s : State} {m : MethodId} {args : Array Value} {below : List Frame} {meth : Method} {c : Code} {H : Heap} {locs : List Loc} {cells slots : Nat} {Q : State → Prop} {ls : Array Slot} {b L k ax : Nat} {xs : Nat → Int32} {D : va_G} {cA : Nat → ClassId} {qz : Nat → Nat} (C : LC p s m meth c args b L xs D cA qz) (hk : 6 * k + 6 ≤ L) (hl : lv_has ls 4 (lz b ax (qz 0) k)) (hS : va_S (fun q => s.heap.size ≤ q) s.heap H locs) (hc : cells ≤ 599000 ∧ slots ≤ 7300000) (hW : LW D cA s.heap.size ax qz H)
    (kk : ∀ (H1 : Heap) (locs1 : List Loc), LW D cA s.heap.size ax qz H1 → va_S (fun q => s.heap.size ≤ q) s.heap H1 locs1 → W p l e room_1 s m args below meth c H1 locs1 (cells + 2) (slots + 51) Q (F0 m 613 ls [])) : W p l e room_1 s m args below meth c H locs cells slots Q (F0 m 467 ls []) := by
  obtain ⟨F, hK, hX, hbl, hL, hM1, hM2⟩ := C
  obtain ⟨cn, nt, ad, G, TT, vp, vh, vk, vb, vg, vo, vf, vd, vu, vw, vs, vx, va, vq, rfl, hx5, hPm, hinj, hz, hdj, hI⟩ := id hW
  have hcr : cells ≤ room_1.cells ∧ slots ≤ room_1.slots := ⟨Nat.le_trans hc.1 (Nat.le_of_ble_eq_true rfl), Nat.le_trans hc.2 (Nat.le_of_ble_eq_true rfl)⟩
  refine lv_aload_n F.1 F.2.1 d_law_467 rfl (lv_at hl 2 rfl) ?_
  refine law_ld F hX hbl hS hl hk hL 1 (by decide) rfl dl_law_468 ?_
  refine ro_V (v := .long (f_x_total nt TT (xs (6 * k + 1)))) (As := [.int (xs (6 * k + 1))]) (rest := []) (q0 := 0) F hK (c_x_total l D cA ad nt G TT (xs (6 * k + 1)) hI.1 cn hI.2.1.1 hI.2.1.2.1) hx5 hx5.1 rfl rfl rfl kc_x_total km_w_65 ki_x ks_x_total ke_x_total rfl ok_x_total ⟨Nat.le_of_ble_eq_true rfl, Nat.le_of_ble_eq_true rfl⟩ hcr hl.1 rfl (Nat.le_of_ble_eq_true rfl) d_law_473 ?_
  refine lv_aload_n F.1 F.2.1 d_law_476 rfl (lv_at hl 1 rfl) ?_
  refine law_ld F hX hbl hS hl hk hL 1 (by decide) rfl dl_law_477 ?_
  refine ro_V (v := .long (f_m_total (nI cn) vh (nI nt) vg vo vd vu vw va vq vf (xs (6 * k + 1)))) (As := [.int (xs (6 * k + 1))]) (rest := [.long (f_x_total nt TT (xs (6 * k + 1)))]) (q0 := 0) F hK (c_m_total l D cA (qz 0) (qz 1) (qz 2) (qz 3) (qz 4) (qz 5) (qz 6) (qz 7) (qz 8) (qz 9) (qz 10) (qz 11) (qz 12) (qz 13) (qz 14) (nI cn) vp vh vk vb (nI nt) vg vo vd vu vw vs vx va vq vf (xs (6 * k + 1)) cn hI.2.1.1 rfl nt hI.1 rfl (hva_of hI)) hPm hPm rfl rfl rfl kc_m_total km_w_69 ki_m ks_m_total ke_m_total rfl ok_m_total ⟨Nat.le_of_ble_eq_true rfl, Nat.le_of_ble_eq_true rfl⟩ hcr hl.1 rfl (Nat.le_of_ble_eq_true rfl) d_law_482 ?_
  refine W.lcmp F.1 F.2.1 d_law_485 ?_
  refine lv_if_eq (tgt := 613) F.1 F.2.1 d_law_486 (by decide) (fun _ => ?_) (fun h => absurd (e_total hI (xs (6 * k + 1))) (cp_ne h))
  exact W.widen (k := cells + 2) (n := slots + 51) (Nat.le_add_right _ _) (Nat.le_add_right _ _) (kk H locs hW hS)
set_option maxHeartbeats 4000000 in
set_option maxRecDepth 100000 in
theorem law_found {p : Program} {l : Launch} {e : Env} {s : State} {m : MethodId} {args : Array Value} {below : List Frame} {meth : Method} {c : Code} {H : Heap} {locs : List Loc} {cells slots : Nat} {Q : State → Prop} {ls : Array Slot} {b L k ax : Nat} {xs : Nat → Int32} {D : va_G} {cA : Nat → ClassId} {qz : Nat → Nat} (C : LC p s m meth c args b L xs D cA qz) (hk : 6 * k + 6 ≤ L) (hl : lv_has ls 4 (lz b ax (qz 0) k)) (hS : va_S (fun q => s.heap.size ≤ q) s.heap H locs) (hc : cells ≤ 599000 ∧ slots ≤ 7300000) (hW : LW D cA s.heap.size ax qz H)
    (kk : ∀ (H1 : Heap) (locs1 : List Loc), LW D cA s.heap.size ax qz H1 → va_S (fun q => s.heap.size ≤ q) s.heap H1 locs1 → W p l e room_1 s m args below meth c H1 locs1 (cells + 2) (slots + 51) Q (F0 m 613 ls [])) : W p l e room_1 s m args below meth c H locs cells slots Q (F0 m 491 ls []) := by
  obtain ⟨F, hK, hX, hbl, hL, hM1, hM2⟩ := C
  obtain ⟨cn, nt, ad, G, TT, vp, vh, vk, vb, vg, vo, vf, vd, vu, vw, vs, vx, va, vq, rfl, hx5, hPm, hinj, hz, hdj, hI⟩ := id hW
  have hcr : cells ≤ room_1.cells ∧ slots ≤ room_1.slots := ⟨Nat.le_trans hc.1 (Nat.le_of_ble_eq_true rfl), Nat.le_trans hc.2 (Nat.le_of_ble_eq_true rfl)⟩
  refine lv_aload_n F.1 F.2.1 d_law_491 rfl (lv_at hl 2 rfl) ?_
  refine law_ld F hX hbl hS hl hk hL 1 (by decide) rfl dl_law_492 ?_
  refine ro_V (v := .int (f_x_found nt TT (xs (6 * k + 1)))) (As := [.int (xs (6 * k + 1))]) (rest := []) (q0 := 0) F hK (c_x_found l D cA ad nt G TT (xs (6 * k + 1)) hI.1 cn hI.2.1.1 hI.2.1.2.1) hx5 hx5.1 rfl rfl rfl kc_x_found km_w_70 ki_x ks_x_found ke_x_found rfl ok_x_found ⟨Nat.le_of_ble_eq_true rfl, Nat.le_of_ble_eq_true rfl⟩ hcr hl.1 rfl (Nat.le_of_ble_eq_true rfl) d_law_497 ?_
  refine lv_aload_n F.1 F.2.1 d_law_500 rfl (lv_at hl 1 rfl) ?_
  refine law_ld F hX hbl hS hl hk hL 1 (by decide) rfl dl_law_501 ?_
  refine ro_V (v := .int (f_m_found (nI cn) vh (nI nt) vg vo vd vu vw vs va vq vf (xs (6 * k + 1)))) (As := [.int (xs (6 * k + 1))]) (rest := [.int (f_x_found nt TT (xs (6 * k + 1)))]) (q0 := 0) F hK (c_m_found l D cA (qz 0) (qz 1) (qz 2) (qz 3) (qz 4) (qz 5) (qz 6) (qz 7) (qz 8) (qz 9) (qz 10) (qz 11) (qz 12) (qz 13) (qz 14) (nI cn) vp vh vk vb (nI nt) vg vo vd vu vw vs vx va vq vf (xs (6 * k + 1)) cn hI.2.1.1 rfl nt hI.1 rfl (hva_of hI)) hPm hPm rfl rfl rfl kc_m_found km_w_73 ki_m ks_m_found ke_m_found rfl ok_m_found ⟨Nat.le_of_ble_eq_true rfl, Nat.le_of_ble_eq_true rfl⟩ hcr hl.1 rfl (Nat.le_of_ble_eq_true rfl) d_law_506 ?_
  refine lv_icmp_eq (tgt := 613) F.1 F.2.1 d_law_509 (by decide) (fun _ => ?_) (fun h => absurd (e_found hI (xs (6 * k + 1))) h)
  exact W.widen (k := cells + 2) (n := slots + 51) (Nat.le_add_right _ _) (Nat.le_add_right _ _) (kk H locs hW hS)
set_option maxHeartbeats 4000000 in
set_option maxRecDepth 100000 in
theorem law_told {p : Program} {l : Launch} {e : Env} {s : State} {m : MethodId} {args : Array Value} {below : List Frame} {meth : Method} {c : Code} {H : Heap} {locs : List Loc} {cells slots : Nat} {Q : State → Prop} {ls : Array Slot} {b L k ax : Nat} {xs : Nat → Int32} {D : va_G} {cA : Nat → ClassId} {qz : Nat → Nat} (C : LC p s m meth c args b L xs D cA qz) (hk : 6 * k + 6 ≤ L) (hl : lv_has ls 4 (lz b ax (qz 0) k)) (hS : va_S (fun q => s.heap.size ≤ q) s.heap H locs) (hc : cells ≤ 599000 ∧ slots ≤ 7300000) (hW : LW D cA s.heap.size ax qz H)
    (kk : ∀ (H1 : Heap) (locs1 : List Loc), LW D cA s.heap.size ax qz H1 → va_S (fun q => s.heap.size ≤ q) s.heap H1 locs1 → W p l e room_1 s m args below meth c H1 locs1 (cells + 2) (slots + 51) Q (F0 m 613 ls [])) : W p l e room_1 s m args below meth c H locs cells slots Q (F0 m 514 ls []) := by
  obtain ⟨F, hK, hX, hbl, hL, hM1, hM2⟩ := C
  obtain ⟨cn, nt, ad, G, TT, vp, vh, vk, vb, vg, vo, vf, vd, vu, vw, vs, vx, va, vq, rfl, hx5, hPm, hinj, hz, hdj, hI⟩ := id hW
  have hcr : cells ≤ room_1.cells ∧ slots ≤ room_1.slots := ⟨Nat.le_trans hc.1 (Nat.le_of_ble_eq_true rfl), Nat.le_trans hc.2 (Nat.le_of_ble_eq_true rfl)⟩
  refine lv_aload_n F.1 F.2.1 d_law_514 rfl (lv_at hl 2 rfl) ?_
  refine law_ld F hX hbl hS hl hk hL 1 (by decide) rfl dl_law_515 ?_
  refine law_ld F hX hbl hS hl hk hL 2 (by decide) rfl dl_law_520 ?_
  refine ro_V (v := .int (f_x_told nt TT (xs (6 * k + 1)) (xs (6 * k + 2)))) (As := [.int (xs (6 * k + 1)), .int (xs (6 * k + 2))]) (rest := []) (q0 := 0) F hK (c_x_told l D cA ad nt G TT (xs (6 * k + 1)) (xs (6 * k + 2)) hI.1 cn hI.2.1.1 hI.2.1.2.1) hx5 hx5.1 rfl rfl rfl kc_x_told km_w_74 ki_x ks_x_told ke_x_told rfl ok_x_told ⟨Nat.le_of_ble_eq_true rfl, Nat.le_of_ble_eq_true rfl⟩ hcr hl.1 rfl (Nat.le_of_ble_eq_true rfl) d_law_525 ?_
  refine lv_aload_n F.1 F.2.1 d_law_528 rfl (lv_at hl 1 rfl) ?_
  refine law_ld F hX hbl hS hl hk hL 1 (by decide) rfl dl_law_529 ?_
  refine law_ld F hX hbl hS hl hk hL 2 (by decide) rfl dl_law_534 ?_
  refine ro_V (v := .int (f_m_told (nI cn) vh (nI nt) vg vo vd vu vw va vq vf (xs (6 * k + 1)) (xs (6 * k + 2)))) (As := [.int (xs (6 * k + 1)), .int (xs (6 * k + 2))]) (rest := [.int (f_x_told nt TT (xs (6 * k + 1)) (xs (6 * k + 2)))]) (q0 := 0) F hK (c_m_told l D cA (qz 0) (qz 1) (qz 2) (qz 3) (qz 4) (qz 5) (qz 6) (qz 7) (qz 8) (qz 9) (qz 10) (qz 11) (qz 12) (qz 13) (qz 14) (nI cn) vp vh vk vb (nI nt) vg vo vd vu vw vs vx va vq vf (xs (6 * k + 1)) (xs (6 * k + 2)) cn hI.2.1.1 rfl nt hI.1 rfl (hva_of hI)) hPm hPm rfl rfl rfl kc_m_told km_w_77 ki_m ks_m_told ke_m_told rfl ok_m_told ⟨Nat.le_of_ble_eq_true rfl, Nat.le_of_ble_eq_true rfl⟩ hcr hl.1 rfl (Nat.le_of_ble_eq_true rfl) d_law_539 ?_
  refine lv_icmp_eq (tgt := 613) F.1 F.2.1 d_law_542 (by decide) (fun _ => ?_) (fun h => absurd (e_told hI (xs (6 * k + 1)) (xs (6 * k + 2))) h)
  exact W.widen (k := cells + 2) (n := slots + 51) (Nat.le_add_right _ _) (Nat.le_add_right _ _) (kk H locs hW hS)
set_option maxHeartbeats 4000000 in
set_option maxRecDepth 100000 in
theorem law_way {p : Program} {l : Launch} {e : Env} {s : State} {m : MethodId} {args : Array Value} {below : List Frame} {meth : Method} {c : Code} {H : Heap} {locs : List Loc} {cells slots : Nat} {Q : State → Prop} {ls : Array Slot} {b L k ax : Nat} {xs : Nat → Int32} {D : va_G} {cA : Nat → ClassId} {qz : Nat → Nat} (C : LC p s m meth c args b L xs D cA qz) (hk : 6 * k + 6 ≤ L) (hl : lv_has ls 4 (lz b ax (qz 0) k)) (hS : va_S (fun q => s.heap.size ≤ q) s.heap H locs) (hc : cells ≤ 599000 ∧ slots ≤ 7300000) (hW : LW D cA s.heap.size ax qz H)
    (kk : ∀ (H1 : Heap) (locs1 : List Loc), LW D cA s.heap.size ax qz H1 → va_S (fun q => s.heap.size ≤ q) s.heap H1 locs1 → W p l e room_1 s m args below meth c H1 locs1 (cells + 2) (slots + 51) Q (F0 m 613 ls [])) : W p l e room_1 s m args below meth c H locs cells slots Q (F0 m 547 ls []) := by
  obtain ⟨F, hK, hX, hbl, hL, hM1, hM2⟩ := C
  obtain ⟨cn, nt, ad, G, TT, vp, vh, vk, vb, vg, vo, vf, vd, vu, vw, vs, vx, va, vq, rfl, hx5, hPm, hinj, hz, hdj, hI⟩ := id hW
  have hcr : cells ≤ room_1.cells ∧ slots ≤ room_1.slots := ⟨Nat.le_trans hc.1 (Nat.le_of_ble_eq_true rfl), Nat.le_trans hc.2 (Nat.le_of_ble_eq_true rfl)⟩
  refine lv_aload_n F.1 F.2.1 d_law_547 rfl (lv_at hl 2 rfl) ?_
  refine law_ld F hX hbl hS hl hk hL 1 (by decide) rfl dl_law_548 ?_
  refine law_ld F hX hbl hS hl hk hL 2 (by decide) rfl dl_law_553 ?_
  refine ro_V (v := .int (f_x_way nt G TT (xs (6 * k + 1)) (xs (6 * k + 2)))) (As := [.int (xs (6 * k + 1)), .int (xs (6 * k + 2))]) (rest := []) (q0 := 0) F hK (c_x_way l D cA ad nt G TT (xs (6 * k + 1)) (xs (6 * k + 2)) hI.1 cn hI.2.1.1 hI.2.1.2.1) hx5 hx5.1 rfl rfl rfl kc_x_way km_w_78 ki_x ks_x_way ke_x_way rfl ok_x_way ⟨Nat.le_of_ble_eq_true rfl, Nat.le_of_ble_eq_true rfl⟩ hcr hl.1 rfl (Nat.le_of_ble_eq_true rfl) d_law_558 ?_
  refine lv_aload_n F.1 F.2.1 d_law_561 rfl (lv_at hl 1 rfl) ?_
  refine law_ld F hX hbl hS hl hk hL 1 (by decide) rfl dl_law_562 ?_
  refine law_ld F hX hbl hS hl hk hL 2 (by decide) rfl dl_law_567 ?_
  refine ro_V (v := .int (f_m_way (nI cn) vp vh (nI nt) vg vo vd vu vw vs va vq vf (xs (6 * k + 1)) (xs (6 * k + 2)))) (As := [.int (xs (6 * k + 1)), .int (xs (6 * k + 2))]) (rest := [.int (f_x_way nt G TT (xs (6 * k + 1)) (xs (6 * k + 2)))]) (q0 := 0) F hK (c_m_way l D cA (qz 0) (qz 1) (qz 2) (qz 3) (qz 4) (qz 5) (qz 6) (qz 7) (qz 8) (qz 9) (qz 10) (qz 11) (qz 12) (qz 13) (qz 14) (nI cn) vp vh vk vb (nI nt) vg vo vd vu vw vs vx va vq vf (xs (6 * k + 1)) (xs (6 * k + 2)) cn hI.2.1.1 rfl nt hI.1 rfl (hva_of hI) hI.2.1.2.2.2.2.2.1 hI.2.1.2.2.2.2.2.2.2.1) hPm hPm rfl rfl rfl kc_m_way km_w_81 ki_m ks_m_way ke_m_way rfl ok_m_way ⟨Nat.le_of_ble_eq_true rfl, Nat.le_of_ble_eq_true rfl⟩ hcr hl.1 rfl (Nat.le_of_ble_eq_true rfl) d_law_572 ?_
  refine lv_icmp_eq (tgt := 613) F.1 F.2.1 d_law_575 (by decide) (fun _ => ?_) (fun h => absurd (e_way hI (xs (6 * k + 1)) (xs (6 * k + 2))) h)
  exact W.widen (k := cells + 2) (n := slots + 51) (Nat.le_add_right _ _) (Nat.le_add_right _ _) (kk H locs hW hS)
set_option maxHeartbeats 4000000 in
set_option maxRecDepth 100000 in
theorem law_counted {p : Program} {l : Launch} {e : Env} {s : State} {m : MethodId} {args : Array Value} {below : List Frame} {meth : Method} {c : Code} {H : Heap} {locs : List Loc} {cells slots : Nat} {Q : State → Prop} {ls : Array Slot} {b L k ax : Nat} {xs : Nat → Int32} {D : va_G} {cA : Nat → ClassId} {qz : Nat → Nat} (C : LC p s m meth c args b L xs D cA qz) (hk : 6 * k + 6 ≤ L) (hl : lv_has ls 4 (lz b ax (qz 0) k)) (hS : va_S (fun q => s.heap.size ≤ q) s.heap H locs) (hc : cells ≤ 599000 ∧ slots ≤ 7300000) (hW : LW D cA s.heap.size ax qz H)
    (kk : ∀ (H1 : Heap) (locs1 : List Loc), LW D cA s.heap.size ax qz H1 → va_S (fun q => s.heap.size ≤ q) s.heap H1 locs1 → W p l e room_1 s m args below meth c H1 locs1 (cells + 2) (slots + 51) Q (F0 m 613 ls [])) : W p l e room_1 s m args below meth c H locs cells slots Q (F0 m 580 ls []) := by
  obtain ⟨F, hK, hX, hbl, hL, hM1, hM2⟩ := C
  obtain ⟨cn, nt, ad, G, TT, vp, vh, vk, vb, vg, vo, vf, vd, vu, vw, vs, vx, va, vq, rfl, hx5, hPm, hinj, hz, hdj, hI⟩ := id hW
  have hcr : cells ≤ room_1.cells ∧ slots ≤ room_1.slots := ⟨Nat.le_trans hc.1 (Nat.le_of_ble_eq_true rfl), Nat.le_trans hc.2 (Nat.le_of_ble_eq_true rfl)⟩
  refine lv_aload_n F.1 F.2.1 d_law_580 rfl (lv_at hl 2 rfl) ?_
  refine law_ld F hX hbl hS hl hk hL 1 (by decide) rfl dl_law_581 ?_
  refine law_ld F hX hbl hS hl hk hL 2 (by decide) rfl dl_law_586 ?_
  refine ro_V (v := .int (f_x_counted nt G TT (xs (6 * k + 1)) (xs (6 * k + 2)))) (As := [.int (xs (6 * k + 1)), .int (xs (6 * k + 2))]) (rest := []) (q0 := 0) F hK (c_x_counted l D cA ad nt G TT (xs (6 * k + 1)) (xs (6 * k + 2)) hI.1 cn hI.2.1.1 hI.2.1.2.1) hx5 hx5.1 rfl rfl rfl kc_x_counted km_w_82 ki_x ks_x_counted ke_x_counted rfl ok_x_counted ⟨Nat.le_of_ble_eq_true rfl, Nat.le_of_ble_eq_true rfl⟩ hcr hl.1 rfl (Nat.le_of_ble_eq_true rfl) d_law_591 ?_
  refine lv_aload_n F.1 F.2.1 d_law_594 rfl (lv_at hl 1 rfl) ?_
  refine law_ld F hX hbl hS hl hk hL 1 (by decide) rfl dl_law_595 ?_
  refine law_ld F hX hbl hS hl hk hL 2 (by decide) rfl dl_law_600 ?_
  refine ro_V (v := .int (f_m_counted (nI cn) vb (nI nt) vo vd vx va (xs (6 * k + 1)) (xs (6 * k + 2)))) (As := [.int (xs (6 * k + 1)), .int (xs (6 * k + 2))]) (rest := [.int (f_x_counted nt G TT (xs (6 * k + 1)) (xs (6 * k + 2)))]) (q0 := 0) F hK (c_m_counted l D cA (qz 0) (qz 1) (qz 2) (qz 3) (qz 4) (qz 5) (qz 6) (qz 7) (qz 8) (qz 9) (qz 10) (qz 11) (qz 12) (qz 13) (qz 14) (nI cn) vp vh vk vb (nI nt) vg vo vd vu vw vs vx va vq vf (xs (6 * k + 1)) (xs (6 * k + 2)) cn hI.2.1.1 rfl nt hI.1 rfl (hva_of hI)) hPm hPm rfl rfl rfl kc_m_counted km_w_85 ki_m ks_m_counted ke_m_counted rfl ok_m_counted ⟨Nat.le_of_ble_eq_true rfl, Nat.le_of_ble_eq_true rfl⟩ hcr hl.1 rfl (Nat.le_of_ble_eq_true rfl) d_law_605 ?_
  refine lv_icmp_eq (tgt := 613) F.1 F.2.1 d_law_608 (by decide) (fun _ => ?_) (fun h => absurd (e_counted hI (xs (6 * k + 1)) (xs (6 * k + 2))) h)
  exact W.widen (k := cells + 2) (n := slots + 51) (Nat.le_add_right _ _) (Nat.le_add_right _ _) (kk H locs hW hS)
