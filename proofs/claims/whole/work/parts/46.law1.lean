set_option maxHeartbeats 4000000 in
set_option maxRecDepth 100000 in
theorem law_change {p : Program} {l : Launch} {e : Env} {s : State} {m : MethodId} {args : Array Value} {below : List Frame} {meth : Method} {c : Code} {H : Heap} {locs : List Loc} {cells slots : Nat} {Q : State → Prop} {ls : Array Slot} {b L k ax : Nat} {xs : Nat → Int32} {D : va_G} {cA : Nat → ClassId} {qz : Nat → Nat} (C : LC p s m meth c args b L xs D cA qz) (hk : 6 * k + 6 ≤ L) (hl : lv_has ls 4 (lz b ax (qz 0) k)) (hS : va_S (fun q => s.heap.size ≤ q) s.heap H locs) (hc : cells ≤ 599000 ∧ slots ≤ 7300000) (hW : LW D cA s.heap.size ax qz H)
    (kk : ∀ (H1 : Heap) (locs1 : List Loc), LW D cA s.heap.size ax qz H1 → va_S (fun q => s.heap.size ≤ q) s.heap H1 locs1 → W p l e room_1 s m args below meth c H1 locs1 (cells + 2) (slots + 51) Q (F0 m 613 ls [])) : W p l e room_1 s m args below meth c H locs cells slots Q (F0 m 112 ls []) := by
  obtain ⟨F, hK, hX, hbl, hL, hM1, hM2⟩ := C
  obtain ⟨cn, nt, ad, G, TT, vp, vh, vk, vb, vg, vo, vf, vd, vu, vw, vs, vx, va, vq, rfl, hx5, hPm, hinj, hz, hdj, hI⟩ := id hW
  have hcr : cells ≤ room_1.cells ∧ slots ≤ room_1.slots := ⟨Nat.le_trans hc.1 (Nat.le_of_ble_eq_true rfl), Nat.le_trans hc.2 (Nat.le_of_ble_eq_true rfl)⟩
  have hMz : ∀ q, oM qz q → s.heap.size ≤ q := fun q h => by obtain ⟨i, hi, rfl⟩ := h; exact hM2 i hi
  refine lv_aload_n F.1 F.2.1 d_law_112 rfl (lv_at hl 2 rfl) ?_
  refine law_ld F hX hbl hS hl hk hL 1 (by decide) rfl dl_law_113 ?_
  refine law_ld F hX hbl hS hl hk hL 2 (by decide) rfl dl_law_118 ?_
  refine law_ld F hX hbl hS hl hk hL 3 (by decide) rfl dl_law_123 ?_
  refine mu_G (As := [.int (xs (6 * k + 1)), .int (xs (6 * k + 2)), .int (xs (6 * k + 3))]) (rest := []) (q0 := 0) F hK (c_x_change l D cA ad nt G TT (xs (6 * k + 1)) (xs (6 * k + 2)) (xs (6 * k + 3)) hI.1 cn hI.2.1.1 hI.2.1.2.1 hinj) hx5 hx5.1 rfl rfl rfl kc_x_change km_w_13 ki_x ks_x_change ke_x_change rfl ok_x_change ⟨Nat.le_of_ble_eq_true rfl, Nat.le_of_ble_eq_true rfl⟩ hcr hl.1 rfl (Nat.le_of_ble_eq_true rfl) d_law_128 hS hz (fun v1 H1 locs1 hv1 hs1 hk1 hS => ?_)
  obtain ⟨rfl, hx5⟩ := hv1
  have hPm := cz_keep hPm (fun q h1 h2 => hdj q h2 h1) hk1
  refine W.eq (g2 := F0 m 131 ls [.int ((f_x_change G TT (xs (6 * k + 1)) (xs (6 * k + 2)) (xs (6 * k + 3))).1)]) rfl ?_
  refine lv_aload_n F.1 F.2.1 d_law_131 rfl (lv_at hl 1 rfl) ?_
  refine law_ld F hX hbl hS hl hk hL 1 (by decide) rfl dl_law_132 ?_
  refine law_ld F hX hbl hS hl hk hL 2 (by decide) rfl dl_law_137 ?_
  refine law_ld F hX hbl hS hl hk hL 3 (by decide) rfl dl_law_142 ?_
  refine mu_G (As := [.int (xs (6 * k + 1)), .int (xs (6 * k + 2)), .int (xs (6 * k + 3))]) (rest := [.int ((f_x_change G TT (xs (6 * k + 1)) (xs (6 * k + 2)) (xs (6 * k + 3))).1)]) (q0 := 0) F hK (c_m_change l D cA (qz 0) (qz 1) (qz 2) (qz 3) (qz 4) (qz 5) (qz 6) (qz 7) (qz 8) (qz 9) (qz 10) (qz 11) (qz 12) (qz 13) (qz 14) (nI cn) vp vh vk vb (nI nt) vg vo vd vu vw vs vx va vq vf (xs (6 * k + 1)) (xs (6 * k + 2)) (xs (6 * k + 3)) cn hI.2.1.1 rfl) ⟨hPm, cz_d hM1⟩ hPm rfl rfl rfl kc_m_change km_w_17 ki_m ks_m_change ke_m_change rfl ok_m_change ⟨Nat.le_of_ble_eq_true rfl, Nat.le_of_ble_eq_true rfl⟩ hcr hl.1 rfl (Nat.le_of_ble_eq_true rfl) d_law_147 hS (fun q h => hMz q (cz_o h)) (fun v2 H2 locs2 hv2 hs2 hk2 hS => ?_)
  obtain ⟨rfl, hPm, -⟩ := hv2
  have hPm : va_P D classes (cM cA qz ((f_m_change (nI cn) vp vh (xs (6 * k + 1)) (xs (6 * k + 2)) (xs (6 * k + 3))).2.2.2) ((f_m_change (nI cn) vp vh (xs (6 * k + 1)) (xs (6 * k + 2)) (xs (6 * k + 3))).2.1) ((f_m_change (nI cn) vp vh (xs (6 * k + 1)) (xs (6 * k + 2)) (xs (6 * k + 3))).2.2.1) vk vb (nI nt) vg vo vd vu vw vs vx va vq vf) H2 := hPm
  have hx5 := wx_keep2 hx5 (fun q hq h => hdj q hq (cz_o h)) hk2
  refine W.eq (g2 := F0 m 150 ls [.int ((f_m_change (nI cn) vp vh (xs (6 * k + 1)) (xs (6 * k + 2)) (xs (6 * k + 3))).1), .int ((f_x_change G TT (xs (6 * k + 1)) (xs (6 * k + 2)) (xs (6 * k + 3))).1)]) rfl ?_
  obtain ⟨cn2, e1, e2, e3⟩ := e_change hI (xs (6 * k + 1)) (xs (6 * k + 2)) (xs (6 * k + 3))
  refine lv_icmp_eq (tgt := 613) F.1 F.2.1 d_law_150 (by decide) (fun _ => ?_) (fun h => absurd e1 h)
  rw [e2] at hPm
  exact W.widen (k := cells + 2) (n := slots + 51) (Nat.le_add_right _ _) (Nat.le_add_right _ _) (kk H2 locs2 ⟨cn2, nt, ad, _, _, (f_m_change (nI cn) vp vh (xs (6 * k + 1)) (xs (6 * k + 2)) (xs (6 * k + 3))).2.1, (f_m_change (nI cn) vp vh (xs (6 * k + 1)) (xs (6 * k + 2)) (xs (6 * k + 3))).2.2.1, vk, vb, vg, vo, vf, vd, vu, vw, vs, vx, va, vq, rfl, hx5, hPm, hinj, hz, hdj, e3⟩ hS)
set_option maxHeartbeats 4000000 in
set_option maxRecDepth 100000 in
theorem law_has {p : Program} {l : Launch} {e : Env} {s : State} {m : MethodId} {args : Array Value} {below : List Frame} {meth : Method} {c : Code} {H : Heap} {locs : List Loc} {cells slots : Nat} {Q : State → Prop} {ls : Array Slot} {b L k ax : Nat} {xs : Nat → Int32} {D : va_G} {cA : Nat → ClassId} {qz : Nat → Nat} (C : LC p s m meth c args b L xs D cA qz) (hk : 6 * k + 6 ≤ L) (hl : lv_has ls 4 (lz b ax (qz 0) k)) (hS : va_S (fun q => s.heap.size ≤ q) s.heap H locs) (hc : cells ≤ 599000 ∧ slots ≤ 7300000) (hW : LW D cA s.heap.size ax qz H)
    (kk : ∀ (H1 : Heap) (locs1 : List Loc), LW D cA s.heap.size ax qz H1 → va_S (fun q => s.heap.size ≤ q) s.heap H1 locs1 → W p l e room_1 s m args below meth c H1 locs1 (cells + 2) (slots + 51) Q (F0 m 613 ls [])) : W p l e room_1 s m args below meth c H locs cells slots Q (F0 m 155 ls []) := by
  obtain ⟨F, hK, hX, hbl, hL, hM1, hM2⟩ := C
  obtain ⟨cn, nt, ad, G, TT, vp, vh, vk, vb, vg, vo, vf, vd, vu, vw, vs, vx, va, vq, rfl, hx5, hPm, hinj, hz, hdj, hI⟩ := id hW
  have hcr : cells ≤ room_1.cells ∧ slots ≤ room_1.slots := ⟨Nat.le_trans hc.1 (Nat.le_of_ble_eq_true rfl), Nat.le_trans hc.2 (Nat.le_of_ble_eq_true rfl)⟩
  refine lv_aload_n F.1 F.2.1 d_law_155 rfl (lv_at hl 2 rfl) ?_
  refine law_ld F hX hbl hS hl hk hL 1 (by decide) rfl dl_law_156 ?_
  refine law_ld F hX hbl hS hl hk hL 2 (by decide) rfl dl_law_161 ?_
  refine ro_V (v := .int (bz (f_x_has G (xs (6 * k + 1)) (xs (6 * k + 2))))) (As := [.int (xs (6 * k + 1)), .int (xs (6 * k + 2))]) (rest := []) (q0 := 0) F hK (c_x_has l D cA ad nt G TT (xs (6 * k + 1)) (xs (6 * k + 2)) hI.1 cn hI.2.1.1 hI.2.1.2.1) hx5 hx5.1 rfl rfl rfl kc_x_has km_w_18 ki_x ks_x_has ke_x_has rfl ok_x_has ⟨Nat.le_of_ble_eq_true rfl, Nat.le_of_ble_eq_true rfl⟩ hcr hl.1 rfl (Nat.le_of_ble_eq_true rfl) d_law_166 ?_
  refine lv_aload_n F.1 F.2.1 d_law_169 rfl (lv_at hl 1 rfl) ?_
  refine law_ld F hX hbl hS hl hk hL 1 (by decide) rfl dl_law_170 ?_
  refine law_ld F hX hbl hS hl hk hL 2 (by decide) rfl dl_law_175 ?_
  refine ro_V (v := .int (bz (f_m_has (nI cn) vh (xs (6 * k + 1)) (xs (6 * k + 2))))) (As := [.int (xs (6 * k + 1)), .int (xs (6 * k + 2))]) (rest := [.int (bz (f_x_has G (xs (6 * k + 1)) (xs (6 * k + 2))))]) (q0 := 0) F hK (c_m_has l D cA (qz 0) (qz 1) (qz 2) (qz 3) (qz 4) (qz 5) (qz 6) (qz 7) (qz 8) (qz 9) (qz 10) (qz 11) (qz 12) (qz 13) (qz 14) (nI cn) vp vh vk vb (nI nt) vg vo vd vu vw vs vx va vq vf (xs (6 * k + 1)) (xs (6 * k + 2)) cn hI.2.1.1 rfl) hPm hPm rfl rfl rfl kc_m_has km_w_22 ki_m ks_m_has ke_m_has rfl ok_m_has ⟨Nat.le_of_ble_eq_true rfl, Nat.le_of_ble_eq_true rfl⟩ hcr hl.1 rfl (Nat.le_of_ble_eq_true rfl) d_law_180 ?_
  refine lv_icmp_eq (tgt := 613) F.1 F.2.1 d_law_183 (by decide) (fun _ => ?_) (fun h => absurd (congrArg bz (e_has hI (xs (6 * k + 1)) (xs (6 * k + 2)))) h)
  exact W.widen (k := cells + 2) (n := slots + 51) (Nat.le_add_right _ _) (Nat.le_add_right _ _) (kk H locs hW hS)
set_option maxHeartbeats 4000000 in
set_option maxRecDepth 100000 in
theorem law_target {p : Program} {l : Launch} {e : Env} {s : State} {m : MethodId} {args : Array Value} {below : List Frame} {meth : Method} {c : Code} {H : Heap} {locs : List Loc} {cells slots : Nat} {Q : State → Prop} {ls : Array Slot} {b L k ax : Nat} {xs : Nat → Int32} {D : va_G} {cA : Nat → ClassId} {qz : Nat → Nat} (C : LC p s m meth c args b L xs D cA qz) (hk : 6 * k + 6 ≤ L) (hl : lv_has ls 4 (lz b ax (qz 0) k)) (hS : va_S (fun q => s.heap.size ≤ q) s.heap H locs) (hc : cells ≤ 599000 ∧ slots ≤ 7300000) (hW : LW D cA s.heap.size ax qz H)
    (kk : ∀ (H1 : Heap) (locs1 : List Loc), LW D cA s.heap.size ax qz H1 → va_S (fun q => s.heap.size ≤ q) s.heap H1 locs1 → W p l e room_1 s m args below meth c H1 locs1 (cells + 2) (slots + 51) Q (F0 m 613 ls [])) : W p l e room_1 s m args below meth c H locs cells slots Q (F0 m 188 ls []) := by
  obtain ⟨F, hK, hX, hbl, hL, hM1, hM2⟩ := C
  obtain ⟨cn, nt, ad, G, TT, vp, vh, vk, vb, vg, vo, vf, vd, vu, vw, vs, vx, va, vq, rfl, hx5, hPm, hinj, hz, hdj, hI⟩ := id hW
  have hcr : cells ≤ room_1.cells ∧ slots ≤ room_1.slots := ⟨Nat.le_trans hc.1 (Nat.le_of_ble_eq_true rfl), Nat.le_trans hc.2 (Nat.le_of_ble_eq_true rfl)⟩
  have hMz : ∀ q, oM qz q → s.heap.size ≤ q := fun q h => by obtain ⟨i, hi, rfl⟩ := h; exact hM2 i hi
  refine lv_aload_n F.1 F.2.1 d_law_188 rfl (lv_at hl 2 rfl) ?_
  refine mu_G (As := []) (rest := []) (q0 := 0) F hK (c_x_target l D cA ad nt G TT H.size hI.1 hinj) ⟨rfl, hx5⟩ hx5.1 rfl rfl rfl kc_x_target km_w_23 ki_x ks_x_target ke_x_target rfl ok_x_target ⟨Nat.le_of_ble_eq_true rfl, Nat.le_of_ble_eq_true rfl⟩ ⟨Nat.le_trans (Nat.add_le_add_right hc.1 2) (Nat.le_of_ble_eq_true rfl), Nat.le_trans (Nat.add_le_add_right hc.2 51) (Nat.le_of_ble_eq_true rfl)⟩ hl.1 rfl (Nat.le_of_ble_eq_true rfl) d_law_189 hS (fun q h => h.elim (hz q) (fun h => Nat.le_trans hS.1 h)) (fun v1 H1 locs1 hv1 hs1 hk1 hS1 => ?_)
  obtain ⟨rfl, ad2, hsub, had, hinj2, hx5⟩ := hv1
  have hlt : ∀ q, oM qz q → q < H.size := fun q h => cz_lt hPm h
  have hPm := cz_keep hPm (fun q h1 h2 => h2.elim (fun h2 => hdj q h2 h1) (fun h2 => Nat.lt_irrefl _ (Nat.lt_of_lt_of_le (hlt q h1) h2))) hk1
  have hz2 : ∀ q, ox ad2 (f_x_target nt TT).2.1 q → s.heap.size ≤ q := fun q h => (hsub q h).elim (hz q) (fun h => Nat.le_trans hS.1 h)
  have hdj2 : ∀ q, ox ad2 (f_x_target nt TT).2.1 q → ¬ oM qz q := fun q h h1 => (hsub q h).elim (fun h2 => hdj q h2 h1) (fun h2 => Nat.lt_irrefl _ (Nat.lt_of_lt_of_le (hlt q h1) h2))
  replace hS := hS1
  refine W.eq (g2 := F0 m 192 ls [.int ((f_x_target nt TT).1)]) rfl ?_
  refine lv_aload_n F.1 F.2.1 d_law_192 rfl (lv_at hl 1 rfl) ?_
  refine mu_G (As := []) (rest := [.int ((f_x_target nt TT).1)]) (q0 := 0) F hK (c_m_target l D cA (qz 0) (qz 1) (qz 2) (qz 3) (qz 4) (qz 5) (qz 6) (qz 7) (qz 8) (qz 9) (qz 10) (qz 11) (qz 12) (qz 13) (qz 14) (nI cn) vp vh vk vb (nI nt) vg vo vd vu vw vs vx va vq vf  ) ⟨hPm, cz_d hM1⟩ hPm rfl rfl rfl kc_m_target km_w_27 ki_m ks_m_target ke_m_target rfl ok_m_target ⟨Nat.le_of_ble_eq_true rfl, Nat.le_of_ble_eq_true rfl⟩ ⟨Nat.le_trans (Nat.add_le_add_right hc.1 2) (Nat.le_of_ble_eq_true rfl), Nat.le_trans (Nat.add_le_add_right hc.2 51) (Nat.le_of_ble_eq_true rfl)⟩ hl.1 rfl (Nat.le_of_ble_eq_true rfl) d_law_193 hS (fun q h => hMz q (cz_o h)) (fun v2 H2 locs2 hv2 hs2 hk2 hS => ?_)
  obtain ⟨rfl, hPm, -⟩ := hv2
  have hPm : va_P D classes (cM cA qz (nI cn) vp vh vk vb ((f_m_target (nI nt)).2) vg vo vd vu vw vs vx va vq vf) H2 := hPm
  have hx5 := wx_keep2 hx5 (fun q hq h => hdj2 q hq (cz_o h)) hk2
  refine W.eq (g2 := F0 m 196 ls [.int ((f_m_target (nI nt)).1), .int ((f_x_target nt TT).1)]) rfl ?_
  obtain ⟨e1, e2, e3⟩ := e_target hI 
  refine lv_icmp_eq (tgt := 613) F.1 F.2.1 d_law_196 (by decide) (fun _ => ?_) (fun h => absurd e1 h)
  rw [e2] at hPm
  exact kk H2 locs2 ⟨cn, _, ad2, G, _, vp, vh, vk, vb, vg, vo, vf, vd, vu, vw, vs, vx, va, vq, had, hx5, hPm, hinj2, hz2, hdj2, e3⟩ hS
set_option maxHeartbeats 4000000 in
set_option maxRecDepth 100000 in
theorem law_good {p : Program} {l : Launch} {e : Env} {s : State} {m : MethodId} {args : Array Value} {below : List Frame} {meth : Method} {c : Code} {H : Heap} {locs : List Loc} {cells slots : Nat} {Q : State → Prop} {ls : Array Slot} {b L k ax : Nat} {xs : Nat → Int32} {D : va_G} {cA : Nat → ClassId} {qz : Nat → Nat} (C : LC p s m meth c args b L xs D cA qz) (hk : 6 * k + 6 ≤ L) (hl : lv_has ls 4 (lz b ax (qz 0) k)) (hS : va_S (fun q => s.heap.size ≤ q) s.heap H locs) (hc : cells ≤ 599000 ∧ slots ≤ 7300000) (hW : LW D cA s.heap.size ax qz H)
    (kk : ∀ (H1 : Heap) (locs1 : List Loc), LW D cA s.heap.size ax qz H1 → va_S (fun q => s.heap.size ≤ q) s.heap H1 locs1 → W p l e room_1 s m args below meth c H1 locs1 (cells + 2) (slots + 51) Q (F0 m 613 ls [])) : W p l e room_1 s m args below meth c H locs cells slots Q (F0 m 201 ls []) := by
  obtain ⟨F, hK, hX, hbl, hL, hM1, hM2⟩ := C
  obtain ⟨cn, nt, ad, G, TT, vp, vh, vk, vb, vg, vo, vf, vd, vu, vw, vs, vx, va, vq, rfl, hx5, hPm, hinj, hz, hdj, hI⟩ := id hW
  have hcr : cells ≤ room_1.cells ∧ slots ≤ room_1.slots := ⟨Nat.le_trans hc.1 (Nat.le_of_ble_eq_true rfl), Nat.le_trans hc.2 (Nat.le_of_ble_eq_true rfl)⟩
  have hMz : ∀ q, oM qz q → s.heap.size ≤ q := fun q h => by obtain ⟨i, hi, rfl⟩ := h; exact hM2 i hi
  refine lv_aload_n F.1 F.2.1 d_law_201 rfl (lv_at hl 2 rfl) ?_
  refine law_ld F hX hbl hS hl hk hL 1 (by decide) rfl dl_law_202 ?_
  refine law_ld F hX hbl hS hl hk hL 2 (by decide) rfl dl_law_207 ?_
  refine mu_G (As := [.int (xs (6 * k + 1)), .int (xs (6 * k + 2))]) (rest := []) (q0 := 0) F hK (c_x_good l D cA ad nt G TT (xs (6 * k + 1)) (xs (6 * k + 2)) hI.1 cn hI.2.1.1 hI.2.1.2.1 hinj) hx5 hx5.1 rfl rfl rfl kc_x_good km_w_28 ki_x ks_x_good ke_x_good rfl ok_x_good ⟨Nat.le_of_ble_eq_true rfl, Nat.le_of_ble_eq_true rfl⟩ hcr hl.1 rfl (Nat.le_of_ble_eq_true rfl) d_law_212 hS hz (fun v1 H1 locs1 hv1 hs1 hk1 hS => ?_)
  obtain ⟨rfl, hx5⟩ := hv1
  have hPm := cz_keep hPm (fun q h1 h2 => hdj q h2 h1) hk1
  refine W.eq (g2 := F0 m 215 ls [.int ((f_x_good nt G TT (xs (6 * k + 1)) (xs (6 * k + 2))).1)]) rfl ?_
  refine lv_aload_n F.1 F.2.1 d_law_215 rfl (lv_at hl 1 rfl) ?_
  refine law_ld F hX hbl hS hl hk hL 1 (by decide) rfl dl_law_216 ?_
  refine law_ld F hX hbl hS hl hk hL 2 (by decide) rfl dl_law_221 ?_
  refine mu_G (As := [.int (xs (6 * k + 1)), .int (xs (6 * k + 2))]) (rest := [.int ((f_x_good nt G TT (xs (6 * k + 1)) (xs (6 * k + 2))).1)]) (q0 := 0) F hK (c_m_good l D cA (qz 0) (qz 1) (qz 2) (qz 3) (qz 4) (qz 5) (qz 6) (qz 7) (qz 8) (qz 9) (qz 10) (qz 11) (qz 12) (qz 13) (qz 14) (nI cn) vp vh vk vb (nI nt) vg vo vd vu vw vs vx va vq vf (xs (6 * k + 1)) (xs (6 * k + 2)) cn hI.2.1.1 rfl nt hI.1 rfl) ⟨hPm, cz_d hM1⟩ hPm rfl rfl rfl kc_m_good km_w_32 ki_m ks_m_good ke_m_good rfl ok_m_good ⟨Nat.le_of_ble_eq_true rfl, Nat.le_of_ble_eq_true rfl⟩ hcr hl.1 rfl (Nat.le_of_ble_eq_true rfl) d_law_226 hS (fun q h => hMz q (cz_o h)) (fun v2 H2 locs2 hv2 hs2 hk2 hS => ?_)
  obtain ⟨rfl, hPm, -⟩ := hv2
  have hPm : va_P D classes (cM cA qz (nI cn) vp vh vk vb (nI nt) ((f_m_good (nI cn) (nI nt) vg vo (xs (6 * k + 1)) (xs (6 * k + 2))).2) vo vd vu vw vs vx va vq vf) H2 := hPm
  have hx5 := wx_keep2 hx5 (fun q hq h => hdj q hq (cz_o h)) hk2
  refine W.eq (g2 := F0 m 229 ls [.int ((f_m_good (nI cn) (nI nt) vg vo (xs (6 * k + 1)) (xs (6 * k + 2))).1), .int ((f_x_good nt G TT (xs (6 * k + 1)) (xs (6 * k + 2))).1)]) rfl ?_
  obtain ⟨e1, e3⟩ := e_good hI (xs (6 * k + 1)) (xs (6 * k + 2))
  refine lv_icmp_eq (tgt := 613) F.1 F.2.1 d_law_229 (by decide) (fun _ => ?_) (fun h => absurd e1 h)
  exact W.widen (k := cells + 2) (n := slots + 51) (Nat.le_add_right _ _) (Nat.le_add_right _ _) (kk H2 locs2 ⟨cn, nt, ad, _, _, vp, vh, vk, vb, (f_m_good (nI cn) (nI nt) vg vo (xs (6 * k + 1)) (xs (6 * k + 2))).2, vo, vf, vd, vu, vw, vs, vx, va, vq, rfl, hx5, hPm, hinj, hz, hdj, e3⟩ hS)
set_option maxHeartbeats 4000000 in
set_option maxRecDepth 100000 in
theorem law_begin {p : Program} {l : Launch} {e : Env} {s : State} {m : MethodId} {args : Array Value} {below : List Frame} {meth : Method} {c : Code} {H : Heap} {locs : List Loc} {cells slots : Nat} {Q : State → Prop} {ls : Array Slot} {b L k ax : Nat} {xs : Nat → Int32} {D : va_G} {cA : Nat → ClassId} {qz : Nat → Nat} (C : LC p s m meth c args b L xs D cA qz) (hk : 6 * k + 6 ≤ L) (hl : lv_has ls 4 (lz b ax (qz 0) k)) (hS : va_S (fun q => s.heap.size ≤ q) s.heap H locs) (hc : cells ≤ 599000 ∧ slots ≤ 7300000) (hW : LW D cA s.heap.size ax qz H)
    (kk : ∀ (H1 : Heap) (locs1 : List Loc), LW D cA s.heap.size ax qz H1 → va_S (fun q => s.heap.size ≤ q) s.heap H1 locs1 → W p l e room_1 s m args below meth c H1 locs1 (cells + 2) (slots + 51) Q (F0 m 613 ls [])) : W p l e room_1 s m args below meth c H locs cells slots Q (F0 m 234 ls []) := by
  obtain ⟨F, hK, hX, hbl, hL, hM1, hM2⟩ := C
  obtain ⟨cn, nt, ad, G, TT, vp, vh, vk, vb, vg, vo, vf, vd, vu, vw, vs, vx, va, vq, rfl, hx5, hPm, hinj, hz, hdj, hI⟩ := id hW
  have hcr : cells ≤ room_1.cells ∧ slots ≤ room_1.slots := ⟨Nat.le_trans hc.1 (Nat.le_of_ble_eq_true rfl), Nat.le_trans hc.2 (Nat.le_of_ble_eq_true rfl)⟩
  have hMz : ∀ q, oM qz q → s.heap.size ≤ q := fun q h => by obtain ⟨i, hi, rfl⟩ := h; exact hM2 i hi
  refine lv_aload_n F.1 F.2.1 d_law_234 rfl (lv_at hl 2 rfl) ?_
  refine law_ld F hX hbl hS hl hk hL 1 (by decide) rfl dl_law_235 ?_
  refine law_ld F hX hbl hS hl hk hL 2 (by decide) rfl dl_law_240 ?_
  refine law_ld F hX hbl hS hl hk hL 3 (by decide) rfl dl_law_245 ?_
  refine law_ld F hX hbl hS hl hk hL 4 (by decide) rfl dl_law_250 ?_
  refine law_ld F hX hbl hS hl hk hL 5 (by decide) rfl dl_law_255 ?_
  refine mu_G (As := [.int (xs (6 * k + 1)), .int (xs (6 * k + 2)), .int (xs (6 * k + 3)), .int (xs (6 * k + 4)), .int (xs (6 * k + 5))]) (rest := []) (q0 := 0) F hK (c_x_begin l D cA ad nt G TT (xs (6 * k + 1)) (xs (6 * k + 2)) (xs (6 * k + 3)) (xs (6 * k + 4)) (xs (6 * k + 5)) hI.1 cn hI.2.1.1 hI.2.1.2.1 hinj) hx5 hx5.1 rfl rfl rfl kc_x_begin km_w_33 ki_x ks_x_begin ke_x_begin rfl ok_x_begin ⟨Nat.le_of_ble_eq_true rfl, Nat.le_of_ble_eq_true rfl⟩ hcr hl.1 rfl (Nat.le_of_ble_eq_true rfl) d_law_260 hS hz (fun v1 H1 locs1 hv1 hs1 hk1 hS => ?_)
  obtain ⟨rfl, hx5⟩ := hv1
  have hPm := cz_keep hPm (fun q h1 h2 => hdj q h2 h1) hk1
  refine W.eq (g2 := F0 m 263 ls [.int ((f_x_begin nt G TT (xs (6 * k + 1)) (xs (6 * k + 2)) (xs (6 * k + 3)) (xs (6 * k + 4)) (xs (6 * k + 5))).1)]) rfl ?_
  refine lv_aload_n F.1 F.2.1 d_law_263 rfl (lv_at hl 1 rfl) ?_
  refine law_ld F hX hbl hS hl hk hL 1 (by decide) rfl dl_law_264 ?_
  refine law_ld F hX hbl hS hl hk hL 2 (by decide) rfl dl_law_269 ?_
  refine law_ld F hX hbl hS hl hk hL 3 (by decide) rfl dl_law_274 ?_
  refine law_ld F hX hbl hS hl hk hL 4 (by decide) rfl dl_law_279 ?_
  refine law_ld F hX hbl hS hl hk hL 5 (by decide) rfl dl_law_284 ?_
  refine mu_G (As := [.int (xs (6 * k + 1)), .int (xs (6 * k + 2)), .int (xs (6 * k + 3)), .int (xs (6 * k + 4)), .int (xs (6 * k + 5))]) (rest := [.int ((f_x_begin nt G TT (xs (6 * k + 1)) (xs (6 * k + 2)) (xs (6 * k + 3)) (xs (6 * k + 4)) (xs (6 * k + 5))).1)]) (q0 := 0) F hK (c_m_begin l D cA (qz 0) (qz 1) (qz 2) (qz 3) (qz 4) (qz 5) (qz 6) (qz 7) (qz 8) (qz 9) (qz 10) (qz 11) (qz 12) (qz 13) (qz 14) (nI cn) vp vh vk vb (nI nt) vg vo vd vu vw vs vx va vq vf (xs (6 * k + 1)) (xs (6 * k + 2)) (xs (6 * k + 3)) (xs (6 * k + 4)) (xs (6 * k + 5)) cn hI.2.1.1 rfl nt hI.1 rfl (hva_of hI)) ⟨hPm, cz_d hM1⟩ hPm rfl rfl rfl kc_m_begin km_w_37 ki_m ks_m_begin ke_m_begin rfl ok_m_begin ⟨Nat.le_of_ble_eq_true rfl, Nat.le_of_ble_eq_true rfl⟩ hcr hl.1 rfl (Nat.le_of_ble_eq_true rfl) d_law_289 hS (fun q h => hMz q (cz_o h)) (fun v2 H2 locs2 hv2 hs2 hk2 hS => ?_)
  obtain ⟨rfl, hPm, -⟩ := hv2
  have hPm : va_P D classes (cM cA qz (nI cn) vp vh vk vb (nI nt) vg ((f_m_begin (nI cn) vh (nI nt) vg vo vd vu vw vs va vq vf (xs (6 * k + 1)) (xs (6 * k + 2)) (xs (6 * k + 3)) (xs (6 * k + 4)) (xs (6 * k + 5))).2.1) ((f_m_begin (nI cn) vh (nI nt) vg vo vd vu vw vs va vq vf (xs (6 * k + 1)) (xs (6 * k + 2)) (xs (6 * k + 3)) (xs (6 * k + 4)) (xs (6 * k + 5))).2.2.1) ((f_m_begin (nI cn) vh (nI nt) vg vo vd vu vw vs va vq vf (xs (6 * k + 1)) (xs (6 * k + 2)) (xs (6 * k + 3)) (xs (6 * k + 4)) (xs (6 * k + 5))).2.2.2.1) ((f_m_begin (nI cn) vh (nI nt) vg vo vd vu vw vs va vq vf (xs (6 * k + 1)) (xs (6 * k + 2)) (xs (6 * k + 3)) (xs (6 * k + 4)) (xs (6 * k + 5))).2.2.2.2.1) ((f_m_begin (nI cn) vh (nI nt) vg vo vd vu vw vs va vq vf (xs (6 * k + 1)) (xs (6 * k + 2)) (xs (6 * k + 3)) (xs (6 * k + 4)) (xs (6 * k + 5))).2.2.2.2.2.1) vx ((f_m_begin (nI cn) vh (nI nt) vg vo vd vu vw vs va vq vf (xs (6 * k + 1)) (xs (6 * k + 2)) (xs (6 * k + 3)) (xs (6 * k + 4)) (xs (6 * k + 5))).2.2.2.2.2.2) vq vf) H2 := hPm
  have hx5 := wx_keep2 hx5 (fun q hq h => hdj q hq (cz_o h)) hk2
  refine W.eq (g2 := F0 m 292 ls [.int ((f_m_begin (nI cn) vh (nI nt) vg vo vd vu vw vs va vq vf (xs (6 * k + 1)) (xs (6 * k + 2)) (xs (6 * k + 3)) (xs (6 * k + 4)) (xs (6 * k + 5))).1), .int ((f_x_begin nt G TT (xs (6 * k + 1)) (xs (6 * k + 2)) (xs (6 * k + 3)) (xs (6 * k + 4)) (xs (6 * k + 5))).1)]) rfl ?_
  obtain ⟨e1, e3⟩ := e_begin hI (xs (6 * k + 1)) (xs (6 * k + 2)) (xs (6 * k + 3)) (xs (6 * k + 4)) (xs (6 * k + 5))
  refine lv_icmp_eq (tgt := 613) F.1 F.2.1 d_law_292 (by decide) (fun _ => ?_) (fun h => absurd e1 h)
  exact W.widen (k := cells + 2) (n := slots + 51) (Nat.le_add_right _ _) (Nat.le_add_right _ _) (kk H2 locs2 ⟨cn, nt, ad, _, _, vp, vh, vk, vb, vg, (f_m_begin (nI cn) vh (nI nt) vg vo vd vu vw vs va vq vf (xs (6 * k + 1)) (xs (6 * k + 2)) (xs (6 * k + 3)) (xs (6 * k + 4)) (xs (6 * k + 5))).2.1, vf, (f_m_begin (nI cn) vh (nI nt) vg vo vd vu vw vs va vq vf (xs (6 * k + 1)) (xs (6 * k + 2)) (xs (6 * k + 3)) (xs (6 * k + 4)) (xs (6 * k + 5))).2.2.1, (f_m_begin (nI cn) vh (nI nt) vg vo vd vu vw vs va vq vf (xs (6 * k + 1)) (xs (6 * k + 2)) (xs (6 * k + 3)) (xs (6 * k + 4)) (xs (6 * k + 5))).2.2.2.1, (f_m_begin (nI cn) vh (nI nt) vg vo vd vu vw vs va vq vf (xs (6 * k + 1)) (xs (6 * k + 2)) (xs (6 * k + 3)) (xs (6 * k + 4)) (xs (6 * k + 5))).2.2.2.2.1, (f_m_begin (nI cn) vh (nI nt) vg vo vd vu vw vs va vq vf (xs (6 * k + 1)) (xs (6 * k + 2)) (xs (6 * k + 3)) (xs (6 * k + 4)) (xs (6 * k + 5))).2.2.2.2.2.1, vx, (f_m_begin (nI cn) vh (nI nt) vg vo vd vu vw vs va vq vf (xs (6 * k + 1)) (xs (6 * k + 2)) (xs (6 * k + 3)) (xs (6 * k + 4)) (xs (6 * k + 5))).2.2.2.2.2.2, vq, rfl, hx5, hPm, hinj, hz, hdj, e3⟩ hS)
set_option maxHeartbeats 4000000 in
set_option maxRecDepth 100000 in
theorem law_stop {p : Program} {l : Launch} {e : Env} {s : State} {m : MethodId} {args : Array Value} {below : List Frame} {meth : Method} {c : Code} {H : Heap} {locs : List Loc} {cells slots : Nat} {Q : State → Prop} {ls : Array Slot} {b L k ax : Nat} {xs : Nat → Int32} {D : va_G} {cA : Nat → ClassId} {qz : Nat → Nat} (C : LC p s m meth c args b L xs D cA qz) (hk : 6 * k + 6 ≤ L) (hl : lv_has ls 4 (lz b ax (qz 0) k)) (hS : va_S (fun q => s.heap.size ≤ q) s.heap H locs) (hc : cells ≤ 599000 ∧ slots ≤ 7300000) (hW : LW D cA s.heap.size ax qz H)
    (kk : ∀ (H1 : Heap) (locs1 : List Loc), LW D cA s.heap.size ax qz H1 → va_S (fun q => s.heap.size ≤ q) s.heap H1 locs1 → W p l e room_1 s m args below meth c H1 locs1 (cells + 2) (slots + 51) Q (F0 m 613 ls [])) : W p l e room_1 s m args below meth c H locs cells slots Q (F0 m 297 ls []) := by
  obtain ⟨F, hK, hX, hbl, hL, hM1, hM2⟩ := C
  obtain ⟨cn, nt, ad, G, TT, vp, vh, vk, vb, vg, vo, vf, vd, vu, vw, vs, vx, va, vq, rfl, hx5, hPm, hinj, hz, hdj, hI⟩ := id hW
  have hcr : cells ≤ room_1.cells ∧ slots ≤ room_1.slots := ⟨Nat.le_trans hc.1 (Nat.le_of_ble_eq_true rfl), Nat.le_trans hc.2 (Nat.le_of_ble_eq_true rfl)⟩
  have hMz : ∀ q, oM qz q → s.heap.size ≤ q := fun q h => by obtain ⟨i, hi, rfl⟩ := h; exact hM2 i hi
  refine lv_aload_n F.1 F.2.1 d_law_297 rfl (lv_at hl 2 rfl) ?_
  refine law_ld F hX hbl hS hl hk hL 1 (by decide) rfl dl_law_298 ?_
  refine mu_G (As := [.int (xs (6 * k + 1))]) (rest := []) (q0 := 0) F hK (c_x_stop l D cA ad nt G TT (xs (6 * k + 1)) hI.1 cn hI.2.1.1 hI.2.1.2.1 hinj) hx5 hx5.1 rfl rfl rfl kc_x_stop km_w_38 ki_x ks_x_stop ke_x_stop rfl ok_x_stop ⟨Nat.le_of_ble_eq_true rfl, Nat.le_of_ble_eq_true rfl⟩ hcr hl.1 rfl (Nat.le_of_ble_eq_true rfl) d_law_303 hS hz (fun v1 H1 locs1 hv1 hs1 hk1 hS => ?_)
  obtain ⟨rfl, hx5⟩ := hv1
  have hPm := cz_keep hPm (fun q h1 h2 => hdj q h2 h1) hk1
  refine W.eq (g2 := F0 m 306 ls [.int (bz (f_x_stop nt G TT (xs (6 * k + 1))).1)]) rfl ?_
  refine lv_aload_n F.1 F.2.1 d_law_306 rfl (lv_at hl 1 rfl) ?_
  refine law_ld F hX hbl hS hl hk hL 1 (by decide) rfl dl_law_307 ?_
  refine mu_G (As := [.int (xs (6 * k + 1))]) (rest := [.int (bz (f_x_stop nt G TT (xs (6 * k + 1))).1)]) (q0 := 0) F hK (c_m_stop l D cA (qz 0) (qz 1) (qz 2) (qz 3) (qz 4) (qz 5) (qz 6) (qz 7) (qz 8) (qz 9) (qz 10) (qz 11) (qz 12) (qz 13) (qz 14) (nI cn) vp vh vk vb (nI nt) vg vo vd vu vw vs vx va vq vf (xs (6 * k + 1)) cn hI.2.1.1 rfl nt hI.1 rfl (hva_of hI)) ⟨hPm, cz_d hM1⟩ hPm rfl rfl rfl kc_m_stop km_w_42 ki_m ks_m_stop ke_m_stop rfl ok_m_stop ⟨Nat.le_of_ble_eq_true rfl, Nat.le_of_ble_eq_true rfl⟩ hcr hl.1 rfl (Nat.le_of_ble_eq_true rfl) d_law_312 hS (fun q h => hMz q (cz_o h)) (fun v2 H2 locs2 hv2 hs2 hk2 hS => ?_)
  obtain ⟨rfl, hPm, -⟩ := hv2
  have hPm : va_P D classes (cM cA qz (nI cn) vp vh vk vb (nI nt) vg ((f_m_stop (nI nt) vo (xs (6 * k + 1))).2) vd vu vw vs vx va vq vf) H2 := hPm
  have hx5 := wx_keep2 hx5 (fun q hq h => hdj q hq (cz_o h)) hk2
  refine W.eq (g2 := F0 m 315 ls [.int (bz (f_m_stop (nI nt) vo (xs (6 * k + 1))).1), .int (bz (f_x_stop nt G TT (xs (6 * k + 1))).1)]) rfl ?_
  obtain ⟨e1, e3⟩ := e_stop hI (xs (6 * k + 1))
  refine lv_icmp_eq (tgt := 613) F.1 F.2.1 d_law_315 (by decide) (fun _ => ?_) (fun h => absurd (congrArg bz e1) h)
  exact W.widen (k := cells + 2) (n := slots + 51) (Nat.le_add_right _ _) (Nat.le_add_right _ _) (kk H2 locs2 ⟨cn, nt, ad, _, _, vp, vh, vk, vb, vg, (f_m_stop (nI nt) vo (xs (6 * k + 1))).2, vf, vd, vu, vw, vs, vx, va, vq, rfl, hx5, hPm, hinj, hz, hdj, e3⟩ hS)
set_option maxHeartbeats 4000000 in
set_option maxRecDepth 100000 in
theorem law_state {p : Program} {l : Launch} {e : Env} {s : State} {m : MethodId} {args : Array Value} {below : List Frame} {meth : Method} {c : Code} {H : Heap} {locs : List Loc} {cells slots : Nat} {Q : State → Prop} {ls : Array Slot} {b L k ax : Nat} {xs : Nat → Int32} {D : va_G} {cA : Nat → ClassId} {qz : Nat → Nat} (C : LC p s m meth c args b L xs D cA qz) (hk : 6 * k + 6 ≤ L) (hl : lv_has ls 4 (lz b ax (qz 0) k)) (hS : va_S (fun q => s.heap.size ≤ q) s.heap H locs) (hc : cells ≤ 599000 ∧ slots ≤ 7300000) (hW : LW D cA s.heap.size ax qz H)
    (kk : ∀ (H1 : Heap) (locs1 : List Loc), LW D cA s.heap.size ax qz H1 → va_S (fun q => s.heap.size ≤ q) s.heap H1 locs1 → W p l e room_1 s m args below meth c H1 locs1 (cells + 2) (slots + 51) Q (F0 m 613 ls [])) : W p l e room_1 s m args below meth c H locs cells slots Q (F0 m 320 ls []) := by
  obtain ⟨F, hK, hX, hbl, hL, hM1, hM2⟩ := C
  obtain ⟨cn, nt, ad, G, TT, vp, vh, vk, vb, vg, vo, vf, vd, vu, vw, vs, vx, va, vq, rfl, hx5, hPm, hinj, hz, hdj, hI⟩ := id hW
  have hcr : cells ≤ room_1.cells ∧ slots ≤ room_1.slots := ⟨Nat.le_trans hc.1 (Nat.le_of_ble_eq_true rfl), Nat.le_trans hc.2 (Nat.le_of_ble_eq_true rfl)⟩
  refine lv_aload_n F.1 F.2.1 d_law_320 rfl (lv_at hl 2 rfl) ?_
  refine law_ld F hX hbl hS hl hk hL 1 (by decide) rfl dl_law_321 ?_
  refine ro_V (v := .int (f_x_state nt G TT (xs (6 * k + 1)))) (As := [.int (xs (6 * k + 1))]) (rest := []) (q0 := 0) F hK (c_x_state l D cA ad nt G TT (xs (6 * k + 1)) hI.1 cn hI.2.1.1 hI.2.1.2.1) hx5 hx5.1 rfl rfl rfl kc_x_state km_w_43 ki_x ks_x_state ke_x_state rfl ok_x_state ⟨Nat.le_of_ble_eq_true rfl, Nat.le_of_ble_eq_true rfl⟩ hcr hl.1 rfl (Nat.le_of_ble_eq_true rfl) d_law_326 ?_
  refine lv_aload_n F.1 F.2.1 d_law_329 rfl (lv_at hl 1 rfl) ?_
  refine law_ld F hX hbl hS hl hk hL 1 (by decide) rfl dl_law_330 ?_
  refine ro_V (v := .int (f_m_state (nI cn) vh vk vb (nI nt) vg vo vd vu vw vs va vq vf (xs (6 * k + 1)))) (As := [.int (xs (6 * k + 1))]) (rest := [.int (f_x_state nt G TT (xs (6 * k + 1)))]) (q0 := 0) F hK (c_m_state l D cA (qz 0) (qz 1) (qz 2) (qz 3) (qz 4) (qz 5) (qz 6) (qz 7) (qz 8) (qz 9) (qz 10) (qz 11) (qz 12) (qz 13) (qz 14) (nI cn) vp vh vk vb (nI nt) vg vo vd vu vw vs vx va vq vf (xs (6 * k + 1)) cn hI.2.1.1 rfl nt hI.1 rfl (hva_of hI)) hPm hPm rfl rfl rfl kc_m_state km_w_47 ki_m ks_m_state ke_m_state rfl ok_m_state ⟨Nat.le_of_ble_eq_true rfl, Nat.le_of_ble_eq_true rfl⟩ hcr hl.1 rfl (Nat.le_of_ble_eq_true rfl) d_law_335 ?_
  refine lv_icmp_eq (tgt := 613) F.1 F.2.1 d_law_338 (by decide) (fun _ => ?_) (fun h => absurd (e_state hI (xs (6 * k + 1))) h)
  exact W.widen (k := cells + 2) (n := slots + 51) (Nat.le_add_right _ _) (Nat.le_add_right _ _) (kk H locs hW hS)
set_option maxHeartbeats 4000000 in
set_option maxRecDepth 100000 in
theorem law_next {p : Program} {l : Launch} {e : Env} {s : State} {m : MethodId} {args : Array Value} {below : List Frame} {meth : Method} {c : Code} {H : Heap} {locs : List Loc} {cells slots : Nat} {Q : State → Prop} {ls : Array Slot} {b L k ax : Nat} {xs : Nat → Int32} {D : va_G} {cA : Nat → ClassId} {qz : Nat → Nat} (C : LC p s m meth c args b L xs D cA qz) (hk : 6 * k + 6 ≤ L) (hl : lv_has ls 4 (lz b ax (qz 0) k)) (hS : va_S (fun q => s.heap.size ≤ q) s.heap H locs) (hc : cells ≤ 599000 ∧ slots ≤ 7300000) (hW : LW D cA s.heap.size ax qz H)
    (kk : ∀ (H1 : Heap) (locs1 : List Loc), LW D cA s.heap.size ax qz H1 → va_S (fun q => s.heap.size ≤ q) s.heap H1 locs1 → W p l e room_1 s m args below meth c H1 locs1 (cells + 2) (slots + 51) Q (F0 m 613 ls [])) : W p l e room_1 s m args below meth c H locs cells slots Q (F0 m 343 ls []) := by
  obtain ⟨F, hK, hX, hbl, hL, hM1, hM2⟩ := C
  obtain ⟨cn, nt, ad, G, TT, vp, vh, vk, vb, vg, vo, vf, vd, vu, vw, vs, vx, va, vq, rfl, hx5, hPm, hinj, hz, hdj, hI⟩ := id hW
  have hcr : cells ≤ room_1.cells ∧ slots ≤ room_1.slots := ⟨Nat.le_trans hc.1 (Nat.le_of_ble_eq_true rfl), Nat.le_trans hc.2 (Nat.le_of_ble_eq_true rfl)⟩
  refine lv_aload_n F.1 F.2.1 d_law_343 rfl (lv_at hl 2 rfl) ?_
  refine law_ld F hX hbl hS hl hk hL 1 (by decide) rfl dl_law_344 ?_
  refine ro_V (v := .int (f_x_next nt G TT (xs (6 * k + 1)))) (As := [.int (xs (6 * k + 1))]) (rest := []) (q0 := 0) F hK (c_x_next l D cA ad nt G TT (xs (6 * k + 1)) hI.1 cn hI.2.1.1 hI.2.1.2.1) hx5 hx5.1 rfl rfl rfl kc_x_next km_w_48 ki_x ks_x_next ke_x_next rfl ok_x_next ⟨Nat.le_of_ble_eq_true rfl, Nat.le_of_ble_eq_true rfl⟩ hcr hl.1 rfl (Nat.le_of_ble_eq_true rfl) d_law_349 ?_
  refine lv_aload_n F.1 F.2.1 d_law_352 rfl (lv_at hl 1 rfl) ?_
  refine law_ld F hX hbl hS hl hk hL 1 (by decide) rfl dl_law_353 ?_
  refine ro_V (v := .int (f_m_next (nI cn) vh vk vb (nI nt) vg vo vd vu vw vs va vq vf (xs (6 * k + 1)))) (As := [.int (xs (6 * k + 1))]) (rest := [.int (f_x_next nt G TT (xs (6 * k + 1)))]) (q0 := 0) F hK (c_m_next l D cA (qz 0) (qz 1) (qz 2) (qz 3) (qz 4) (qz 5) (qz 6) (qz 7) (qz 8) (qz 9) (qz 10) (qz 11) (qz 12) (qz 13) (qz 14) (nI cn) vp vh vk vb (nI nt) vg vo vd vu vw vs vx va vq vf (xs (6 * k + 1)) cn hI.2.1.1 rfl nt hI.1 rfl (hva_of hI)) hPm hPm rfl rfl rfl kc_m_next km_w_51 ki_m ks_m_next ke_m_next rfl ok_m_next ⟨Nat.le_of_ble_eq_true rfl, Nat.le_of_ble_eq_true rfl⟩ hcr hl.1 rfl (Nat.le_of_ble_eq_true rfl) d_law_358 ?_
  refine lv_icmp_eq (tgt := 613) F.1 F.2.1 d_law_361 (by decide) (fun _ => ?_) (fun h => absurd (e_next hI (xs (6 * k + 1))) h)
  exact W.widen (k := cells + 2) (n := slots + 51) (Nat.le_add_right _ _) (Nat.le_add_right _ _) (kk H locs hW hS)
