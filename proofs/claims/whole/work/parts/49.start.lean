theorem ao_mem : Cond.arrayOver (.object "CulpritSearch$Target") ∈ lw_tbl := List.mem_of_getElem? (i := 52) (by decide +kernel)
theorem inv_0 : INV 0 0 (fun _ => 0, fun _ => 0, 0, 0, 0) (fun _ => (0, 0, false, 0, 0, 0, 0, 0, 0, fun _ => 0)) (fun _ => 0) (fun _ => false) (fun _ => false) (fun _ => false) (fun _ => false) (fun _ => false) (fun _ => false) (fun _ => 0) (fun _ => 0) (fun _ => 0) (fun _ => 0) (fun _ => 0) (fun _ => 0) (fun _ => 0) := by
  refine ⟨by decide, ⟨by decide, rfl, fun i h => absurd h (Nat.not_lt_zero _), fun i h => absurd h (Nat.not_lt_zero _), fun i h => absurd h (Nat.not_lt_zero _), fun i h => absurd h (Nat.not_lt_zero _), fun i h => absurd h (Nat.not_lt_zero _), fun i h => absurd h (Nat.not_lt_zero _), fun j _ => bt_0 j, fun j _ => bt_0 j, fun j _ h => (by cases h), fun j _ => bt_0 j⟩, fun t h => absurd h (Nat.not_lt_zero _), fun t _ _ => ⟨fun _ _ => rfl, rfl, rfl, rfl⟩⟩
/-- what the tables say at the start -/
theorem kk_start {s : State} {args : Array Value} (hw : ∀ w ∈ lw_tbl, w.before args s = true) (hts : ∀ w ∈ tb, w.before args s = true) : ∃ (D : va_G) (cA : Nat → ClassId), KK D cA s := by
  obtain ⟨c0, i0, k0⟩ := u_known hts i_x (hts _ kz_x)
  obtain ⟨c1, i1, k1⟩ := u_known hts i_g (hts _ kz_g)
  obtain ⟨c2, i2, k2⟩ := u_known hts i_t (hts _ kz_t)
  obtain ⟨c3, i3, k3⟩ := u_known hts i_m (hts _ kz_m)
  obtain ⟨a0, x0, y0, f0, g0, h0⟩ := Cond.arrayClass_spec (hts _ ka_long)
  obtain ⟨y1, a1, x1, e1, _, g1, h1, f1⟩ := Cond.arrayOver_spec (hw _ ao_mem)
  obtain ⟨a2, x2, y2, f2, g2, h2⟩ := Cond.arrayClass_spec (hts _ ka_int)
  obtain ⟨a3, x3, y3, f3, g3, h3⟩ := Cond.arrayClass_spec (hts _ ka_boolean)
  refine ⟨(fun c => match c with | 0 => c0 | 1 => c1 | 2 => c2 | _ => c3, fun c => match c with | 0 => i0 | 1 => i1 | 2 => i2 | _ => i3), fun c => match c with | 0 => a0 | 1 => a1 | 2 => a2 | _ => a3, ⟨fun c q hq => ?_, fun c q hq => ?_⟩, fun w h => va_Nw.of (nb_on (List.mem_filter.mp h).2) (hw w (List.mem_filter.mp h).1), fun C hC => ?_⟩
  · match c, hq with
    | 0, hq => cases hq; exact k0
    | 1, hq => cases hq; exact k1
    | 2, hq => cases hq; exact k2
    | 3, hq => cases hq; exact k3
    | c + 4, hq => simp at hq
  · match c, hq with
    | 0, hq => cases hq; exact ⟨fun N z => ⟨(fun k h => by cases h), x0, g0, y0, h0⟩, f0⟩
    | 1, hq => cases hq; exact ⟨fun N z => ⟨(fun k h => by cases h), x1, g1, y1, h1⟩, x1, y1, g1, h1, e1, f1⟩
    | 2, hq => cases hq; exact ⟨fun N z => ⟨(fun k h => by cases h), x2, g2, y2, h2⟩, f2⟩
    | 3, hq => cases hq; exact ⟨fun N z => ⟨(fun k h => by cases h), x3, g3, y3, h3⟩, f3⟩
    | c + 4, hq => simp at hq
  · rcases List.mem_cons.mp hC with rfl | h
    · exact va_AO.of (hw _ ao_mem)
    · cases h
set_option maxHeartbeats 4000000 in
set_option maxRecDepth 100000 in
theorem whole_start {p : Program} {e : Env} {s : State} {m : MethodId} {below : List Frame} {meth : Method} {c : Code} (l : Launch) {b L : Nat} {xs : Nat → Int32} (hL : L ≤ 3072) (C0 : lw_At p s m meth c b L xs) : W p l e room_1 s m #[Value.ref b] below meth c s.heap [] 0 0 (lw_Z below #[Value.ref b] s) (entryFrame m ([Value.ref b] : List Value).toArray 4) := by
  obtain ⟨hx, hb, hr, hml, hown, hw, hX, hbl, hlk, hgv⟩ := C0
  have hts : ∀ w ∈ tb, w.before #[Value.ref b] s = true := fun w h => hw w (List.mem_filter.mp h).1
  have FX : FX p s m meth c #[Value.ref b] y_law code 4 ret := ⟨hx, hb, hml, hown, hts, hr, hlk⟩
  have hown : s.vm.findClass "CulpritSearchLaw" = some m.cls := hown
  obtain ⟨D, cA, hK⟩ := kk_start hw hts
  obtain ⟨A, hAe⟩ : ∃ A : Nat → Prop, A = fun q => s.heap.size ≤ q := ⟨_, rfl⟩
  have hA : ∀ q : Nat, s.heap.size ≤ q → A q := fun q h => by rw [hAe]; exact h
  have hP : va_P D classes [] s.heap := fun k q h => by simp at h
  have hD : va_D A [] := ⟨fun i j p q h => by simp at h, fun k q h => by simp at h⟩
  have hS : va_S A s.heap s.heap [] := va_S.rf
  have hl := lv_entry [Value.ref b] (n := 4) (Nat.le_of_ble_eq_true rfl)
  rw [lg_entry_eq]
  generalize (lg_sl [Value.ref b] ++ List.replicate (4 - (lg_sl [Value.ref b]).length) Slot.unset).toArray = ls at hl ⊢
  have hl : lv_has ls 4 [(0, .ref b)] := hl
  have hz : ([Value.ref b] : List Value).toArray = #[Value.ref b] := rfl
  refine va_new (ci := 0) (fs := [.null, .null, .int 0]) hx hb hts i_x t_x t_x_ok hown (hts _ kk_w_7) (hts _ kz_x) (hts _ ki_x) hK.1 hP hD hS hA rfl (fun j hj => by rcases (show j = 0 ∨ j = 1 ∨ j = 2 by omega) with rfl | rfl | rfl <;> rfl) (Nat.le_of_ble_eq_true rfl) (Nat.le_of_ble_eq_true rfl) d_law_0 (fun q1 H hP hD hS => ?_)
  have hP : va_P D classes [(q1, .inr (0, [.null, .null, .int 0]))] H := hP
  have hD : va_D A [(q1, .inr (0, [.null, .null, .int 0]))] := hD
  refine lv_dup hx hb d_law_3 rfl ?_
  have hFc := va_free (wc := [(q1, .inr (0, [.null, .null, .int 0]))]) hD hS hA [0] rfl
  refine al_I (As := []) (rest := [.ref q1]) FX hK (c_x_init l D cA q1 H.size) (hP.sub [0] rfl) (hD.sub [0] (by decide) rfl) kc_x_init km_w_9 ki_x ks_x_init rfl rfl ok_x_init ⟨Nat.le_of_ble_eq_true rfl, Nat.le_of_ble_eq_true rfl⟩ ⟨Nat.le_of_ble_eq_true rfl, Nat.le_of_ble_eq_true rfl⟩ hl.1 rfl (Nat.le_of_ble_eq_true rfl) d_law_4 hS hFc (fun v0 H1 locs hv0 hz0 hk0 hS => ?_)
  obtain ⟨rfl, q2, q3, q4, q5, hP1, hD1⟩ := hv0
  obtain ⟨hP, hD⟩ := va_join (wr := []) (w1 := [(q1, .inr (0, [.ref q3, .ref q2, .int 0])), (q2, .inl (cA 1, 4, .inr (.inr (.inr (.inr (fun _ => none)))))), (q3, .inr (1, [.ref q4, .ref q5, .int 0, .long 0, .long 0])), (q4, .inl (cA 0, 40, .inr (.inl (fun _ => 0)))), (q5, .inl (cA 0, 40, .inr (.inl (fun _ => 0))))]) hP hD [0] [] rfl rfl (by decide) (by decide) hk0 hFc hP1 hD1
  have hP : va_P D classes [(q1, .inr (0, [.ref q3, .ref q2, .int 0])), (q2, .inl (cA 1, 4, .inr (.inr (.inr (.inr (fun _ => none)))))), (q3, .inr (1, [.ref q4, .ref q5, .int 0, .long 0, .long 0])), (q4, .inl (cA 0, 40, .inr (.inl (fun _ => 0)))), (q5, .inl (cA 0, 40, .inr (.inl (fun _ => 0))))] H1 := hP
  have hD : va_D A [(q1, .inr (0, [.ref q3, .ref q2, .int 0])), (q2, .inl (cA 1, 4, .inr (.inr (.inr (.inr (fun _ => none)))))), (q3, .inr (1, [.ref q4, .ref q5, .int 0, .long 0, .long 0])), (q4, .inl (cA 0, 40, .inr (.inl (fun _ => 0)))), (q5, .inl (cA 0, 40, .inr (.inl (fun _ => 0))))] := hD
  generalize H1 = H at hP hS ⊢
  refine W.eq (g2 := F0 m 7 ls [.ref q1]) rfl ?_
  refine lv_astore_n (lv' := [(1, .ref q1), (0, .ref b)]) hx hb d_law_7 rfl hl (by decide) rfl (fun ls hl => ?_)
  refine va_new (ci := 3) (fs := [.int 0, .null, .null, .null, .null, .int 0, .null, .null, .null, .null, .null, .null, .null, .null, .null, .null]) hx hb hts i_m t_m t_m_ok hown (hts _ kk_w_10) (hts _ kz_m) (hts _ ki_m) hK.1 hP hD hS hA rfl (fun j hj => by rcases (show j = 0 ∨ j = 1 ∨ j = 2 ∨ j = 3 ∨ j = 4 ∨ j = 5 ∨ j = 6 ∨ j = 7 ∨ j = 8 ∨ j = 9 ∨ j = 10 ∨ j = 11 ∨ j = 12 ∨ j = 13 ∨ j = 14 ∨ j = 15 by omega) with rfl | rfl | rfl | rfl | rfl | rfl | rfl | rfl | rfl | rfl | rfl | rfl | rfl | rfl | rfl | rfl <;> rfl) (Nat.le_of_ble_eq_true rfl) (Nat.le_of_ble_eq_true rfl) d_law_8 (fun q6 H hP hD hS => ?_)
  have hP : va_P D classes [(q1, .inr (0, [.ref q3, .ref q2, .int 0])), (q2, .inl (cA 1, 4, .inr (.inr (.inr (.inr (fun _ => none)))))), (q3, .inr (1, [.ref q4, .ref q5, .int 0, .long 0, .long 0])), (q4, .inl (cA 0, 40, .inr (.inl (fun _ => 0)))), (q5, .inl (cA 0, 40, .inr (.inl (fun _ => 0)))), (q6, .inr (3, [.int 0, .null, .null, .null, .null, .int 0, .null, .null, .null, .null, .null, .null, .null, .null, .null, .null]))] H := hP
  have hD : va_D A [(q1, .inr (0, [.ref q3, .ref q2, .int 0])), (q2, .inl (cA 1, 4, .inr (.inr (.inr (.inr (fun _ => none)))))), (q3, .inr (1, [.ref q4, .ref q5, .int 0, .long 0, .long 0])), (q4, .inl (cA 0, 40, .inr (.inl (fun _ => 0)))), (q5, .inl (cA 0, 40, .inr (.inl (fun _ => 0)))), (q6, .inr (3, [.int 0, .null, .null, .null, .null, .int 0, .null, .null, .null, .null, .null, .null, .null, .null, .null, .null]))] := hD
  refine lv_dup hx hb d_law_11 rfl ?_
  have hFc := va_free (wc := [(q6, .inr (3, [.int 0, .null, .null, .null, .null, .int 0, .null, .null, .null, .null, .null, .null, .null, .null, .null, .null]))]) hD hS hA [5] rfl
  refine al_I (As := []) (rest := [.ref q6]) FX hK (c_m_init l D cA q6 H.size) (hP.sub [5] rfl) (hD.sub [5] (by decide) rfl) kc_m_init km_w_12 ki_m ks_m_init rfl rfl ok_m_init ⟨Nat.le_of_ble_eq_true rfl, Nat.le_of_ble_eq_true rfl⟩ ⟨Nat.le_of_ble_eq_true rfl, Nat.le_of_ble_eq_true rfl⟩ hl.1 rfl (Nat.le_of_ble_eq_true rfl) d_law_12 hS hFc (fun v0 H1 locs hv0 hz0 hk0 hS => ?_)
  obtain ⟨rfl, q7, q8, q9, q10, q11, q12, q13, q14, q15, q16, q17, q18, q19, q20, hP1, hD1⟩ := hv0
  obtain ⟨hP, hD⟩ := va_join (wr := [(q1, .inr (0, [.ref q3, .ref q2, .int 0])), (q2, .inl (cA 1, 4, .inr (.inr (.inr (.inr (fun _ => none)))))), (q3, .inr (1, [.ref q4, .ref q5, .int 0, .long 0, .long 0])), (q4, .inl (cA 0, 40, .inr (.inl (fun _ => 0)))), (q5, .inl (cA 0, 40, .inr (.inl (fun _ => 0))))]) (w1 := [(q6, .inr (3, [.int 0, .ref q7, .ref q8, .ref q9, .ref q10, .int 0, .ref q11, .ref q12, .ref q13, .ref q14, .ref q15, .ref q16, .ref q17, .ref q18, .ref q19, .ref q20])), (q7, .inl (cA 2, 120, .inl (fun _ => 0))), (q8, .inl (cA 3, 1600, .inl (fun i => bz ((fun _ => false) i)))), (q9, .inl (cA 3, 40, .inl (fun i => bz ((fun _ => false) i)))), (q10, .inl (cA 3, 40, .inl (fun i => bz ((fun _ => false) i)))), (q11, .inl (cA 3, 160, .inl (fun i => bz ((fun _ => false) i)))), (q12, .inl (cA 3, 4, .inl (fun i => bz ((fun _ => false) i)))), (q13, .inl (cA 2, 4, .inl (fun _ => 0))), (q14, .inl (cA 2, 4, .inl (fun _ => 0))), (q15, .inl (cA 2, 4, .inl (fun _ => 0))), (q16, .inl (cA 2, 4, .inl (fun _ => 0))), (q17, .inl (cA 2, 4, .inl (fun _ => 0))), (q18, .inl (cA 2, 4, .inl (fun _ => 0))), (q19, .inl (cA 2, 60, .inl (fun _ => 0))), (q20, .inl (cA 3, 60, .inl (fun i => bz ((fun _ => false) i))))]) hP hD [5] [0, 1, 2, 3, 4] rfl rfl (by decide) (by decide) hk0 hFc hP1 hD1
  have hP : va_P D classes [(q1, .inr (0, [.ref q3, .ref q2, .int 0])), (q2, .inl (cA 1, 4, .inr (.inr (.inr (.inr (fun _ => none)))))), (q3, .inr (1, [.ref q4, .ref q5, .int 0, .long 0, .long 0])), (q4, .inl (cA 0, 40, .inr (.inl (fun _ => 0)))), (q5, .inl (cA 0, 40, .inr (.inl (fun _ => 0)))), (q6, .inr (3, [.int 0, .ref q7, .ref q8, .ref q9, .ref q10, .int 0, .ref q11, .ref q12, .ref q13, .ref q14, .ref q15, .ref q16, .ref q17, .ref q18, .ref q19, .ref q20])), (q7, .inl (cA 2, 120, .inl (fun _ => 0))), (q8, .inl (cA 3, 1600, .inl (fun i => bz ((fun _ => false) i)))), (q9, .inl (cA 3, 40, .inl (fun i => bz ((fun _ => false) i)))), (q10, .inl (cA 3, 40, .inl (fun i => bz ((fun _ => false) i)))), (q11, .inl (cA 3, 160, .inl (fun i => bz ((fun _ => false) i)))), (q12, .inl (cA 3, 4, .inl (fun i => bz ((fun _ => false) i)))), (q13, .inl (cA 2, 4, .inl (fun _ => 0))), (q14, .inl (cA 2, 4, .inl (fun _ => 0))), (q15, .inl (cA 2, 4, .inl (fun _ => 0))), (q16, .inl (cA 2, 4, .inl (fun _ => 0))), (q17, .inl (cA 2, 4, .inl (fun _ => 0))), (q18, .inl (cA 2, 4, .inl (fun _ => 0))), (q19, .inl (cA 2, 60, .inl (fun _ => 0))), (q20, .inl (cA 3, 60, .inl (fun i => bz ((fun _ => false) i))))] H1 := hP
  have hD : va_D A [(q1, .inr (0, [.ref q3, .ref q2, .int 0])), (q2, .inl (cA 1, 4, .inr (.inr (.inr (.inr (fun _ => none)))))), (q3, .inr (1, [.ref q4, .ref q5, .int 0, .long 0, .long 0])), (q4, .inl (cA 0, 40, .inr (.inl (fun _ => 0)))), (q5, .inl (cA 0, 40, .inr (.inl (fun _ => 0)))), (q6, .inr (3, [.int 0, .ref q7, .ref q8, .ref q9, .ref q10, .int 0, .ref q11, .ref q12, .ref q13, .ref q14, .ref q15, .ref q16, .ref q17, .ref q18, .ref q19, .ref q20])), (q7, .inl (cA 2, 120, .inl (fun _ => 0))), (q8, .inl (cA 3, 1600, .inl (fun i => bz ((fun _ => false) i)))), (q9, .inl (cA 3, 40, .inl (fun i => bz ((fun _ => false) i)))), (q10, .inl (cA 3, 40, .inl (fun i => bz ((fun _ => false) i)))), (q11, .inl (cA 3, 160, .inl (fun i => bz ((fun _ => false) i)))), (q12, .inl (cA 3, 4, .inl (fun i => bz ((fun _ => false) i)))), (q13, .inl (cA 2, 4, .inl (fun _ => 0))), (q14, .inl (cA 2, 4, .inl (fun _ => 0))), (q15, .inl (cA 2, 4, .inl (fun _ => 0))), (q16, .inl (cA 2, 4, .inl (fun _ => 0))), (q17, .inl (cA 2, 4, .inl (fun _ => 0))), (q18, .inl (cA 2, 4, .inl (fun _ => 0))), (q19, .inl (cA 2, 60, .inl (fun _ => 0))), (q20, .inl (cA 3, 60, .inl (fun i => bz ((fun _ => false) i))))] := hD
  generalize H1 = H at hP hS ⊢
  refine W.eq (g2 := F0 m 15 ls [.ref q6]) rfl ?_
  refine lv_astore_n (lv' := [(2, .ref q6), (1, .ref q1), (0, .ref b)]) hx hb d_law_15 rfl hl (by decide) rfl (fun ls hl => ?_)
  refine lv_iconst (v := 0) hx hb d_law_16 (by decide) ?_
  refine lv_istore_n (lv' := [(3, .int 0), (2, .ref q6), (1, .ref q1), (0, .ref b)]) hx hb d_law_17 rfl hl (by decide) rfl (fun ls hl => ?_)
  refine W.widen (k := 20 + 2 * 0) (n := 2216 + 51 * 0) (Nat.le_of_ble_eq_true rfl) (Nat.le_of_ble_eq_true rfl) ?_
  obtain ⟨ad, had⟩ : ∃ ad : Nat → Nat, ad = fun i => match i with | 0 => q1 | 1 => q2 | 2 => q3 | 3 => q4 | _ => q5 := ⟨_, rfl⟩
  obtain ⟨qz, hqz⟩ : ∃ qz : Nat → Nat, qz = fun i => match i with | 0 => q6 | 1 => q7 | 2 => q8 | 3 => q9 | 4 => q10 | 5 => q11 | 6 => q12 | 7 => q13 | 8 => q14 | 9 => q15 | 10 => q16 | 11 => q17 | 12 => q18 | 13 => q19 | _ => q20 := ⟨_, rfl⟩
  have hiM : ∀ i, i < 15 → ∃ e, ([(q1, .inr (0, [.ref q3, .ref q2, .int 0])), (q2, .inl (cA 1, 4, .inr (.inr (.inr (.inr (fun _ => none)))))), (q3, .inr (1, [.ref q4, .ref q5, .int 0, .long 0, .long 0])), (q4, .inl (cA 0, 40, .inr (.inl (fun _ => 0)))), (q5, .inl (cA 0, 40, .inr (.inl (fun _ => 0)))), (q6, .inr (3, [.int 0, .ref q7, .ref q8, .ref q9, .ref q10, .int 0, .ref q11, .ref q12, .ref q13, .ref q14, .ref q15, .ref q16, .ref q17, .ref q18, .ref q19, .ref q20])), (q7, .inl (cA 2, 120, .inl (fun _ => 0))), (q8, .inl (cA 3, 1600, .inl (fun i => bz ((fun _ => false) i)))), (q9, .inl (cA 3, 40, .inl (fun i => bz ((fun _ => false) i)))), (q10, .inl (cA 3, 40, .inl (fun i => bz ((fun _ => false) i)))), (q11, .inl (cA 3, 160, .inl (fun i => bz ((fun _ => false) i)))), (q12, .inl (cA 3, 4, .inl (fun i => bz ((fun _ => false) i)))), (q13, .inl (cA 2, 4, .inl (fun _ => 0))), (q14, .inl (cA 2, 4, .inl (fun _ => 0))), (q15, .inl (cA 2, 4, .inl (fun _ => 0))), (q16, .inl (cA 2, 4, .inl (fun _ => 0))), (q17, .inl (cA 2, 4, .inl (fun _ => 0))), (q18, .inl (cA 2, 4, .inl (fun _ => 0))), (q19, .inl (cA 2, 60, .inl (fun _ => 0))), (q20, .inl (cA 3, 60, .inl (fun i => bz ((fun _ => false) i))))] : va_W)[5 + i]? = some (qz i, e) := by
    intro i hi
    subst hqz
    rcases (show i = 0 ∨ i = 1 ∨ i = 2 ∨ i = 3 ∨ i = 4 ∨ i = 5 ∨ i = 6 ∨ i = 7 ∨ i = 8 ∨ i = 9 ∨ i = 10 ∨ i = 11 ∨ i = 12 ∨ i = 13 ∨ i = 14 by omega) with rfl | rfl | rfl | rfl | rfl | rfl | rfl | rfl | rfl | rfl | rfl | rfl | rfl | rfl | rfl <;> exact ⟨_, rfl⟩
  have hiX : ∀ i, i < 5 → ∃ e, ([(q1, .inr (0, [.ref q3, .ref q2, .int 0])), (q2, .inl (cA 1, 4, .inr (.inr (.inr (.inr (fun _ => none)))))), (q3, .inr (1, [.ref q4, .ref q5, .int 0, .long 0, .long 0])), (q4, .inl (cA 0, 40, .inr (.inl (fun _ => 0)))), (q5, .inl (cA 0, 40, .inr (.inl (fun _ => 0)))), (q6, .inr (3, [.int 0, .ref q7, .ref q8, .ref q9, .ref q10, .int 0, .ref q11, .ref q12, .ref q13, .ref q14, .ref q15, .ref q16, .ref q17, .ref q18, .ref q19, .ref q20])), (q7, .inl (cA 2, 120, .inl (fun _ => 0))), (q8, .inl (cA 3, 1600, .inl (fun i => bz ((fun _ => false) i)))), (q9, .inl (cA 3, 40, .inl (fun i => bz ((fun _ => false) i)))), (q10, .inl (cA 3, 40, .inl (fun i => bz ((fun _ => false) i)))), (q11, .inl (cA 3, 160, .inl (fun i => bz ((fun _ => false) i)))), (q12, .inl (cA 3, 4, .inl (fun i => bz ((fun _ => false) i)))), (q13, .inl (cA 2, 4, .inl (fun _ => 0))), (q14, .inl (cA 2, 4, .inl (fun _ => 0))), (q15, .inl (cA 2, 4, .inl (fun _ => 0))), (q16, .inl (cA 2, 4, .inl (fun _ => 0))), (q17, .inl (cA 2, 4, .inl (fun _ => 0))), (q18, .inl (cA 2, 4, .inl (fun _ => 0))), (q19, .inl (cA 2, 60, .inl (fun _ => 0))), (q20, .inl (cA 3, 60, .inl (fun i => bz ((fun _ => false) i))))] : va_W)[0 + i]? = some (ad i, e) := by
    intro i hi
    subst had
    rcases (show i = 0 ∨ i = 1 ∨ i = 2 ∨ i = 3 ∨ i = 4 by omega) with rfl | rfl | rfl | rfl | rfl <;> exact ⟨_, rfl⟩
  have hge : ∀ q, A q → s.heap.size ≤ q := fun q h => by rw [hAe] at h; exact h
  have C : LC p s m meth c #[Value.ref b] b L xs D cA qz := ⟨FX, hK, hX, hbl, hL, inj_of hD 5 hiM, fun i hi => by obtain ⟨e1, h1⟩ := hiM i hi; exact hge _ (hD.2 _ _ h1)⟩
  have hox : ∀ q, ox ad 0 q → ∃ i, i < 5 ∧ q = ad i := fun q h => h
  have hWW : LW D cA s.heap.size q1 qz H := by
    refine ⟨0, 0, ad, (fun _ => 0, fun _ => 0, 0, 0, 0), (fun _ => (0, 0, false, 0, 0, 0, 0, 0, 0, fun _ => 0)), fun _ => 0, fun _ => false, fun _ => false, fun _ => false, fun _ => false, fun _ => false, fun _ => false, fun _ => 0, fun _ => 0, fun _ => 0, fun _ => 0, fun _ => 0, fun _ => 0, fun _ => 0, ?_, ⟨?_, fun j hj => absurd hj (Nat.not_lt_zero _)⟩, ?_, inj_of hD 0 hiX, ?_, ?_, inv_0⟩
    · subst had; rfl
    · have e : tvf ad 0 = fun _ => none := funext fun k => if_neg (Nat.not_lt_zero k)
      unfold cX
      rw [e]
      subst had
      exact hP.sub [0, 1, 2, 3, 4] rfl
    · subst hqz
      exact hP.sub [5, 6, 7, 8, 9, 10, 11, 12, 13, 14, 15, 16, 17, 18, 19] rfl
    · intro q h
      obtain ⟨i, hi, rfl⟩ := hox q h
      obtain ⟨e1, h1⟩ := hiX i hi
      exact hge _ (hD.2 _ _ h1)
    · intro q h h3
      obtain ⟨i, hi, rfl⟩ := hox q h
      obtain ⟨j, hj, e3⟩ := h3
      obtain ⟨e1, h1⟩ := hiX i hi
      obtain ⟨e2, h2⟩ := hiM j hj
      have := hD.1 _ _ _ _ h1 h2 e3
      omega
  subst hAe
  have hl : lv_has ls 4 (lz b q1 (qz 0) 0) := by rw [hqz]; exact hl
  exact law_loop C 513 0 H _ ls (by omega) (by decide) hl hS hWW
set_option maxHeartbeats 4000000 in
theorem lw_walk (l : Launch) (b : Addr) (xs : List Int32) : MetFree l x (headSpec (Jvm.Cond.code x code maxLocals ret :: tables_1) room_1) (lw_P b xs) (fun _ _ _ _ _ => True) lw_Q := by
  refine MetFree.of_bodyS (code := code) (maxLocals := maxLocals) (ret := ret) (by decide) ?_ ?_
  · intro args s m h hn
    obtain ⟨meth, c, h1, h2, h3, h4, h5, h6, -, -⟩ := Cond.code_spec hn (atoms_spec (ws := Jvm.Cond.code x code maxLocals ret :: tables_1) h _ List.mem_cons_self)
    exact ⟨meth, c, h1, h2, h3, h4, h5, h6⟩
  · intro p e s m args below meth c s₁ B hml0 hP _
    obtain ⟨rfl, hx, hbd, hgv⟩ := hP
    obtain ⟨scr, harrAt, hlist, hof, hsmall⟩ := hx
    obtain ⟨hcb, hkn, -, -⟩ := State.arrayAt?_spec harrAt
    have hown : s.vm.findClass R_law = some m.cls := findClass_of_methodNamed B.named
    have hts0 : ∀ c ∈ (Jvm.Cond.code x code maxLocals ret :: tables_1), c.before #[Value.ref b] s = true := atoms_spec (ws := Jvm.Cond.code x code maxLocals ret :: tables_1) B.pre
    have hts : ∀ w ∈ lw_tbl, w.before #[Value.ref b] s = true := k2_hts_sels lw_privs (fun w hw => hts0 w (List.mem_cons_of_mem _ hw)) lw_privs_ok
    have hml : c.maxLocals = 4 := B.maxLocals_eq (hts0 _ List.mem_cons_self)
    have X₀ : Stand p l e room_1 s m #[Value.ref b] below meth c s₁ [] 0 0 := Stand.of_body B
    have hh0 : s₁.heap = s.heap := by rw [B.state]; rfl
    have hsz : scr.slots.size = xs.length := by rw [← Array.length_toList, hlist, List.length_map]
    have hval : ∀ j : Nat, j < xs.length → scr.slots[j]? = some (.int (xs.getD j 0)) := fun j hj => by
      rw [← Array.getElem?_toList, hlist]
      simp [hj]
    have hbl : b < s.heap.size := (Array.getElem?_eq_some_iff.mp hcb).1
    have hX : va_X b xs.length (fun j => xs.getD j 0) s s.heap := ⟨scr, hcb, hof, hkn, hsz, hval⟩
    have K : W p l e room_1 s m #[Value.ref b] below meth c s₁.heap [] 0 0 (lw_Z below #[Value.ref b] s) (entryFrame m ([Value.ref b] : List Value).toArray 4) := by
      rw [hh0]
      exact whole_start l hbd ⟨B.exec, B.bytes, B.returns, hml, hown, hts, hX, hbl, B.notSynchronized, hgv⟩
    obtain ⟨t, a1, o, b1, b2, b3⟩ := K s₁ rfl X₀
    exact ⟨t, o, a1, b1, b2, b3⟩
theorem lw_pre_spec {args : Array Value} {s : State} (h : (Jvm.Cond.and given_1 narrow_1).before args s = true) (hr : rest_1_c.before args s = true) : ∃ (b : Addr) (xs : List Int32), lw_P b xs args s := by
  have hs := flat_of_before _ h
  have hq := flat_of_before _ hr
  have hc : (Cond.count 1).before args s = true := hs _ (by decide +kernel)
  have harr : (Cond.arrayOf (.arg 0) .int).before args s = true := hs _ (by decide +kernel)
  have hle : (Cond.le (.length (.arg 0)) (.int 3072)).before args s = true := hs _ (by decide +kernel)
  have hlen : (Cond.isInt (.length (.arg 0))).before args s = true := hq _ (by decide +kernel)
  have hall : (Cond.all (.arg 0) (.isInt (.elem (.arg 0) (.index 0)))).before args s = true := hq _ (by decide +kernel)
  obtain ⟨b, xs, hb, hx⟩ := State.ints_of_pre rfl harr hlen hall
  have hsm : xs.length < 2 ^ 31 := hx.choose_spec.2.2.2
  have hev : (Term.length (.arg 0)).eval args s none [] s = some (.int xs.length.toInt32) := hx.length_eval hb
  have hv := Cond.le_ints hev (show (Term.int 3072).eval args s none [] s = some (.int 3072) from rfl)
  have hd : xs.length.toInt32 ≤ 3072 := by
    simpa [Cond.before, Cond.holds, hv] using hle
  have hN : xs.length ≤ 3072 := (Int32.ofNat_le_ofNat hsm (by decide)).mp (show Int32.ofNat xs.length ≤ Int32.ofNat 3072 from hd)
  exact ⟨b, xs, Cond.one_arg hc (show args[0]? = some (.ref b) from hb), hx, hN, h⟩
theorem lw_comes (l : Launch) : Comes l x (Jvm.Cond.code x code maxLocals ret :: tables_1) room_1 (fun tb e args s => Calls_1 tb e args s ∧ rest_1 tb e args s ∧ Pre_1 tb e args s)
    (fun _ _ args s o t => lw_Q args s o t) := by
  intro p e ha hc hk s m args below hf hfit hheap happ hpre
  obtain ⟨b, xs, hP⟩ := lw_pre_spec hpre.2.2 hpre.2.1
  obtain ⟨k, o, h1, h2, h3, hQ⟩ := lw_walk l b xs p e ha hc hk s m args below hf ((Spec.applies_iff_loose hf).mp happ).1 hP trivial
  exact ⟨k, o, h1, h2, h3, hQ⟩
theorem lw_frame {s t : State} {o : Outcome} {args : Array Value} (h : Framed s o t [] 600000 7302250) :
    Framed s o t (fieldLocs frame_1_writes args s ++ arrayLocs frame_1_arrays args s ++ staticLocs frame_1_statics s) 600000 7302250 := h
theorem lw_limb (L : Cond) (hL : ∀ (args : Array Value) (s t : State), L.after args s (.returned (some (.int 1))) t = true) :
    ArmFor flags0 classFile x code maxLocals ret World_1 tables_1 room_1 Calls_1 rest_1 Pre_1
      (fun tb e a s o t => postC L tb e a s o t ∧ Framed s o t (fieldLocs frame_1_writes a s ++ arrayLocs frame_1_arrays a s ++ staticLocs frame_1_statics s) 600000 7302250) := by
  intro l _ _ _ p e ha hc hk s m args below hf hfit hheap happ hpre
  obtain ⟨k, o, h1, h2, h3, rfl, hF⟩ := lw_comes l p e ha hc hk s m args below hf hfit hheap happ hpre
  exact ⟨k, _, h1, h2, h3, hL args s _, lw_frame hF⟩
theorem i_vc : Claimed_1_1 ∧ Claimed_1_2 := ⟨lw_limb limb_1_1 (fun args s t => by simp [limb_1_1, Cond.after, Cond.holds, Cond.value]), lw_limb limb_1_2 (fun args s t => Cond.after_iff.mpr (by
  first | (rw [show limb_1_2 = Cond.eq .result (.int 1) from rfl, Cond.eq_ints (x := 1) (y := 1) rfl rfl]; simp; done) | (simp [limb_1_2, Cond.value, Term.eval]; done)))⟩
