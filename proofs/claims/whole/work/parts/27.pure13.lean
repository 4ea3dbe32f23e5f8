/-! the invariant is kept: change -/
theorem may_par {sz vc z : Int32} {cn : Nat} (hcn : cn ≤ 40) (hsz : sz = nI cn) (hvc : vc = nI cn) : f_g_mayBeParent sz z = true ↔ (z = (-1) ∨ f_m_isChange vc z = true) := by
  unfold f_g_mayBeParent
  by_cases h : z = (-1)
  · rw [if_pos h]
    exact ⟨fun _ => Or.inl h, fun _ => rfl⟩
  · rw [if_neg h, holds_is hcn hsz hvc]
    by_cases h2 : f_m_isChange vc z = true
    · rw [if_pos h2]
      exact ⟨fun _ => Or.inr h2, fun _ => rfl⟩
    · rw [if_neg h2]
      exact ⟨fun q => (by cases q), fun q => q.elim (fun q => absurd q h) (fun q => absurd q h2)⟩
theorem par_of {vc z : Int32} {cn : Nat} (hcn : cn ≤ 40) (hvc : vc = nI cn) (h : z = (-1) ∨ f_m_isChange vc z = true) : parI cn z := by
  rcases h with h | h
  · exact Or.inl h
  · exact Or.inr (ch_nI hcn hvc h)
theorem only_par {cn : Nat} {z : Int32} (hcn : cn ≤ 40) (h : parI cn z) (i : Nat) : bt (f_x_only z) i = true ↔ (i < cn ∧ z = nI i) := by
  rcases h with rfl | ⟨a, ha, rfl⟩
  · have e : f_x_only (-1) = 0 := by decide
    rw [e, bt_0]
    constructor
    · intro q; cases q
    · rintro ⟨h1, h2⟩
      exact absurd (by rw [← h2]; decide) (nI_pos (n := i) (by omega))
  · rw [only_bt (by omega), decide_eq_true_eq]
    constructor
    · intro q; subst q; exact ⟨ha, rfl⟩
    · rintro ⟨h1, h2⟩; exact (nI_eq (by omega) (by omega)).mp h2
/-- which path the reference takes -/
theorem change_path {vc za zb zc : Int32} {vp : Nat → Int32} {vh : Nat → Bool} : f_m_change vc vp vh za zb zc = if vc = 40 then ((-1), vp, vh, vc) else if (za = (-1) ∨ f_m_isChange vc za = true) ∧ (zb = (-1) ∨ f_m_isChange vc zb = true) ∧ (zc = (-1) ∨ f_m_isChange vc zc = true) then J_m_change_50 vc vp vh za zb zc else ((-1), vp, vh, vc) := by
  unfold f_m_change
  by_cases h0 : vc = 40
  · rw [if_pos h0, if_pos h0]
  · rw [if_neg h0, if_neg h0]
    by_cases a1 : za = (-1) <;> by_cases a2 : f_m_isChange vc za = true <;> by_cases b1 : zb = (-1) <;> by_cases b2 : f_m_isChange vc zb = true <;> by_cases c1 : zc = (-1) <;> by_cases c2 : f_m_isChange vc zc = true <;> simp only [a1, a2, b1, b2, c1, c2, if_true, if_false, true_or, or_true, false_or, or_false, true_and, and_true, false_and, and_false, or_self, and_self, ite_true, ite_false, Bool.false_eq_true]
section KEEP4
variable {cn nt : Nat} {G : GS} {TT : Nat → TS} {vp : Nat → Int32} {vh vk vb vg vo vf : Nat → Bool} {vd vu vw vs vx va vq : Nat → Int32}
/-- the weights of a target don't change with a new change -/
theorem mW_new {vh' : Nat → Bool} {t b a i : Nat} (hcn : cn < 40) (hnt : nt ≤ 4) (ht : t < nt) (hvo : vo t = true) (hb : b < cn) (hvd : vd t = nI b) (ha : a ≤ 15) (hva : va t = nI a) (hle : ∀ i, i < cn → ∀ j, j < 40 → vh (40 * i + j) = true → j ≤ i) (hold : ∀ i, i < 40 * cn → vh' i = vh i) (hvg : ∀ j, j < 40 → vg (40 * t + j) = true → j < cn) (hq : ∀ k, k < a → ∃ c, c < cn ∧ vq (15 * t + k) = nI c) (hi : i < 40) :
    mW (nI (cn + 1)) vh' (nI nt) vg vo vd vu vw va vq vf t i = mW (nI cn) vh (nI nt) vg vo vd vu vw va vq vf t i := by
  have hse := se_of hnt ht hvo
  by_cases h1 : i < cn
  · rw [mW_eq (by omega) rfl (by omega) hse ha hva (by omega), mW_eq (by omega) rfl (by omega) hse ha hva h1, hvd, has_at (by omega) rfl (by omega) (by omega), has_at (by omega) rfl hb h1, hold _ (by omega)]
    have eg : anyF (gdP vg vh' t i) (cn + 1) 0 = anyF (gdP vg vh t i) cn 0 := by
      have q1 := anyF_iff (P := gdP vg vh' t i) (cn + 1) 0
      have q2 := anyF_iff (P := gdP vg vh t i) cn 0
      have q3 : anyF (gdP vg vh' t i) (cn + 1) 0 = true ↔ anyF (gdP vg vh t i) cn 0 = true := by
        rw [q1, q2]
        unfold gdP
        constructor
        · rintro ⟨c, x0, x1, x2⟩
          rw [Bool.and_eq_true] at x2
          have x3 := hvg c (by omega) x2.1
          exact ⟨c, x0, by omega, by rw [Bool.and_eq_true]; exact ⟨x2.1, by rw [← hold _ (by omega)]; exact x2.2⟩⟩
        · rintro ⟨c, x0, x1, x2⟩
          rw [Bool.and_eq_true] at x2
          exact ⟨c, x0, by omega, by rw [Bool.and_eq_true]; exact ⟨x2.1, by rw [hold _ (by omega)]; exact x2.2⟩⟩
      cases h5 : anyF (gdP vg vh' t i) (cn + 1) 0
      · cases h6 : anyF (gdP vg vh t i) cn 0
        · rfl
        · rw [h5, h6] at q3; exact absurd (q3.mpr rfl) (by decide)
      · rw [h5] at q3; exact (q3.mp rfl).symm
    rw [eg, wprod_congr (f := fac (nI (cn + 1)) vh' vu vw vq vf t i) (g := fac (nI cn) vh vu vw vq vf t i) a (fun k hk => by
      obtain ⟨c, hc, e⟩ := hq k hk
      unfold fac
      rw [e, has_at (by omega) rfl (by omega) (by omega), has_at (by omega) rfl hc h1, hold _ (by omega)])]
  · rw [mW_big (c := i) (cn := cn) (by omega) rfl (by omega) (by omega)]
    by_cases h2 : i = cn
    · subst h2
      rw [mW_eq (by omega) rfl (by omega) hse ha hva (by omega), hvd, has_at (by omega) rfl (by omega) (by omega), hold _ (by omega)]
      rw [if_neg (fun q => by have := hle b hb i hi q; omega)]
    · exact mW_big (by omega) rfl (by omega) (by omega)
theorem e_change (hI : INV cn nt G TT vp vh vk vb vg vo vf vd vu vw vs vx va vq) (za zb zc : Int32) : ∃ cn', (f_x_change G TT za zb zc).1 = (f_m_change (nI cn) vp vh za zb zc).1 ∧ (f_m_change (nI cn) vp vh za zb zc).2.2.2 = nI cn' ∧ INV cn' nt (f_x_change G TT za zb zc).2.1 (f_x_change G TT za zb zc).2.2 (f_m_change (nI cn) vp vh za zb zc).2.1 (f_m_change (nI cn) vp vh za zb zc).2.2.1 vk vb vg vo vf vd vu vw vs vx va vq := by
  obtain ⟨hnt, hG, hT, hF⟩ := id hI
  obtain ⟨g1, g2, g3, g4, g5, g6, g7, g8, g9, g10, g11, g12⟩ := id hG
  rw [change_path]
  unfold f_x_change
  have ka := may_par (z := za) g1 g2 (rfl : nI cn = nI cn)
  have kb := may_par (z := zb) g1 g2 (rfl : nI cn = nI cn)
  have kc := may_par (z := zc) g1 g2 (rfl : nI cn = nI cn)
  by_cases pa : f_g_mayBeParent G.2.2.1 za = true
  · by_cases pb : f_g_mayBeParent G.2.2.1 zb = true
    · by_cases pc : f_g_mayBeParent G.2.2.1 zc = true
      · rw [if_pos pa, if_pos pb, if_pos pc]
        have ja := ka.mp pa
        have jb := kb.mp pb
        have jc := kc.mp pc
        by_cases h40 : cn = 40
        · have h1 : nI cn = 40 := by rw [h40]; rfl
          rw [if_pos h1, add_full (by rw [g2, h40])]
          exact ⟨cn, rfl, rfl, hI⟩
        · have hlt : cn < 40 := by omega
          have h1 : ¬ nI cn = 40 := fun q => h40 ((nI_eq (a := cn) (b := 40) (by omega) (by decide)).mp q)
          rw [if_neg h1, if_pos ⟨ja, jb, jc⟩]
          have qa := par_of g1 rfl ja
          have qb := par_of g1 rfl jb
          have qc := par_of g1 rfl jc
          obtain ⟨vh', ec, hold, hrow⟩ := change_eq (vp := vp) (vh := vh) hlt (rfl : nI cn = nI cn) qa qb qc
          obtain ⟨R, ea, hR⟩ := add_eq (ps := G.1) (rs := G.2.1) (zs := (f_x_only za ||| f_x_only zb) ||| f_x_only zc) hlt g2
          rw [ec, ea]
          have hz : ∀ i, bt ((f_x_only za ||| f_x_only zb) ||| f_x_only zc) i = true ↔ (i < cn ∧ (za = nI i ∨ zb = nI i ∨ zc = nI i)) := by
            intro i
            rw [bt_or, bt_or, Bool.or_eq_true, Bool.or_eq_true, only_par g1 qa, only_par g1 qb, only_par g1 qc]
            constructor
            · rintro ((⟨x, y⟩ | ⟨x, y⟩) | ⟨x, y⟩)
              · exact ⟨x, Or.inl y⟩
              · exact ⟨x, Or.inr (Or.inl y)⟩
              · exact ⟨x, Or.inr (Or.inr y)⟩
            · rintro ⟨x, y | y | y⟩
              · exact Or.inl (Or.inl ⟨x, y⟩)
              · exact Or.inl (Or.inr ⟨x, y⟩)
              · exact Or.inr ⟨x, y⟩
          have hRv : ∀ j, j < 40 → bt R j = vh' (40 * cn + j) := by
            intro j hj
            have q3 : bt R j = true ↔ vh' (40 * cn + j) = true := by
              rw [hR j, hrow j hj]
              constructor
              · rintro (x | ⟨i, x1, x2, x3⟩)
                · exact Or.inl x
                · exact Or.inr ⟨i, x1, ((hz i).mp x2).2, by rw [← g3 i x1 j hj]; exact x3⟩
              · rintro (x | ⟨i, x1, x2, x3⟩)
                · exact Or.inl x
                · exact Or.inr ⟨i, x1, (hz i).mpr ⟨x1, x2⟩, by rw [g3 i x1 j hj]; exact x3⟩
            cases h5 : bt R j
            · cases h6 : vh' (40 * cn + j)
              · rfl
              · rw [h5, h6] at q3; exact absurd (q3.mpr rfl) (by decide)
            · rw [h5] at q3; exact (q3.mp rfl).symm
          have upL : ∀ (f : Nat → Int64) (x : Int64), vp_updL f cn x cn = x := fun f x => pk_uLs
          have upN : ∀ (f : Nat → Int64) (x : Int64) (i : Nat), i < cn → vp_updL f cn x i = f i := fun f x i hi => pk_uLn (by omega)
          have pE : ∀ i, i < cn → ∀ e, e < 3 → upd (upd (upd vp (3 * cn) za) (3 * cn + 1) zb) (3 * cn + 2) zc (3 * i + e) = vp (3 * i + e) := fun i hi e he => by rw [upd_ne _ _ (by omega), upd_ne _ _ (by omega), upd_ne _ _ (by omega)]
          have p0 : upd (upd (upd vp (3 * cn) za) (3 * cn + 1) zb) (3 * cn + 2) zc (3 * cn + 0) = za := by rw [upd_ne _ _ (by omega), upd_ne _ _ (by omega)]; exact upd_self _ _ _
          have p1 : upd (upd (upd vp (3 * cn) za) (3 * cn + 1) zb) (3 * cn + 2) zc (3 * cn + 1) = zb := by rw [upd_ne _ _ (by omega), upd_self]
          have p2 : upd (upd (upd vp (3 * cn) za) (3 * cn + 1) zb) (3 * cn + 2) zc (3 * cn + 2) = zc := upd_self _ _ _
          refine ⟨cn + 1, rfl, rfl, hnt, ⟨hlt, rfl, fun i hi j hj => ?_, fun i hi => ?_, fun i hi j hj q => ?_, fun i hi e he => ?_, fun i hi j hj => ?_, fun i hi o ho q => ?_, g9, g10, fun j hj q => Nat.lt_succ_of_lt (g11 j hj q), g12⟩, fun t ht => ?_, hF⟩
          · show bt (vp_updL G.2.1 cn R i) j = vh' (40 * i + j)
            by_cases hic : i = cn
            · subst hic; rw [upL]; exact hRv j hj
            · rw [upN _ _ i (by omega), g3 i (by omega) j hj, hold _ (by omega)]
          · show small (vp_updL G.2.1 cn R i)
            by_cases hic : i = cn
            · subst hic
              rw [upL]
              intro j hj
              cases h5 : bt R j
              · rfl
              · rcases (hR j).mp h5 with x | ⟨k, x1, x2, x3⟩
                · omega
                · rw [g4 k x1 j hj] at x3; cases x3
            · rw [upN _ _ i (by omega)]; exact g4 i (by omega)
          · by_cases hic : i = cn
            · subst hic
              rcases (hrow j hj).mp q with x | ⟨k, x1, x2, x3⟩
              · omega
              · have := g5 k x1 j hj x3; omega
            · have q : vh' (40 * i + j) = true := q
              rw [hold _ (by omega)] at q
              exact g5 i (by omega) j hj q
          · by_cases hic : i = cn
            · subst hic
              have pk : ∀ z, parI i z → z = (-1) ∨ ∃ q, q < i ∧ z = nI q := fun z h => h
              rcases (show e = 0 ∨ e = 1 ∨ e = 2 by omega) with rfl | rfl | rfl
              · show upd _ _ _ (3 * i + 0) = _ ∨ ∃ q, q < i ∧ upd _ _ _ (3 * i + 0) = nI q
                rw [p0]; exact pk _ qa
              · show upd _ _ _ (3 * i + 1) = _ ∨ ∃ q, q < i ∧ upd _ _ _ (3 * i + 1) = nI q
                rw [p1]; exact pk _ qb
              · show upd _ _ _ (3 * i + 2) = _ ∨ ∃ q, q < i ∧ upd _ _ _ (3 * i + 2) = nI q
                rw [p2]; exact pk _ qc
            · have := pE i (by omega) e he
              show upd _ _ _ (3 * i + e) = _ ∨ ∃ q, q < i ∧ upd _ _ _ (3 * i + e) = nI q
              rw [this]; exact g6 i (by omega) e he
          · show bt (vp_updL G.1 cn ((f_x_only za ||| f_x_only zb) ||| f_x_only zc) i) j = true ↔ ∃ e, e < 3 ∧ upd (upd (upd vp (3 * cn) za) (3 * cn + 1) zb) (3 * cn + 2) zc (3 * i + e) = nI j
            by_cases hic : i = cn
            · subst hic
              rw [upL, hz j]
              constructor
              · rintro ⟨x, y | y | y⟩
                · exact ⟨0, by omega, by rw [p0]; exact y⟩
                · exact ⟨1, by omega, by rw [p1]; exact y⟩
                · exact ⟨2, by omega, by rw [p2]; exact y⟩
              · have lt_of : ∀ z, parI i z → z = nI j → j < i := by
                  intro z hz e
                  rcases hz with h | ⟨q, h1, h2⟩
                  · exact absurd (by rw [← e, h]; decide) (nI_pos (n := j) (by omega))
                  · have := (nI_eq (by omega) (by omega)).mp (h2.symm.trans e); omega
                rintro ⟨e, he, y⟩
                rcases (show e = 0 ∨ e = 1 ∨ e = 2 by omega) with rfl | rfl | rfl
                · rw [p0] at y; exact ⟨lt_of _ qa y, Or.inl y⟩
                · rw [p1] at y; exact ⟨lt_of _ qb y, Or.inr (Or.inl y)⟩
                · rw [p2] at y; exact ⟨lt_of _ qc y, Or.inr (Or.inr y)⟩
            · rw [upN _ _ i (by omega), g7 i (by omega) j hj]
              constructor
              · rintro ⟨e, he, y⟩; exact ⟨e, he, by rw [pE i (by omega) e he]; exact y⟩
              · rintro ⟨e, he, y⟩; exact ⟨e, he, by rw [← pE i (by omega) e he]; exact y⟩
          · show i = o ∨ ∃ e k, e < 3 ∧ k < i ∧ upd (upd (upd vp (3 * cn) za) (3 * cn + 1) zb) (3 * cn + 2) zc (3 * i + e) = nI k ∧ vh' (40 * k + o) = true
            by_cases hic : i = cn
            · subst hic
              rcases (hrow o ho).mp q with x | ⟨k, x1, x2 | x2 | x2, x3⟩
              · exact Or.inl x.symm
              · exact Or.inr ⟨0, k, by omega, x1, by rw [p0]; exact x2, by rw [hold _ (by omega)]; exact x3⟩
              · exact Or.inr ⟨1, k, by omega, x1, by rw [p1]; exact x2, by rw [hold _ (by omega)]; exact x3⟩
              · exact Or.inr ⟨2, k, by omega, x1, by rw [p2]; exact x2, by rw [hold _ (by omega)]; exact x3⟩
            · have q : vh' (40 * i + o) = true := q
              rw [hold _ (by omega)] at q
              rcases g8 i (by omega) o ho q with x | ⟨e, k, x1, x2, x3, x4⟩
              · exact Or.inl x
              · exact Or.inr ⟨e, k, x1, x2, by rw [pE i (by omega) e x1]; exact x3, by rw [hold _ (by omega)]; exact x4⟩
          · obtain ⟨t1, t2, t3, t4, t5, t6, t7, t8⟩ := hT t ht
            refine ⟨t1, fun j hj q => Nat.lt_succ_of_lt (t2 j hj q), fun j hj => ?_, t4, t5, t6, t7, fun hv => ?_⟩
            · rw [t3 j hj]
              constructor
              · rintro ⟨c, x1, x2, x3⟩; exact ⟨c, by omega, x2, (hold (40 * c + j) (by omega)).trans x3⟩
              · rintro ⟨c, x1, x2, x3⟩
                have x4 := t2 c (by omega) x2
                exact ⟨c, x4, x2, (hold (40 * c + j) (by omega)).symm.trans x3⟩
            · obtain ⟨b, p, q, s1, s2, s3, s4, s5, s6, s7, s8, s9, s10, s11, a, s12, s13, s14⟩ := t8 hv
              refine ⟨b, p, q, by omega, s2, s3, s4, s5, s6, s7, s8, s9, s10, fun i hi => ?_, a, s12, s13, fun k hk => ?_⟩
              · rw [s11 i hi]
                exact (mW_new hlt hnt ht hv s1 s2 s12 s13 g5 hold t2 s14 hi).symm
              · obtain ⟨c, x1, x2⟩ := s14 k hk
                exact ⟨c, by omega, x2⟩
      · have nc : ¬ ((za = (-1) ∨ f_m_isChange (nI cn) za = true) ∧ (zb = (-1) ∨ f_m_isChange (nI cn) zb = true) ∧ (zc = (-1) ∨ f_m_isChange (nI cn) zc = true)) := fun q => pc (kc.mpr q.2.2)
        rw [if_pos pa, if_pos pb, if_neg pc, if_neg nc]
        refine ⟨cn, ?_⟩
        split <;> exact ⟨rfl, rfl, hI⟩
    · have nc : ¬ ((za = (-1) ∨ f_m_isChange (nI cn) za = true) ∧ (zb = (-1) ∨ f_m_isChange (nI cn) zb = true) ∧ (zc = (-1) ∨ f_m_isChange (nI cn) zc = true)) := fun q => pb (kb.mpr q.2.1)
      rw [if_pos pa, if_neg pb, if_neg nc]
      refine ⟨cn, ?_⟩
      split <;> exact ⟨rfl, rfl, hI⟩
  · have nc : ¬ ((za = (-1) ∨ f_m_isChange (nI cn) za = true) ∧ (zb = (-1) ∨ f_m_isChange (nI cn) zb = true) ∧ (zc = (-1) ∨ f_m_isChange (nI cn) zc = true)) := fun q => pa (ka.mpr q.1)
    rw [if_neg pa, if_neg nc]
    refine ⟨cn, ?_⟩
    split <;> exact ⟨rfl, rfl, hI⟩
end KEEP4
