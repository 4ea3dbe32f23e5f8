/-! the reference's loops that write, and told -/
section MODEL2
variable {vc vt : Int32} {vh vg vo vf vk vb : Nat → Bool} {vd vu vw va vq vs : Nat → Int32} {cn t : Nat}
def tlP (w : Nat → Int64) (kk : Int32) (cn : Nat) : Nat → Bool := fun i => !decide (w i = 0) && decide (nI (cnt (rkP w (w i) i) cn) = kk)
theorem told_in {kk : Int32} {c : Nat} (hcn : cn ≤ 40) (hvc : vc = nI cn) (hc : c < cn) : (L_m_told_44 vc vh vt vg vo vd vu vw va vq vf (nI t) kk (nI c) 41 0 0).1 = nI (cnt (rkP (mW vc vh vt vg vo vd vu vw va vq vf t) (mW vc vh vt vg vo vd vu vw va vq vf t c) c) cn) := by
  have loop : ∀ n k, k + n = 41 → k ≤ cn → (L_m_told_44 vc vh vt vg vo vd vu vw va vq vf (nI t) kk (nI c) n (nI (cnt (rkP (mW vc vh vt vg vo vd vu vw va vq vf t) (mW vc vh vt vg vo vd vu vw va vq vf t c) c) k)) (nI k)).1 = nI (cnt (rkP (mW vc vh vt vg vo vd vu vw va vq vf t) (mW vc vh vt vg vo vd vu vw va vq vf t c) c) cn) := by
    intro n
    induction n with
    | zero => intro k h1 h2; omega
    | succ n ih =>
      intro k h1 h2
      rw [L_m_told_44_s]
      by_cases h : k = cn
      · subst h; rw [if_pos ((nIc hcn hvc (by omega)).mpr (Nat.le_refl _))]
      · have e := ih (k + 1) (by omega) (by omega)
        have n1 : ¬ vc ≤ nI k := fun q => h (by have := (nIc hcn hvc (by omega)).mp q; omega)
        rw [if_neg n1, nI_1, nI_1]
        by_cases h3 : f_m_weight vc vh vt vg vo vd vu vw va vq vf (nI t) (nI c) < f_m_weight vc vh vt vg vo vd vu vw va vq vf (nI t) (nI k)
        · rw [cnt_s1 (by simp [rkP, mW, h3])] at e
          rw [if_pos h3, e]
        · rw [if_neg h3]
          by_cases h4 : f_m_weight vc vh vt vg vo vd vu vw va vq vf (nI t) (nI k) = f_m_weight vc vh vt vg vo vd vu vw va vq vf (nI t) (nI c)
          · rw [if_pos h4]
            by_cases h5 : nI c ≤ nI k
            · have h6 : ¬ k < c := by have := (nI_leI (by omega) (by omega)).mp h5; omega
              rw [cnt_s0 (by simp [rkP, mW, h3, h6])] at e
              rw [if_pos h5, e]
            · have h6 : k < c := by
                apply Nat.lt_of_not_le
                intro q
                exact h5 ((nI_leI (by omega) (by omega)).mpr q)
              rw [cnt_s1 (by simp [rkP, mW, h4, h6])] at e
              rw [if_neg h5, e]
          · rw [cnt_s0 (by simp [rkP, mW, h3, h4])] at e
            rw [if_neg h4, e]
  exact loop 41 0 rfl (Nat.zero_le _)
theorem told_eq {kk : Int32} (hcn : cn ≤ 40) (hvc : vc = nI cn) (hse : f_m_isSearch vt vo (nI t) = true) : f_m_told vc vh vt vg vo vd vu vw va vq vf (nI t) kk = fnd (tlP (mW vc vh vt vg vo vd vu vw va vq vf t) kk cn) cn 0 := by
  have loop : ∀ n k, k + n = 41 → k ≤ cn → L_m_told_12 vc vh vt vg vo vd vu vw va vq vf (nI t) kk n (nI k) = fnd (tlP (mW vc vh vt vg vo vd vu vw va vq vf t) kk cn) (cn - k) k := by
    intro n
    induction n with
    | zero => intro k h1 h2; omega
    | succ n ih =>
      intro k h1 h2
      rw [L_m_told_12_s]
      by_cases h : k = cn
      · subst h; rw [if_pos ((nIc hcn hvc (by omega)).mpr (Nat.le_refl _)), Nat.sub_self]; rfl
      · have e := ih (k + 1) (by omega) (by omega)
        have n1 : ¬ vc ≤ nI k := fun q => h (by have := (nIc hcn hvc (by omega)).mp q; omega)
        rw [if_neg n1, nI_1, told_in hcn hvc (by omega), show cn - k = (cn - (k + 1)) + 1 by omega]
        show _ = (if tlP (mW vc vh vt vg vo vd vu vw va vq vf t) kk cn k = true then nI k else fnd (tlP (mW vc vh vt vg vo vd vu vw va vq vf t) kk cn) (cn - (k + 1)) (k + 1))
        rw [← e]
        by_cases h3 : f_m_weight vc vh vt vg vo vd vu vw va vq vf (nI t) (nI k) = 0
        · rw [if_pos h3, if_neg (by simp [tlP, mW, h3])]
        · rw [if_neg h3]
          by_cases h4 : nI (cnt (rkP (mW vc vh vt vg vo vd vu vw va vq vf t) (mW vc vh vt vg vo vd vu vw va vq vf t k) k) cn) = kk
          · rw [if_pos h4, if_pos (by unfold tlP; simp only [Bool.and_eq_true, decide_eq_true_eq]; exact ⟨by simp [mW, h3], h4⟩)]
          · rw [if_neg h4, if_neg (by unfold tlP; simp only [Bool.and_eq_true, decide_eq_true_eq]; exact fun q => h4 q.2)]
  unfold f_m_told
  rw [if_pos hse]
  exact loop 41 0 rfl (Nat.zero_le _)
theorem begin_cnt {zb zp zq zu : Int32} (hcn : cn ≤ 40) (hvc : vc = nI cn) (ht : t < 4) : L_m_begin_115 vc vh vt vg vo vd vu vw vs va vq vf (nI t) zb zp zq zu 41 0 0 = (nI (cnt (fun c => decide (0 < mW vc vh vt vg (va_up vo t true) (upd vd t zb) (upd vu t zp) (upd vw t zq) (upd va t 0) vq vf t c)) cn), va_up vo t true, upd vd t zb, upd vu t zp, upd vw t zq, upd vs t zu, upd va t 0) := by
  have loop : ∀ n k, k + n = 41 → k ≤ cn → L_m_begin_115 vc vh vt vg vo vd vu vw vs va vq vf (nI t) zb zp zq zu n (nI (cnt (fun c => decide (0 < mW vc vh vt vg (va_up vo t true) (upd vd t zb) (upd vu t zp) (upd vw t zq) (upd va t 0) vq vf t c)) k)) (nI k) = (nI (cnt (fun c => decide (0 < mW vc vh vt vg (va_up vo t true) (upd vd t zb) (upd vu t zp) (upd vw t zq) (upd va t 0) vq vf t c)) cn), va_up vo t true, upd vd t zb, upd vu t zp, upd vw t zq, upd vs t zu, upd va t 0) := by
    intro n
    induction n with
    | zero => intro k h1 h2; omega
    | succ n ih =>
      intro k h1 h2
      rw [L_m_begin_115_s, nI_clamp (n := t) (by omega)]
      by_cases h : k = cn
      · subst h; rw [if_pos ((nIc hcn hvc (by omega)).mpr (Nat.le_refl _))]
      · have e := ih (k + 1) (by omega) (by omega)
        have n1 : ¬ vc ≤ nI k := fun q => h (by have := (nIc hcn hvc (by omega)).mp q; omega)
        rw [if_neg n1, nI_1, nI_1, Int32.add_zero]
        by_cases h3 : 0 < f_m_weight vc vh vt vg (va_up vo t true) (upd vd t zb) (upd vu t zp) (upd vw t zq) (upd va t 0) vq vf (nI t) (nI k)
        · rw [cnt_s1 (by simp [mW, h3])] at e
          rw [if_pos h3, e]
        · rw [cnt_s0 (by simp [mW, h3])] at e
          rw [if_neg h3, e]
  exact loop 41 0 rfl (Nat.zero_le _)
theorem counted_cnt {vx : Nat → Int32} {ta wh : Int32} (hcn : cn ≤ 40) (hvc : vc = nI cn) : L_m_counted_10 vc vb vt vo vd vx va ta wh 41 0 0 = nI (cnt vb cn) := by
  have loop : ∀ n k, k + n = 41 → k ≤ cn → L_m_counted_10 vc vb vt vo vd vx va ta wh n (nI (cnt vb k)) (nI k) = nI (cnt vb cn) := by
    intro n
    induction n with
    | zero => intro k h1 h2; omega
    | succ n ih =>
      intro k h1 h2
      rw [L_m_counted_10_s]
      by_cases h : k = cn
      · subst h; rw [if_pos ((nIc hcn hvc (by omega)).mpr (Nat.le_refl _))]
      · have e := ih (k + 1) (by omega) (by omega)
        have n1 : ¬ vc ≤ nI k := fun q => h (by have := (nIc hcn hvc (by omega)).mp q; omega)
        rw [if_neg n1, nI_1, nI_1, Int32.add_zero, nI_clamp (by omega)]
        by_cases h3 : vb k = true
        · rw [cnt_s1 h3] at e
          rw [if_pos h3, e]
        · rw [cnt_s0 h3] at e
          rw [if_neg h3, e]
  exact loop 41 0 rfl (Nat.zero_le _)
end MODEL2
/-- a parent of a new change: none, or an earlier one -/
def parI (cn : Nat) (z : Int32) : Prop := z = (-1) ∨ ∃ a, a < cn ∧ z = nI a
theorem comes_eq {vq1 : Nat → Bool} {cn o : Nat} {z : Int32} (hcn : cn ≤ 40) (hp : parI cn z) (ho : o < 40) : f_m_comes vq1 z (nI o) = true ↔ ∃ a, a < cn ∧ z = nI a ∧ vq1 (40 * a + o) = true := by
  unfold f_m_comes
  rcases hp with rfl | ⟨a, ha, rfl⟩
  · rw [if_pos rfl]
    constructor
    · intro h; cases h
    · rintro ⟨a, ha, e, _⟩
      exact absurd (by rw [← e]; decide) (nI_pos (n := a) (by omega))
  · have hne : ¬ nI a = (-1) := fun q => absurd (by rw [q]; decide) (nI_pos (n := a) (by omega))
    have e2 : ((40 * nI a) + nI o).toNatClampNeg = 40 * a + o := lin_cl 40 (by omega)
    rw [if_neg hne, e2]
    constructor
    · intro h
      by_cases h3 : vq1 (40 * a + o) = true
      · exact ⟨a, ha, rfl, h3⟩
      · rw [if_neg h3] at h; cases h
    · rintro ⟨b, hb, e, h3⟩
      have := (nI_eq (by omega) (by omega)).mp e
      subst this
      rw [if_pos h3]
/-- what the reference's row of a new change says -/
theorem change_eq {vc : Int32} {vp : Nat → Int32} {vh : Nat → Bool} {za zb zc : Int32} {cn : Nat} (hcn : cn < 40) (hvc : vc = nI cn) (ha : parI cn za) (hb : parI cn zb) (hc : parI cn zc) :
    ∃ vh' : Nat → Bool, J_m_change_50 vc vp vh za zb zc = (nI cn, upd (upd (upd vp (3 * cn) za) (3 * cn + 1) zb) (3 * cn + 2) zc, vh', nI (cn + 1)) ∧ (∀ i, i < 40 * cn → vh' i = vh i) ∧
      ∀ o, o < 40 → (vh' (40 * cn + o) = true ↔ (o = cn ∨ ∃ a, a < cn ∧ (za = nI a ∨ zb = nI a ∨ zc = nI a) ∧ vh (40 * a + o) = true)) := by
  have i0 : (3 * vc).toNatClampNeg = 3 * cn := by rw [hvc, show (3 : Int32) = nI 3 from rfl, pk_mul, nI_clamp (by omega)]
  have i1 : ((3 * vc) + 1).toNatClampNeg = 3 * cn + 1 := by rw [hvc]; exact lin_cl 3 (j := 1) (by omega)
  have i2 : ((3 * vc) + 2).toNatClampNeg = 3 * cn + 2 := by rw [hvc]; exact lin_cl 3 (j := 2) (by omega)
  have i3 : (vc + 1) - 1 = nI cn := by rw [hvc, nI_1, nI_pred]
  have loop : ∀ (n k : Nat) (v1 : Nat → Bool), k + n = 41 → k ≤ 40 → (∀ i, i < 40 * cn → v1 i = vh i) → (∀ o, o < k → (v1 (40 * cn + o) = true ↔ (o = cn ∨ ∃ a, a < cn ∧ (za = nI a ∨ zb = nI a ∨ zc = nI a) ∧ vh (40 * a + o) = true))) →
      ∃ vh' : Nat → Bool, L_m_change_93 vc vp vh za zb zc n (nI k) v1 = (nI cn, upd (upd (upd vp (3 * cn) za) (3 * cn + 1) zb) (3 * cn + 2) zc, vh', nI (cn + 1)) ∧ (∀ i, i < 40 * cn → vh' i = vh i) ∧ ∀ o, o < 40 → (vh' (40 * cn + o) = true ↔ (o = cn ∨ ∃ a, a < cn ∧ (za = nI a ∨ zb = nI a ∨ zc = nI a) ∧ vh (40 * a + o) = true)) := by
    intro n
    induction n with
    | zero => intro k v1 h1 h2; omega
    | succ n ih =>
      intro k v1 h1 h2 hold hrow
      rw [L_m_change_93_s]
      by_cases h : k = 40
      · subst h
        rw [if_pos ((nI40 (by omega)).mpr rfl), i0, i1, i2, i3, show vc + 1 = nI (cn + 1) from by rw [hvc, nI_1]]
        exact ⟨v1, rfl, hold, hrow⟩
      · have n1 : ¬ (40 : Int32) ≤ nI k := fun q => h ((nI40 h2).mp q)
        have e2 : ((40 * vc) + nI k).toNatClampNeg = 40 * cn + k := by rw [hvc]; exact lin_cl 40 (by omega)
        rw [if_neg n1, e2, nI_1]
        have go : ∀ b : Bool, (b = true ↔ (k = cn ∨ ∃ a, a < cn ∧ (za = nI a ∨ zb = nI a ∨ zc = nI a) ∧ vh (40 * a + k) = true)) →
            ∃ vh' : Nat → Bool, L_m_change_93 vc vp vh za zb zc n (nI (k + 1)) (va_up v1 (40 * cn + k) b) = (nI cn, upd (upd (upd vp (3 * cn) za) (3 * cn + 1) zb) (3 * cn + 2) zc, vh', nI (cn + 1)) ∧ (∀ i, i < 40 * cn → vh' i = vh i) ∧ ∀ o, o < 40 → (vh' (40 * cn + o) = true ↔ (o = cn ∨ ∃ a, a < cn ∧ (za = nI a ∨ zb = nI a ∨ zc = nI a) ∧ vh (40 * a + o) = true)) := by
          intro b hbk
          refine ih (k + 1) _ (by omega) (by omega) (fun i hi => ?_) (fun o ho => ?_)
          · rw [va_up_ne _ _ (by omega)]; exact hold i hi
          · by_cases hok : o = k
            · subst hok; rw [va_up_self]; exact hbk
            · rw [va_up_ne _ _ (by omega)]; exact hrow o (by omega)
        have cm : ∀ z, parI cn z → (f_m_comes v1 z (nI k) = true ↔ ∃ a, a < cn ∧ z = nI a ∧ vh (40 * a + k) = true) := by
          intro z hz
          rw [comes_eq (by omega) hz (by omega)]
          constructor
          · rintro ⟨a, h3, h4, h5⟩; exact ⟨a, h3, h4, by rw [← hold _ (by omega)]; exact h5⟩
          · rintro ⟨a, h3, h4, h5⟩; exact ⟨a, h3, h4, by rw [hold _ (by omega)]; exact h5⟩
        by_cases h3 : nI k = vc
        · have hkc : k = cn := by rw [hvc] at h3; exact (nI_eq (by omega) (by omega)).mp h3
          rw [if_pos h3]
          exact go true ⟨fun _ => Or.inl hkc, fun _ => rfl⟩
        · have hkc : k ≠ cn := fun q => h3 (by rw [hvc, q])
          rw [if_neg h3]
          by_cases ca : f_m_comes v1 za (nI k) = true
          · rw [if_pos ca]
            obtain ⟨a, x1, x2, x3⟩ := (cm za ha).mp ca
            exact go true ⟨fun _ => Or.inr ⟨a, x1, Or.inl x2, x3⟩, fun _ => rfl⟩
          · rw [if_neg ca]
            by_cases cb : f_m_comes v1 zb (nI k) = true
            · rw [if_pos cb]
              obtain ⟨a, x1, x2, x3⟩ := (cm zb hb).mp cb
              exact go true ⟨fun _ => Or.inr ⟨a, x1, Or.inr (Or.inl x2), x3⟩, fun _ => rfl⟩
            · rw [if_neg cb]
              by_cases cc : f_m_comes v1 zc (nI k) = true
              · rw [if_pos cc]
                obtain ⟨a, x1, x2, x3⟩ := (cm zc hc).mp cc
                exact go true ⟨fun _ => Or.inr ⟨a, x1, Or.inr (Or.inr x2), x3⟩, fun _ => rfl⟩
              · rw [if_neg cc]
                refine go false ⟨fun q => (by cases q), ?_⟩
                rintro (q | ⟨a, x1, x2 | x2 | x2, x3⟩)
                · exact absurd q hkc
                · exact absurd ((cm za ha).mpr ⟨a, x1, x2, x3⟩) ca
                · exact absurd ((cm zb hb).mpr ⟨a, x1, x2, x3⟩) cb
                · exact absurd ((cm zc hc).mpr ⟨a, x1, x2, x3⟩) cc
  exact loop 41 0 vh rfl (by decide) (fun _ _ => rfl) (fun o ho => by omega)
