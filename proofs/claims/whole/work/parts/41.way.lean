/-! the way from the bad change to the culprit -/
theorem w_st3 {wy : Int32} {a : Nat} (h : wy = nI a) : 3 * wy = nI (3 * a + 0) := by
  subst h
  rw [show (3 : Int32) = nI 3 from rfl, pk_mul, Nat.add_zero]
theorem w_b3 {wy : Int32} {a : Nat} (h : wy = nI a) : 3 * wy + 3 = nI (3 * a + 3) := by
  subst h
  rw [show (3 : Int32) = nI 3 from rfl, pk_mul, nI_add]
theorem fd_ok {vc vt ta : Int32} {vh vg vo vf : Nat → Bool} {vd vu vw vs va vq : Nat → Int32} {cn tn : Nat} (hcn : cn ≤ 40) (hvc : vc = nI cn) (htn : tn ≤ 4) (hvt : vt = nI tn) (h : ¬ f_m_found vc vh vt vg vo vd vu vw vs va vq vf ta = (-1)) :
    ∃ tj, tj < tn ∧ ta = nI tj ∧ ∃ gl, gl < cn ∧ f_m_found vc vh vt vg vo vd vu vw vs va vq vf ta = nI gl ∧ ∃ a0, a0 < cn ∧ vd tj = nI a0 ∧ vh (40 * a0 + gl) = true := by
  unfold f_m_found at h ⊢
  by_cases h1 : f_m_isSearch vt vo ta = true
  · rw [if_pos h1] at h ⊢
    obtain ⟨tj, htj, rfl⟩ := tg_nI htn hvt (se_tg h1)
    refine ⟨tj, htj, rfl, ?_⟩
    rw [heavy_eq hcn hvc (by omega)] at h ⊢
    rcases fnd_of (P := cuP (vs tj) (mW vc vh vt vg vo vd vu vw va vq vf tj) (f_m_total vc vh vt vg vo vd vu vw va vq vf (nI tj))) cn 0 with q | ⟨i, i1, i2, i3, i4⟩
    · exact absurd q h
    · refine ⟨i, by omega, i4, ?_⟩
      unfold cuP at i3
      rw [Bool.and_eq_true, decide_eq_true_eq] at i3
      have i5 : 0 < f_m_weight vc vh vt vg vo vd vu vw va vq vf (nI tj) (nI i) := i3.1
      unfold f_m_weight at i5
      rw [if_pos h1, if_pos (ch_of hcn hvc (by omega)), nI_clamp (by omega)] at i5
      by_cases h2 : f_m_has vc vh (vd tj) (nI i) = true
      · obtain ⟨a0, i', x1, x2, x3, x4, x5⟩ := has_ch hcn hvc h2
        have := (nI_eq (by omega) (by omega)).mp x4
        subst this
        exact ⟨a0, x1, x3, x5⟩
      · rw [if_neg h2] at i5
        exact absurd i5 (by decide)
  · rw [if_neg h1] at h
    exact absurd rfl h
/-- the least of the parents so far that has the goal -/
def wyI (vp : Nat → Int32) (vh : Nat → Bool) (a gl k : Nat) (r : Int32) : Prop := (r = (-1) ∧ ∀ e, e < k → ∀ q, q < a → vp (3 * a + e) = nI q → ¬ vh (40 * q + gl) = true) ∨ ∃ q, q < a ∧ r = nI q ∧ vh (40 * q + gl) = true ∧ (∃ e, e < k ∧ vp (3 * a + e) = nI q) ∧ ∀ e, e < k → ∀ q', q' < a → vp (3 * a + e) = nI q' → vh (40 * q' + gl) = true → q ≤ q'
theorem wyI_keep {vp : Nat → Int32} {vh : Nat → Bool} {a gl k : Nat} {r : Int32} (h : wyI vp vh a gl k r) (hk : ∀ q, q < a → vp (3 * a + k) = nI q → vh (40 * q + gl) = true → ∃ q0, r = nI q0 ∧ q0 < a ∧ q0 ≤ q) (ha : a < 2 ^ 31) : wyI vp vh a gl (k + 1) r := by
  rcases h with ⟨h1, h2⟩ | ⟨q, h1, h2, h3, ⟨e, h4, h5⟩, h6⟩
  · left
    refine ⟨h1, fun e he q hq hv => ?_⟩
    by_cases hek : e = k
    · subst hek
      intro h7
      obtain ⟨q0, h8, h9, -⟩ := hk q hq hv h7
      exact absurd (by rw [← h8, h1]; decide) (nI_pos (n := q0) (by omega))
    · exact h2 e (by omega) q hq hv
  · right
    refine ⟨q, h1, h2, h3, ⟨e, by omega, h5⟩, fun e' he' q' hq' hv h7 => ?_⟩
    by_cases hek : e' = k
    · subst hek
      obtain ⟨q0, h8, h9, h10⟩ := hk q' hq' hv h7
      have := (nI_eq (by omega) (by omega)).mp (h2.symm.trans h8)
      omega
    · exact h6 e' (by omega) q' hq' hv h7
theorem wyI_take {vp : Nat → Int32} {vh : Nat → Bool} {a gl k q : Nat} {r : Int32} (h : wyI vp vh a gl k r) (hq : q < a) (hv : vp (3 * a + k) = nI q) (hh : vh (40 * q + gl) = true) (hr : r = (-1) ∨ ∃ q0, r = nI q0 ∧ q0 < a ∧ q ≤ q0) (ha : a < 2 ^ 31) : wyI vp vh a gl (k + 1) (nI q) := by
  right
  refine ⟨q, hq, rfl, hh, ⟨k, by omega, hv⟩, fun e he q' hq' hv' hh' => ?_⟩
  by_cases hek : e = k
  · subst hek
    have := (nI_eq (by omega) (by omega)).mp (hv.symm.trans hv')
    omega
  · rcases h with ⟨h1, h2⟩ | ⟨q1, h1, h2, h3, -, h6⟩
    · exact absurd hh' (h2 e (by omega) q' hq' hv')
    · have h7 := h6 e (by omega) q' hq' hv' hh'
      rcases hr with hr | ⟨q0, x1, x2, x3⟩
      · exact absurd (by rw [← h2, hr]; decide) (nI_pos (n := q1) (by omega))
      · have := (nI_eq (by omega) (by omega)).mp (h2.symm.trans x1)
        omega
theorem d_m_way_0 : decode b_m_way 0 = .ok (.aload_n 0, 1) := by decide +kernel
theorem d_m_way_1 : decode b_m_way 1 = .ok (.iload_n 1, 1) := by decide +kernel
theorem d_m_way_2 : decode b_m_way 2 = .ok (.invokevirtual 112, 3) := by decide +kernel
theorem d_m_way_5 : decode b_m_way 5 = .ok (.istore_n 3, 1) := by decide +kernel
theorem d_m_way_6 : decode b_m_way 6 = .ok (.iload_n 3, 1) := by decide +kernel
theorem d_m_way_7 : decode b_m_way 7 = .ok (.iconst (-1), 1) := by decide +kernel
theorem d_m_way_8 : decode b_m_way 8 = .ok (.if_icmp .eq 7, 3) := by decide +kernel
theorem d_m_way_11 : decode b_m_way 11 = .ok (.iload_n 2, 1) := by decide +kernel
theorem d_m_way_12 : decode b_m_way 12 = .ok (.ifCond .ge 5, 3) := by decide +kernel
theorem d_m_way_15 : decode b_m_way 15 = .ok (.iconst (-1), 1) := by decide +kernel
theorem d_m_way_16 : decode b_m_way 16 = .ok (.ireturn, 1) := by decide +kernel
theorem d_m_way_17 : decode b_m_way 17 = .ok (.aload_n 0, 1) := by decide +kernel
theorem d_m_way_18 : decode b_m_way 18 = .ok (.getfield 29, 3) := by decide +kernel
theorem d_m_way_21 : decode b_m_way 21 = .ok (.iload_n 1, 1) := by decide +kernel
theorem d_m_way_22 : decode b_m_way 22 = .ok (.iaload, 1) := by decide +kernel
theorem d_m_way_23 : decode b_m_way 23 = .ok (.istore 4, 2) := by decide +kernel
theorem d_m_way_25 : decode b_m_way 25 = .ok (.iconst 0, 1) := by decide +kernel
theorem d_m_way_26 : decode b_m_way 26 = .ok (.istore 5, 2) := by decide +kernel
theorem d_m_way_28 : decode b_m_way 28 = .ok (.iload 5, 2) := by decide +kernel
theorem d_m_way_30 : decode b_m_way 30 = .ok (.iload_n 2, 1) := by decide +kernel
theorem d_m_way_31 : decode b_m_way 31 = .ok (.if_icmp .ge 89, 3) := by decide +kernel
theorem d_m_way_34 : decode b_m_way 34 = .ok (.iload 4, 2) := by decide +kernel
theorem d_m_way_36 : decode b_m_way 36 = .ok (.iload_n 3, 1) := by decide +kernel
theorem d_m_way_37 : decode b_m_way 37 = .ok (.if_icmp .ne 5, 3) := by decide +kernel
theorem d_m_way_40 : decode b_m_way 40 = .ok (.iconst (-1), 1) := by decide +kernel
theorem d_m_way_41 : decode b_m_way 41 = .ok (.ireturn, 1) := by decide +kernel
theorem d_m_way_42 : decode b_m_way 42 = .ok (.iconst (-1), 1) := by decide +kernel
theorem d_m_way_43 : decode b_m_way 43 = .ok (.istore 6, 2) := by decide +kernel
theorem d_m_way_45 : decode b_m_way 45 = .ok (.iconst 3, 1) := by decide +kernel
theorem d_m_way_46 : decode b_m_way 46 = .ok (.iload 4, 2) := by decide +kernel
theorem d_m_way_48 : decode b_m_way 48 = .ok (.imul, 1) := by decide +kernel
theorem d_m_way_49 : decode b_m_way 49 = .ok (.istore 7, 2) := by decide +kernel
theorem d_m_way_51 : decode b_m_way 51 = .ok (.iload 7, 2) := by decide +kernel
theorem d_m_way_53 : decode b_m_way 53 = .ok (.iconst 3, 1) := by decide +kernel
theorem d_m_way_54 : decode b_m_way 54 = .ok (.iload 4, 2) := by decide +kernel
theorem d_m_way_56 : decode b_m_way 56 = .ok (.imul, 1) := by decide +kernel
theorem d_m_way_57 : decode b_m_way 57 = .ok (.iconst 3, 1) := by decide +kernel
theorem d_m_way_58 : decode b_m_way 58 = .ok (.iadd, 1) := by decide +kernel
theorem d_m_way_59 : decode b_m_way 59 = .ok (.if_icmp .ge 51, 3) := by decide +kernel
theorem d_m_way_62 : decode b_m_way 62 = .ok (.aload_n 0, 1) := by decide +kernel
theorem d_m_way_63 : decode b_m_way 63 = .ok (.getfield 7, 3) := by decide +kernel
theorem d_m_way_66 : decode b_m_way 66 = .ok (.iload 7, 2) := by decide +kernel
theorem d_m_way_68 : decode b_m_way 68 = .ok (.iaload, 1) := by decide +kernel
theorem d_m_way_69 : decode b_m_way 69 = .ok (.istore 8, 2) := by decide +kernel
theorem d_m_way_71 : decode b_m_way 71 = .ok (.iload 8, 2) := by decide +kernel
theorem d_m_way_73 : decode b_m_way 73 = .ok (.iconst (-1), 1) := by decide +kernel
theorem d_m_way_74 : decode b_m_way 74 = .ok (.if_icmp .eq 30, 3) := by decide +kernel
theorem d_m_way_77 : decode b_m_way 77 = .ok (.aload_n 0, 1) := by decide +kernel
theorem d_m_way_78 : decode b_m_way 78 = .ok (.iload 8, 2) := by decide +kernel
theorem d_m_way_80 : decode b_m_way 80 = .ok (.iload_n 3, 1) := by decide +kernel
theorem d_m_way_81 : decode b_m_way 81 = .ok (.invokevirtual 75, 3) := by decide +kernel
theorem d_m_way_84 : decode b_m_way 84 = .ok (.ifCond .eq 20, 3) := by decide +kernel
theorem d_m_way_87 : decode b_m_way 87 = .ok (.iload 6, 2) := by decide +kernel
theorem d_m_way_89 : decode b_m_way 89 = .ok (.iconst (-1), 1) := by decide +kernel
theorem d_m_way_90 : decode b_m_way 90 = .ok (.if_icmp .eq 10, 3) := by decide +kernel
theorem d_m_way_93 : decode b_m_way 93 = .ok (.iload 8, 2) := by decide +kernel
theorem d_m_way_95 : decode b_m_way 95 = .ok (.iload 6, 2) := by decide +kernel
theorem d_m_way_97 : decode b_m_way 97 = .ok (.if_icmp .ge 7, 3) := by decide +kernel
theorem d_m_way_100 : decode b_m_way 100 = .ok (.iload 8, 2) := by decide +kernel
theorem d_m_way_102 : decode b_m_way 102 = .ok (.istore 6, 2) := by decide +kernel
theorem d_m_way_104 : decode b_m_way 104 = .ok (.iinc 7 1, 3) := by decide +kernel
theorem d_m_way_107 : decode b_m_way 107 = .ok (.goto (-56), 3) := by decide +kernel
theorem d_m_way_110 : decode b_m_way 110 = .ok (.iload 6, 2) := by decide +kernel
theorem d_m_way_112 : decode b_m_way 112 = .ok (.istore 4, 2) := by decide +kernel
theorem d_m_way_114 : decode b_m_way 114 = .ok (.iinc 5 1, 3) := by decide +kernel
theorem d_m_way_117 : decode b_m_way 117 = .ok (.goto (-89), 3) := by decide +kernel
theorem d_m_way_120 : decode b_m_way 120 = .ok (.iload 4, 2) := by decide +kernel
theorem d_m_way_122 : decode b_m_way 122 = .ok (.ireturn, 1) := by decide +kernel
def L_m_way_51 (vc : Int32) (vp : Nat → Int32) (vh : Nat → Bool) (vt : Int32) (vg : Nat → Bool) (vo : Nat → Bool) (vd : Nat → Int32) (vu : Nat → Int32) (vw : Nat → Int32) (vs : Nat → Int32) (va : Nat → Int32) (vq : Nat → Int32) (vf : Nat → Bool) (ta : Int32) (kk : Int32) (wy : Int32) : Nat → Int32 → Int32 → Int32 × Int32
  | 0, _, _ => (0, 0)
  | n + 1, nx, xj => if ((3 * wy) + 3) ≤ xj then
    ((nx, xj))
  else
    (if (vp xj.toNatClampNeg) = (-1) then
      (L_m_way_51 vc vp vh vt vg vo vd vu vw vs va vq vf ta kk wy n nx (xj + 1))
    else
      (if (f_m_has vc vh (vp xj.toNatClampNeg) (f_m_found vc vh vt vg vo vd vu vw vs va vq vf ta)) = true then
        (if nx = (-1) then
          (L_m_way_51 vc vp vh vt vg vo vd vu vw vs va vq vf ta kk wy n (vp xj.toNatClampNeg) (xj + 1))
        else
          (if nx ≤ (vp xj.toNatClampNeg) then
            (L_m_way_51 vc vp vh vt vg vo vd vu vw vs va vq vf ta kk wy n nx (xj + 1))
          else
            (L_m_way_51 vc vp vh vt vg vo vd vu vw vs va vq vf ta kk wy n (vp xj.toNatClampNeg) (xj + 1))))
      else
        (L_m_way_51 vc vp vh vt vg vo vd vu vw vs va vq vf ta kk wy n nx (xj + 1))))
theorem L_m_way_51_s (vc : Int32) (vp : Nat → Int32) (vh : Nat → Bool) (vt : Int32) (vg : Nat → Bool) (vo : Nat → Bool) (vd : Nat → Int32) (vu : Nat → Int32) (vw : Nat → Int32) (vs : Nat → Int32) (va : Nat → Int32) (vq : Nat → Int32) (vf : Nat → Bool) (ta : Int32) (kk : Int32) (wy : Int32) (n : Nat) (nx : Int32) (xj : Int32) : L_m_way_51 vc vp vh vt vg vo vd vu vw vs va vq vf ta kk wy (n + 1) nx xj = if ((3 * wy) + 3) ≤ xj then
    ((nx, xj))
  else
    (if (vp xj.toNatClampNeg) = (-1) then
      (L_m_way_51 vc vp vh vt vg vo vd vu vw vs va vq vf ta kk wy n nx (xj + 1))
    else
      (if (f_m_has vc vh (vp xj.toNatClampNeg) (f_m_found vc vh vt vg vo vd vu vw vs va vq vf ta)) = true then
        (if nx = (-1) then
          (L_m_way_51 vc vp vh vt vg vo vd vu vw vs va vq vf ta kk wy n (vp xj.toNatClampNeg) (xj + 1))
        else
          (if nx ≤ (vp xj.toNatClampNeg) then
            (L_m_way_51 vc vp vh vt vg vo vd vu vw vs va vq vf ta kk wy n nx (xj + 1))
          else
            (L_m_way_51 vc vp vh vt vg vo vd vu vw vs va vq vf ta kk wy n (vp xj.toNatClampNeg) (xj + 1))))
      else
        (L_m_way_51 vc vp vh vt vg vo vd vu vw vs va vq vf ta kk wy n nx (xj + 1)))) := rfl
def L_m_way_28 (vc : Int32) (vp : Nat → Int32) (vh : Nat → Bool) (vt : Int32) (vg : Nat → Bool) (vo : Nat → Bool) (vd : Nat → Int32) (vu : Nat → Int32) (vw : Nat → Int32) (vs : Nat → Int32) (va : Nat → Int32) (vq : Nat → Int32) (vf : Nat → Bool) (ta : Int32) (kk : Int32) : Nat → Int32 → Int32 → Int32
  | 0, _, _ => 0
  | n + 1, wy, xi => if kk ≤ xi then
    (wy)
  else
    (if wy = (f_m_found vc vh vt vg vo vd vu vw vs va vq vf ta) then
      ((-1))
    else
      (L_m_way_28 vc vp vh vt vg vo vd vu vw vs va vq vf ta kk n ((L_m_way_51 vc vp vh vt vg vo vd vu vw vs va vq vf ta kk wy 4 (-1) (3 * wy)).1) (xi + 1)))
theorem L_m_way_28_s (vc : Int32) (vp : Nat → Int32) (vh : Nat → Bool) (vt : Int32) (vg : Nat → Bool) (vo : Nat → Bool) (vd : Nat → Int32) (vu : Nat → Int32) (vw : Nat → Int32) (vs : Nat → Int32) (va : Nat → Int32) (vq : Nat → Int32) (vf : Nat → Bool) (ta : Int32) (kk : Int32) (n : Nat) (wy : Int32) (xi : Int32) : L_m_way_28 vc vp vh vt vg vo vd vu vw vs va vq vf ta kk (n + 1) wy xi = if kk ≤ xi then
    (wy)
  else
    (if wy = (f_m_found vc vh vt vg vo vd vu vw vs va vq vf ta) then
      ((-1))
    else
      (L_m_way_28 vc vp vh vt vg vo vd vu vw vs va vq vf ta kk n ((L_m_way_51 vc vp vh vt vg vo vd vu vw vs va vq vf ta kk wy 4 (-1) (3 * wy)).1) (xi + 1))) := rfl
def f_m_way (vc : Int32) (vp : Nat → Int32) (vh : Nat → Bool) (vt : Int32) (vg : Nat → Bool) (vo : Nat → Bool) (vd : Nat → Int32) (vu : Nat → Int32) (vw : Nat → Int32) (vs : Nat → Int32) (va : Nat → Int32) (vq : Nat → Int32) (vf : Nat → Bool) (ta : Int32) (kk : Int32) : Int32 := if (f_m_found vc vh vt vg vo vd vu vw vs va vq vf ta) = (-1) then
    ((-1))
  else
    (if 0 ≤ kk then
      (L_m_way_28 vc vp vh vt vg vo vd vu vw vs va vq vf ta kk 41 (vd ta.toNatClampNeg) 0)
    else
      ((-1)))
theorem way_in {vc vt ta kk wy : Int32} {vp : Nat → Int32} {vh vg vo vf : Nat → Bool} {vd vu vw vs va vq : Nat → Int32} {cn a gl : Nat} (hcn : cn ≤ 40) (hvc : vc = nI cn) (hpr : ∀ a, a < cn → ∀ e, e < 3 → vp (3 * a + e) = (-1) ∨ ∃ q, q < a ∧ vp (3 * a + e) = nI q) (hgl : gl < cn) (hge : f_m_found vc vh vt vg vo vd vu vw vs va vq vf ta = nI gl) (ha : a < cn) (hae : wy = nI a) : wyI vp vh a gl 3 (L_m_way_51 vc vp vh vt vg vo vd vu vw vs va vq vf ta kk wy 4 (-1) (3 * wy)).1 := by
  have hb := w_b3 hae
  have loop : ∀ (n k : Nat) (nx : Int32), k + n = 4 → k ≤ 3 → wyI vp vh a gl k nx → wyI vp vh a gl 3 (L_m_way_51 vc vp vh vt vg vo vd vu vw vs va vq vf ta kk wy n nx (nI (3 * a + k))).1 := by
    intro n
    induction n with
    | zero => intro k nx h1 h2; omega
    | succ n ih =>
      intro k nx h1 h2 hw
      rw [L_m_way_51_s, hb]
      by_cases h : k = 3
      · subst h; rw [if_pos (nI_le (Nat.le_refl _) (by omega))]; exact hw
      · rw [if_neg (nI_ge (by omega) (by omega)), nI_clamp (by omega), nI_1, hge]
        have nx_of : ¬ nx = (-1) → ∃ q0, q0 < a ∧ nx = nI q0 := fun q => by
          rcases hw with ⟨h3, -⟩ | ⟨q0, h3, h4, -⟩
          · exact absurd h3 q
          · exact ⟨q0, h3, h4⟩
        rcases hpr a ha k (by omega) with hv | ⟨q, hq, hv⟩
        · rw [if_pos hv]
          exact ih (k + 1) nx (by omega) (by omega) (wyI_keep hw (fun q hq hv' => by
            rw [hv] at hv'
            exact absurd (by rw [← hv']; decide) (nI_pos (n := q) (by omega))) (by omega))
        · have hne : ¬ vp (3 * a + k) = (-1) := by
            rw [hv]
            intro z
            exact absurd (by rw [z]; decide) (nI_pos (n := q) (by omega))
          rw [if_neg hne, hv, has_at hcn hvc (by omega) hgl]
          by_cases hh : vh (40 * q + gl) = true
          · rw [if_pos hh]
            by_cases hn : nx = (-1)
            · rw [if_pos hn]
              exact ih (k + 1) _ (by omega) (by omega) (wyI_take hw hq hv hh (Or.inl hn) (by omega))
            · obtain ⟨q0, x1, x2⟩ := nx_of hn
              rw [if_neg hn]
              by_cases hl : nx ≤ nI q
              · rw [if_pos hl]
                have hl2 : q0 ≤ q := by rw [x2] at hl; exact (nI_leI (by omega) (by omega)).mp hl
                exact ih (k + 1) nx (by omega) (by omega) (wyI_keep hw (fun q' hq' hv' _ => by
                  have := (nI_eq (by omega) (by omega)).mp (hv.symm.trans hv')
                  exact ⟨q0, x2, x1, by omega⟩) (by omega))
              · rw [if_neg hl]
                have hl2 : q ≤ q0 := by
                  apply Nat.le_of_lt
                  apply Nat.lt_of_not_le
                  intro z
                  exact hl (by rw [x2]; exact nI_le z (by omega))
                exact ih (k + 1) _ (by omega) (by omega) (wyI_take hw hq hv hh (Or.inr ⟨q0, x2, x1, hl2⟩) (by omega))
          · rw [if_neg hh]
            exact ih (k + 1) nx (by omega) (by omega) (wyI_keep hw (fun q' hq' hv' hh' => by
              have := (nI_eq (by omega) (by omega)).mp (hv.symm.trans hv')
              subst this
              exact absurd hh' hh) (by omega))
  rw [w_st3 hae]
  exact loop 4 0 (-1) rfl (by decide) (Or.inl ⟨rfl, fun e he => absurd he (Nat.not_lt_zero e)⟩)
theorem way_step {vc vt ta kk wy : Int32} {vp : Nat → Int32} {vh vg vo vf : Nat → Bool} {vd vu vw vs va vq : Nat → Int32} {cn a gl k : Nat} (hcn : cn ≤ 40) (hvc : vc = nI cn) (hpr : ∀ a, a < cn → ∀ e, e < 3 → vp (3 * a + e) = (-1) ∨ ∃ q, q < a ∧ vp (3 * a + e) = nI q) (hst : ∀ a, a < cn → ∀ o, o < 40 → vh (40 * a + o) = true → a = o ∨ ∃ e q, e < 3 ∧ q < a ∧ vp (3 * a + e) = nI q ∧ vh (40 * q + o) = true) (hgl : gl < cn) (hge : f_m_found vc vh vt vg vo vd vu vw vs va vq vf ta = nI gl) (hae : wy = nI a) (hah : vh (40 * a + gl) = true) (hag : a ≠ gl) (hak : a + k < cn) :
    ∃ a', (L_m_way_51 vc vp vh vt vg vo vd vu vw vs va vq vf ta kk wy 4 (-1) (3 * wy)).1 = nI a' ∧ a' + (k + 1) < cn ∧ vh (40 * a' + gl) = true := by
  rcases way_in (kk := kk) hcn hvc hpr hgl hge (by omega) hae with ⟨h1, h2⟩ | ⟨q, h1, h2, h3, -⟩
  · rcases hst a (by omega) gl (by omega) hah with x | ⟨e, q, x1, x2, x3, x4⟩
    · exact absurd x hag
    · exact absurd x4 (h2 e x1 q x2 x3)
  · exact ⟨q, h2, by omega, h3⟩

set_option maxHeartbeats 4000000 in
set_option maxRecDepth 100000 in
theorem c_m_way (l : Launch) (D : va_G) (cA : Nat → ClassId) (mo qp qh qk qb qg qo qd qu qw qs qx qa qq qf : Nat) (vc : Int32) (vp : Nat → Int32) (vh : Nat → Bool) (vk : Nat → Bool) (vb : Nat → Bool) (vt : Int32) (vg : Nat → Bool) (vo : Nat → Bool) (vd : Nat → Int32) (vu : Nat → Int32) (vw : Nat → Int32) (vs : Nat → Int32) (vx : Nat → Int32) (va : Nat → Int32) (vq : Nat → Int32) (vf : Nat → Bool) (ta : Int32) (kk : Int32) (cn : Nat) (hcn : cn ≤ 40) (hvc : vc = nI cn) (tn : Nat) (htn : tn ≤ 4) (hvt : vt = nI tn) (hva : ∀ i, i < 4 → ∃ a, a ≤ 15 ∧ va i = nI a) (hpr : ∀ a, a < cn → ∀ e, e < 3 → vp (3 * a + e) = (-1) ∨ ∃ q, q < a ∧ vp (3 * a + e) = nI q) (hst : ∀ a, a < cn → ∀ o, o < 40 → vh (40 * a + o) = true → a = o ∨ ∃ e q, e < 3 ∧ q < a ∧ vp (3 * a + e) = nI q ∧ vh (40 * q + o) = true) : Met l y_m_way (.code y_m_way b_m_way 9 (some .int) :: tb) (rmd 8) (Pro D cA [.ref mo, .int ta, .int kk] (va_P D classes [(mo, .inr (3, [.int vc, .ref qp, .ref qh, .ref qk, .ref qb, .int vt, .ref qg, .ref qo, .ref qd, .ref qu, .ref qw, .ref qs, .ref qx, .ref qa, .ref qq, .ref qf])), (qp, .inl (cA 2, 120, .inl vp)), (qh, .inl (cA 3, 1600, .inl (fun i => bz (vh i)))), (qk, .inl (cA 3, 40, .inl (fun i => bz (vk i)))), (qb, .inl (cA 3, 40, .inl (fun i => bz (vb i)))), (qg, .inl (cA 3, 160, .inl (fun i => bz (vg i)))), (qo, .inl (cA 3, 4, .inl (fun i => bz (vo i)))), (qd, .inl (cA 2, 4, .inl vd)), (qu, .inl (cA 2, 4, .inl vu)), (qw, .inl (cA 2, 4, .inl vw)), (qs, .inl (cA 2, 4, .inl vs)), (qx, .inl (cA 2, 4, .inl vx)), (qa, .inl (cA 2, 4, .inl va)), (qq, .inl (cA 2, 60, .inl vq)), (qf, .inl (cA 3, 60, .inl (fun i => bz (vf i))))])) (Qro (.int (f_m_way vc vp vh vt vg vo vd vu vw vs va vq vf ta kk))) 0 0 nof := by
  refine ro_in (by decide) (Nat.le_of_ble_eq_true rfl) (fun p e s m below meth c ls FX hnm hK hP hl => ?_)
  have hl : lv_has ls 9 [(0, .ref mo), (1, .int ta), (2, .int kk)] := hl
  have hP : va_P D classes [(mo, .inr (3, [.int vc, .ref qp, .ref qh, .ref qk, .ref qb, .int vt, .ref qg, .ref qo, .ref qd, .ref qu, .ref qw, .ref qs, .ref qx, .ref qa, .ref qq, .ref qf])), (qp, .inl (cA 2, 120, .inl vp)), (qh, .inl (cA 3, 1600, .inl (fun i => bz (vh i)))), (qk, .inl (cA 3, 40, .inl (fun i => bz (vk i)))), (qb, .inl (cA 3, 40, .inl (fun i => bz (vb i)))), (qg, .inl (cA 3, 160, .inl (fun i => bz (vg i)))), (qo, .inl (cA 3, 4, .inl (fun i => bz (vo i)))), (qd, .inl (cA 2, 4, .inl vd)), (qu, .inl (cA 2, 4, .inl vu)), (qw, .inl (cA 2, 4, .inl vw)), (qs, .inl (cA 2, 4, .inl vs)), (qx, .inl (cA 2, 4, .inl vx)), (qa, .inl (cA 2, 4, .inl va)), (qq, .inl (cA 2, 60, .inl vq)), (qf, .inl (cA 3, 60, .inl (fun i => bz (vf i))))] s.heap := hP
  generalize ([.ref mo, .int ta, .int kk] : List Value).toArray = args at FX ⊢
  obtain ⟨hx, hb, hml, hown, hts, hr, hlk⟩ := id FX
  refine lv_aload_n hx hb d_m_way_0 rfl (lv_at hl 0 rfl) ?_
  refine lv_iload_n hx hb d_m_way_1 rfl (lv_at hl 1 rfl) ?_
  refine ro_V (v := .int (f_m_found vc vh vt vg vo vd vu vw vs va vq vf ta)) (As := [.int ta]) (rest := []) (q0 := 0) FX hK (c_m_found l D cA mo qp qh qk qb qg qo qd qu qw qs qx qa qq qf vc vp vh vk vb vt vg vo vd vu vw vs vx va vq vf ta cn hcn hvc tn htn hvt hva) hP hP rfl rfl rfl kc_m_found km_m_112 ki_m ks_m_found ke_m_found rfl ok_m_found ⟨Nat.le_of_ble_eq_true rfl, Nat.le_of_ble_eq_true rfl⟩ ⟨Nat.zero_le _, Nat.zero_le _⟩ hl.1 rfl (Nat.le_of_ble_eq_true rfl) d_m_way_2 ?_
  refine lv_istore_n (lv' := [(3, .int (f_m_found vc vh vt vg vo vd vu vw vs va vq vf ta)), (0, .ref mo), (1, .int ta), (2, .int kk)]) hx hb d_m_way_5 rfl hl (by decide) rfl (fun ls hl => ?_)
  refine lv_iload_n hx hb d_m_way_6 rfl (lv_at hl 0 rfl) ?_
  refine lv_iconst (v := (-1)) hx hb d_m_way_7 (by decide) ?_
  refine lv_icmp_eq (tgt := 15) hx hb d_m_way_8 (by decide) (fun c1 => ?_) (fun c1 => ?_)
  · have c1 := c1
    refine lv_iconst (v := (-1)) hx hb d_m_way_15 (by decide) ?_
    exact ro_iret FX (by rw [f_m_way, if_pos c1]) d_m_way_16
  · have c1 := c1
    obtain ⟨tj, htj, htt, gl, hgl, hge, a0, ha0, hde, hh0⟩ := fd_ok hcn hvc htn hvt c1
    refine lv_iload_n hx hb d_m_way_11 rfl (lv_at hl 3 rfl) ?_
    refine lv_if_ge (tgt := 17) hx hb d_m_way_12 (by decide) (fun c2 => ?_) (fun c2 => ?_)
    · have c2 := c2
      refine lv_aload_n hx hb d_m_way_17 rfl (lv_at hl 1 rfl) ?_
      refine ro_get (v := .ref qd) FX hK hP 0 8 rfl rfl rfl i_m (by decide) kf_m_29 d_m_way_18 ?_
      refine lv_iload_n hx hb d_m_way_21 rfl (lv_at hl 2 rfl) ?_
      refine va_iald hx hb hK.1 hP 7 2 rfl rfl (vin htt (by omega) (by decide)) d_m_way_22 ?_
      refine lv_istore (lv' := [(4, .int (vd ta.toNatClampNeg)), (3, .int (f_m_found vc vh vt vg vo vd vu vw vs va vq vf ta)), (0, .ref mo), (1, .int ta), (2, .int kk)]) hx hb d_m_way_23 hl (by decide) rfl (fun ls hl => ?_)
      refine lv_iconst (v := 0) hx hb d_m_way_25 (by decide) ?_
      refine lv_istore (lv' := [(5, .int 0), (4, .int (vd ta.toNatClampNeg)), (3, .int (f_m_found vc vh vt vg vo vd vu vw vs va vq vf ta)), (0, .ref mo), (1, .int ta), (2, .int kk)]) hx hb d_m_way_26 hl (by decide) rfl (fun ls hl => ?_)
      have loop : ∀ (n k : Nat) (wy : Int32) (xi : Int32) (ls : Array Slot), k + n = 41 → k ≤ 40 → xi = nI k → (∃ a, wy = nI a ∧ a + k < cn ∧ vh (40 * a + gl) = true) → lv_has ls 9 [(0, .ref mo), (1, .int ta), (2, .int kk), (3, .int (f_m_found vc vh vt vg vo vd vu vw vs va vq vf ta)), (4, .int wy), (5, .int xi)] → W p l e (rmd 8) s m args below meth c s.heap [] 0 0 (MQ below (Qro (.int (L_m_way_28 vc vp vh vt vg vo vd vu vw vs va vq vf ta kk n wy xi))) args s 0 0 nof) (F0 m 28 ls []) := by
        intro n
        induction n with
        | zero =>
          intro k wy xi ls h1 h2
          exact absurd h1 (by omega)
        | succ n ih =>
          intro k wy xi ls hkn hk hxi hwy hl
          refine lv_iload hx hb d_m_way_28 (lv_at hl 5 rfl) ?_
          refine lv_iload_n hx hb d_m_way_30 rfl (lv_at hl 2 rfl) ?_
          refine lv_icmp_ge (tgt := 120) hx hb d_m_way_31 (by decide) (fun c3 => ?_) (fun c3 => ?_)
          · have c3 := c3
            refine lv_iload hx hb d_m_way_120 (lv_at hl 4 rfl) ?_
            exact ro_iret FX (by rw [L_m_way_28_s, if_pos c3]) d_m_way_122
          · have c3 := c3
            refine lv_iload hx hb d_m_way_34 (lv_at hl 4 rfl) ?_
            refine lv_iload_n hx hb d_m_way_36 rfl (lv_at hl 3 rfl) ?_
            refine lv_icmp_ne (tgt := 42) hx hb d_m_way_37 (by decide) (fun c4 => ?_) (fun c4 => ?_)
            · have c4 := c4
              obtain ⟨a, hae, hak, hah⟩ := hwy
              have hag : a ≠ gl := fun q => c4 (by rw [hae, hge, q])
              refine lv_iconst (v := (-1)) hx hb d_m_way_42 (by decide) ?_
              refine lv_istore (lv' := [(6, .int (-1)), (0, .ref mo), (1, .int ta), (2, .int kk), (3, .int (f_m_found vc vh vt vg vo vd vu vw vs va vq vf ta)), (4, .int wy), (5, .int xi)]) hx hb d_m_way_43 hl (by decide) rfl (fun ls hl => ?_)
              refine lv_iconst (v := 3) hx hb d_m_way_45 (by decide) ?_
              refine lv_iload hx hb d_m_way_46 (lv_at hl 5 rfl) ?_
              refine lv_imul hx hb d_m_way_48 ?_
              refine lv_istore (lv' := [(7, .int (3 * wy)), (6, .int (-1)), (0, .ref mo), (1, .int ta), (2, .int kk), (3, .int (f_m_found vc vh vt vg vo vd vu vw vs va vq vf ta)), (4, .int wy), (5, .int xi)]) hx hb d_m_way_49 hl (by decide) rfl (fun ls hl => ?_)
              have loop2 : ∀ (Q : State → Prop) (n2 k2 : Nat) (nx : Int32) (xj : Int32) (ls : Array Slot), k2 + n2 = 4 → k2 ≤ 3 → xj = nI (3 * a + k2) → lv_has ls 9 [(0, .ref mo), (1, .int ta), (2, .int kk), (3, .int (f_m_found vc vh vt vg vo vd vu vw vs va vq vf ta)), (4, .int wy), (5, .int xi), (6, .int nx), (7, .int xj)] → (∀ ls : Array Slot, lv_has ls 9 [(0, .ref mo), (1, .int ta), (2, .int kk), (3, .int (f_m_found vc vh vt vg vo vd vu vw vs va vq vf ta)), (4, .int wy), (5, .int xi), (6, .int ((L_m_way_51 vc vp vh vt vg vo vd vu vw vs va vq vf ta kk wy n2 nx xj).1)), (7, .int ((L_m_way_51 vc vp vh vt vg vo vd vu vw vs va vq vf ta kk wy n2 nx xj).2))] → W p l e (rmd 8) s m args below meth c s.heap [] 0 0 Q (F0 m 110 ls [])) → W p l e (rmd 8) s m args below meth c s.heap [] 0 0 Q (F0 m 51 ls []) := by
                intro Q n2
                induction n2 with
                | zero =>
                  intro k2 nx xj ls h1 h2
                  exact absurd h1 (by omega)
                | succ n2 ih2 =>
                  intro k2 nx xj ls hkn2 hk2 hxi2 hl kk2
                  refine lv_iload hx hb d_m_way_51 (lv_at hl 7 rfl) ?_
                  refine lv_iconst (v := 3) hx hb d_m_way_53 (by decide) ?_
                  refine lv_iload hx hb d_m_way_54 (lv_at hl 4 rfl) ?_
                  refine lv_imul hx hb d_m_way_56 ?_
                  refine lv_iconst (v := 3) hx hb d_m_way_57 (by decide) ?_
                  refine lv_iadd hx hb d_m_way_58 ?_
                  refine lv_icmp_ge (tgt := 110) hx hb d_m_way_59 (by decide) (fun c5 => ?_) (fun c5 => ?_)
                  · have c5 := c5
                    exact kk2 ls (by rw [L_m_way_51_s, if_pos c5]; exact lv_sub hl [0, 1, 2, 3, 4, 5, 6, 7] rfl)
                  · have c5 := c5
                    have hk12 : 3 * a + k2 < 3 * a + 3 := k_lt hxi2 (w_b3 hae) c5 (by omega)
                    refine lv_aload_n hx hb d_m_way_62 rfl (lv_at hl 0 rfl) ?_
                    refine ro_get (v := .ref qp) FX hK hP 0 1 rfl rfl rfl i_m (by decide) kf_m_7 d_m_way_63 ?_
                    refine lv_iload hx hb d_m_way_66 (lv_at hl 7 rfl) ?_
                    refine va_iald hx hb hK.1 hP 1 2 rfl rfl (vin hxi2 (by omega) (by decide)) d_m_way_68 ?_
                    refine lv_istore (lv' := [(8, .int (vp xj.toNatClampNeg)), (0, .ref mo), (1, .int ta), (2, .int kk), (3, .int (f_m_found vc vh vt vg vo vd vu vw vs va vq vf ta)), (4, .int wy), (5, .int xi), (6, .int nx), (7, .int xj)]) hx hb d_m_way_69 hl (by decide) rfl (fun ls hl => ?_)
                    refine lv_iload hx hb d_m_way_71 (lv_at hl 0 rfl) ?_
                    refine lv_iconst (v := (-1)) hx hb d_m_way_73 (by decide) ?_
                    refine lv_icmp_eq (tgt := 104) hx hb d_m_way_74 (by decide) (fun c6 => ?_) (fun c6 => ?_)
                    · have c6 := c6
                      refine lv_iinc (v := xj + 1) (lv' := [(7, .int (xj + 1)), (8, .int (vp xj.toNatClampNeg)), (0, .ref mo), (1, .int ta), (2, .int kk), (3, .int (f_m_found vc vh vt vg vo vd vu vw vs va vq vf ta)), (4, .int wy), (5, .int xi), (6, .int nx)]) hx hb d_m_way_104 hl (k := 8) rfl rfl (by decide) rfl (fun ls hl => ?_)
                      refine lv_goto (tgt := 51) hx hb d_m_way_107 (by decide) ?_
                      exact ih2 (k2 + 1) nx (xj + 1) ls (by omega) (by omega) (by rw [hxi2]; exact nI_1 _)  (lv_sub hl [2, 3, 4, 5, 6, 7, 8, 0] rfl) (fun ls hl => kk2 ls (by rw [L_m_way_51_s, if_neg c5, if_pos c6]; exact hl))
                    · have c6 := c6
                      refine lv_aload_n hx hb d_m_way_77 rfl (lv_at hl 1 rfl) ?_
                      refine lv_iload hx hb d_m_way_78 (lv_at hl 0 rfl) ?_
                      refine lv_iload_n hx hb d_m_way_80 rfl (lv_at hl 4 rfl) ?_
                      refine ro_V (v := .int (bz (f_m_has vc vh (vp xj.toNatClampNeg) (f_m_found vc vh vt vg vo vd vu vw vs va vq vf ta)))) (As := [.int (vp xj.toNatClampNeg), .int (f_m_found vc vh vt vg vo vd vu vw vs va vq vf ta)]) (rest := []) (q0 := 0) FX hK (c_m_has l D cA mo qp qh qk qb qg qo qd qu qw qs qx qa qq qf vc vp vh vk vb vt vg vo vd vu vw vs vx va vq vf (vp xj.toNatClampNeg) (f_m_found vc vh vt vg vo vd vu vw vs va vq vf ta) cn hcn hvc) hP hP rfl rfl rfl kc_m_has km_m_75 ki_m ks_m_has ke_m_has rfl ok_m_has ⟨Nat.le_of_ble_eq_true rfl, Nat.le_of_ble_eq_true rfl⟩ ⟨Nat.zero_le _, Nat.zero_le _⟩ hl.1 rfl (Nat.le_of_ble_eq_true rfl) d_m_way_81 ?_
                      refine lv_if_eq (tgt := 104) hx hb d_m_way_84 (by decide) (fun c7 => ?_) (fun c7 => ?_)
                      · have c7 := bz_f c7
                        refine lv_iinc (v := xj + 1) (lv' := [(7, .int (xj + 1)), (8, .int (vp xj.toNatClampNeg)), (0, .ref mo), (1, .int ta), (2, .int kk), (3, .int (f_m_found vc vh vt vg vo vd vu vw vs va vq vf ta)), (4, .int wy), (5, .int xi), (6, .int nx)]) hx hb d_m_way_104 hl (k := 8) rfl rfl (by decide) rfl (fun ls hl => ?_)
                        refine lv_goto (tgt := 51) hx hb d_m_way_107 (by decide) ?_
                        exact ih2 (k2 + 1) nx (xj + 1) ls (by omega) (by omega) (by rw [hxi2]; exact nI_1 _)  (lv_sub hl [2, 3, 4, 5, 6, 7, 8, 0] rfl) (fun ls hl => kk2 ls (by rw [L_m_way_51_s, if_neg c5, if_neg c6, if_neg c7]; exact hl))
                      · have c7 := bz_t c7
                        refine lv_iload hx hb d_m_way_87 (lv_at hl 7 rfl) ?_
                        refine lv_iconst (v := (-1)) hx hb d_m_way_89 (by decide) ?_
                        refine lv_icmp_eq (tgt := 100) hx hb d_m_way_90 (by decide) (fun c8 => ?_) (fun c8 => ?_)
                        · have c8 := c8
                          refine lv_iload hx hb d_m_way_100 (lv_at hl 0 rfl) ?_
                          refine lv_istore (lv' := [(6, .int (vp xj.toNatClampNeg)), (8, .int (vp xj.toNatClampNeg)), (0, .ref mo), (1, .int ta), (2, .int kk), (3, .int (f_m_found vc vh vt vg vo vd vu vw vs va vq vf ta)), (4, .int wy), (5, .int xi), (7, .int xj)]) hx hb d_m_way_102 hl (by decide) rfl (fun ls hl => ?_)
                          refine lv_iinc (v := xj + 1) (lv' := [(7, .int (xj + 1)), (6, .int (vp xj.toNatClampNeg)), (8, .int (vp xj.toNatClampNeg)), (0, .ref mo), (1, .int ta), (2, .int kk), (3, .int (f_m_found vc vh vt vg vo vd vu vw vs va vq vf ta)), (4, .int wy), (5, .int xi)]) hx hb d_m_way_104 hl (k := 8) rfl rfl (by decide) rfl (fun ls hl => ?_)
                          refine lv_goto (tgt := 51) hx hb d_m_way_107 (by decide) ?_
                          exact ih2 (k2 + 1) (vp xj.toNatClampNeg) (xj + 1) ls (by omega) (by omega) (by rw [hxi2]; exact nI_1 _)  (lv_sub hl [3, 4, 5, 6, 7, 8, 1, 0] rfl) (fun ls hl => kk2 ls (by rw [L_m_way_51_s, if_neg c5, if_neg c6, if_pos c7, if_pos c8]; exact hl))
                        · have c8 := c8
                          refine lv_iload hx hb d_m_way_93 (lv_at hl 0 rfl) ?_
                          refine lv_iload hx hb d_m_way_95 (lv_at hl 7 rfl) ?_
                          refine lv_icmp_ge (tgt := 104) hx hb d_m_way_97 (by decide) (fun c9 => ?_) (fun c9 => ?_)
                          · have c9 := c9
                            refine lv_iinc (v := xj + 1) (lv' := [(7, .int (xj + 1)), (8, .int (vp xj.toNatClampNeg)), (0, .ref mo), (1, .int ta), (2, .int kk), (3, .int (f_m_found vc vh vt vg vo vd vu vw vs va vq vf ta)), (4, .int wy), (5, .int xi), (6, .int nx)]) hx hb d_m_way_104 hl (k := 8) rfl rfl (by decide) rfl (fun ls hl => ?_)
                            refine lv_goto (tgt := 51) hx hb d_m_way_107 (by decide) ?_
                            exact ih2 (k2 + 1) nx (xj + 1) ls (by omega) (by omega) (by rw [hxi2]; exact nI_1 _)  (lv_sub hl [2, 3, 4, 5, 6, 7, 8, 0] rfl) (fun ls hl => kk2 ls (by rw [L_m_way_51_s, if_neg c5, if_neg c6, if_pos c7, if_neg c8, if_pos c9]; exact hl))
                          · have c9 := c9
                            refine lv_iload hx hb d_m_way_100 (lv_at hl 0 rfl) ?_
                            refine lv_istore (lv' := [(6, .int (vp xj.toNatClampNeg)), (8, .int (vp xj.toNatClampNeg)), (0, .ref mo), (1, .int ta), (2, .int kk), (3, .int (f_m_found vc vh vt vg vo vd vu vw vs va vq vf ta)), (4, .int wy), (5, .int xi), (7, .int xj)]) hx hb d_m_way_102 hl (by decide) rfl (fun ls hl => ?_)
                            refine lv_iinc (v := xj + 1) (lv' := [(7, .int (xj + 1)), (6, .int (vp xj.toNatClampNeg)), (8, .int (vp xj.toNatClampNeg)), (0, .ref mo), (1, .int ta), (2, .int kk), (3, .int (f_m_found vc vh vt vg vo vd vu vw vs va vq vf ta)), (4, .int wy), (5, .int xi)]) hx hb d_m_way_104 hl (k := 8) rfl rfl (by decide) rfl (fun ls hl => ?_)
                            refine lv_goto (tgt := 51) hx hb d_m_way_107 (by decide) ?_
                            exact ih2 (k2 + 1) (vp xj.toNatClampNeg) (xj + 1) ls (by omega) (by omega) (by rw [hxi2]; exact nI_1 _)  (lv_sub hl [3, 4, 5, 6, 7, 8, 1, 0] rfl) (fun ls hl => kk2 ls (by rw [L_m_way_51_s, if_neg c5, if_neg c6, if_pos c7, if_neg c8, if_neg c9]; exact hl))
              refine loop2 _ 4 0 (-1) (3 * wy) ls rfl (Nat.zero_le _) (w_st3 hae)  (lv_sub hl [2, 3, 4, 5, 6, 7, 1, 0] rfl) (fun ls hl => ?_)
              refine lv_iload hx hb d_m_way_110 (lv_at hl 6 rfl) ?_
              refine lv_istore (lv' := [(4, .int ((L_m_way_51 vc vp vh vt vg vo vd vu vw vs va vq vf ta kk wy 4 (-1) (3 * wy)).1)), (0, .ref mo), (1, .int ta), (2, .int kk), (3, .int (f_m_found vc vh vt vg vo vd vu vw vs va vq vf ta)), (5, .int xi), (6, .int ((L_m_way_51 vc vp vh vt vg vo vd vu vw vs va vq vf ta kk wy 4 (-1) (3 * wy)).1)), (7, .int ((L_m_way_51 vc vp vh vt vg vo vd vu vw vs va vq vf ta kk wy 4 (-1) (3 * wy)).2))]) hx hb d_m_way_112 hl (by decide) rfl (fun ls hl => ?_)
              refine lv_iinc (v := xi + 1) (lv' := [(5, .int (xi + 1)), (4, .int ((L_m_way_51 vc vp vh vt vg vo vd vu vw vs va vq vf ta kk wy 4 (-1) (3 * wy)).1)), (0, .ref mo), (1, .int ta), (2, .int kk), (3, .int (f_m_found vc vh vt vg vo vd vu vw vs va vq vf ta)), (6, .int ((L_m_way_51 vc vp vh vt vg vo vd vu vw vs va vq vf ta kk wy 4 (-1) (3 * wy)).1)), (7, .int ((L_m_way_51 vc vp vh vt vg vo vd vu vw vs va vq vf ta kk wy 4 (-1) (3 * wy)).2))]) hx hb d_m_way_114 hl (k := 5) rfl rfl (by decide) rfl (fun ls hl => ?_)
              refine lv_goto (tgt := 28) hx hb d_m_way_117 (by decide) ?_
              refine ro_to (by rw [L_m_way_28_s, if_neg c3, if_neg c4]) ?_
              exact ih (k + 1) ((L_m_way_51 vc vp vh vt vg vo vd vu vw vs va vq vf ta kk wy 4 (-1) (3 * wy)).1) (xi + 1) ls (by omega) (by omega) (by rw [hxi]; exact nI_1 _) (way_step hcn hvc hpr hst hgl hge hae hah hag hak) (lv_sub hl [2, 3, 4, 5, 1, 0] rfl)
            · have c4 := c4
              refine lv_iconst (v := (-1)) hx hb d_m_way_40 (by decide) ?_
              exact ro_iret FX (by rw [L_m_way_28_s, if_neg c3, if_pos c4]) d_m_way_41
      refine ro_to (by rw [f_m_way, if_neg c1, if_pos c2]) ?_
      exact loop 41 0 (vd ta.toNatClampNeg) 0 ls rfl (Nat.zero_le _) rfl (⟨a0, by rw [htt, nI_clamp (by omega)]; exact hde, by omega, hh0⟩) (lv_sub hl [3, 4, 5, 2, 1, 0] rfl)
    · have c2 := c2
      refine lv_iconst (v := (-1)) hx hb d_m_way_15 (by decide) ?_
      exact ro_iret FX (by rw [f_m_way, if_neg c1, if_neg c2]) d_m_way_16
