/-! the invariant is kept: begin, answer -/
theorem flake_eq (zp zq : Int32) : f_x_isFlake zp zq = true ↔ (f_m_in zq 1 9 = true ∧ f_m_in zp 0 (zq - 1) = true) := by
  unfold f_x_isFlake f_m_in
  by_cases h1 : zq < 1
  · rw [if_pos h1, if_pos h1]
    exact ⟨fun q => (by cases q), fun q => (by cases q.1)⟩
  · by_cases h2 : 9 < zq
    · rw [if_neg h1, if_pos h2, if_neg h1, if_pos h2]
      exact ⟨fun q => (by cases q), fun q => (by cases q.1)⟩
    · obtain ⟨q, hq, rfl⟩ := nI_of (x := zq) (fun z => h1 (Int32.lt_trans z (by decide)))
      have h3 : 1 ≤ q := by
        apply Nat.lt_of_not_le
        intro z
        exact h1 (show nI q < nI 1 from nI_lt (by omega) (by decide))
      have h4 : q ≤ 9 := by
        apply Nat.le_of_not_lt
        intro z
        exact h2 (show nI 9 < nI q from nI_lt z hq)
      have e : nI q - 1 = nI (q - 1) := show nI q - nI 1 = nI (q - 1) from pk_sub h3
      rw [if_neg h1, if_neg h2, if_neg h1, if_neg h2, e]
      by_cases h5 : zp < 0
      · rw [if_pos h5, if_pos h5]
        exact ⟨fun q => (by cases q), fun q => (by cases q.2)⟩
      · obtain ⟨p, hp, rfl⟩ := nI_of h5
        rw [if_neg h5, if_neg h5]
        by_cases h6 : nI q ≤ nI p
        · have h7 := (nI_leI hq hp).mp h6
          have h8 : nI (q - 1) < nI p := nI_lt (by omega) hp
          have h9 : ¬ nI p < nI q := nI_nlt h7 hp
          first
            | (rw [if_pos h6, if_pos h8]; exact ⟨fun q => (by cases q), fun q => (by cases q.2)⟩)
            | (rw [if_neg h9, if_pos h8]; exact ⟨fun q => (by cases q), fun q => (by cases q.2)⟩)
        · have h7 : p < q := by
            apply Nat.lt_of_not_le
            intro z
            exact h6 (nI_le z hp)
          have h8 : ¬ nI (q - 1) < nI p := nI_nlt (by omega) (by omega)
          have h9 : nI p < nI q := nI_lt h7 hq
          first
            | (rw [if_neg h6, if_neg h8]; exact ⟨fun _ => ⟨rfl, rfl⟩, fun _ => rfl⟩)
            | (rw [if_pos h9, if_neg h8]; exact ⟨fun _ => ⟨rfl, rfl⟩, fun _ => rfl⟩)
theorem sure_eq (zu : Int32) : f_x_isSure zu = f_m_in zu 51 100 := rfl
theorem flake_nI {zp zq : Int32} (h1 : f_m_in zq 1 9 = true) (h2 : f_m_in zp 0 (zq - 1) = true) : ∃ p q, p < q ∧ q ≤ 9 ∧ zp = nI p ∧ zq = nI q := by
  unfold f_m_in at h1 h2
  by_cases a1 : zq < 1
  · rw [if_pos a1] at h1; cases h1
  · by_cases a2 : 9 < zq
    · rw [if_neg a1, if_pos a2] at h1; cases h1
    · by_cases a3 : zp < 0
      · rw [if_pos a3] at h2; cases h2
      · by_cases a4 : zq - 1 < zp
        · rw [if_neg a3, if_pos a4] at h2; cases h2
        · obtain ⟨q, hq, rfl⟩ := nI_of (x := zq) (fun z => a1 (Int32.lt_trans z (by decide)))
          obtain ⟨p, hp, rfl⟩ := nI_of a3
          have h3 : 1 ≤ q := by
            apply Nat.lt_of_not_le
            intro z
            exact a1 (show nI q < nI 1 from nI_lt (by omega) (by decide))
          have h4 : q ≤ 9 := by
            apply Nat.le_of_not_lt
            intro z
            exact a2 (show nI 9 < nI q from nI_lt z hq)
          have e : nI q - 1 = nI (q - 1) := show nI q - nI 1 = nI (q - 1) from pk_sub h3
          rw [e] at a4
          refine ⟨p, q, ?_, h4, rfl, rfl⟩
          apply Nat.lt_of_not_le
          intro z
          exact a4 (nI_lt (by omega) hp)
section KEEP2
variable {cn nt : Nat} {G : GS} {TT : Nat → TS} {vp : Nat → Int32} {vh vk vb vg vo vf : Nat → Bool} {vd vu vw vs vx va vq : Nat → Int32}
theorem upd_self (f : Nat → Int32) (k : Nat) (x : Int32) : upd f k x k = x := pk_us
theorem upd_ne (f : Nat → Int32) {k j : Nat} (x : Int32) (h : j ≠ k) : upd f k x j = f j := pk_un h
theorem e_begin (hI : INV cn nt G TT vp vh vk vb vg vo vf vd vu vw vs vx va vq) (ta zb zp zq zu : Int32) : (f_x_begin nt G TT ta zb zp zq zu).1 = (f_m_begin (nI cn) vh (nI nt) vg vo vd vu vw vs va vq vf ta zb zp zq zu).1 ∧ INV cn nt (f_x_begin nt G TT ta zb zp zq zu).2.1 (f_x_begin nt G TT ta zb zp zq zu).2.2 vp vh vk vb vg (f_m_begin (nI cn) vh (nI nt) vg vo vd vu vw vs va vq vf ta zb zp zq zu).2.1 vf (f_m_begin (nI cn) vh (nI nt) vg vo vd vu vw vs va vq vf ta zb zp zq zu).2.2.1 (f_m_begin (nI cn) vh (nI nt) vg vo vd vu vw vs va vq vf ta zb zp zq zu).2.2.2.1 (f_m_begin (nI cn) vh (nI nt) vg vo vd vu vw vs va vq vf ta zb zp zq zu).2.2.2.2.1 (f_m_begin (nI cn) vh (nI nt) vg vo vd vu vw vs va vq vf ta zb zp zq zu).2.2.2.2.2.1 vx (f_m_begin (nI cn) vh (nI nt) vg vo vd vu vw vs va vq vf ta zb zp zq zu).2.2.2.2.2.2 vq := by
  obtain ⟨hnt, hG, hT, hF⟩ := id hI
  obtain ⟨hcn, hsz, hrs, hsm, hle, -⟩ := id hG
  unfold f_x_begin f_m_begin
  rcases ta_cases hnt ta with ⟨h1, h2⟩ | ⟨j, hj, rfl, h1, h2⟩
  · rw [om_none h1, if_neg h2]
    exact ⟨rfl, hI⟩
  · rw [om_some h1, if_pos h2, holds_is hcn hsz rfl]
    by_cases hc : f_m_isChange (nI cn) zb = true
    · obtain ⟨b, hb, rfl⟩ := ch_nI hcn rfl hc
      rw [if_pos hc, if_pos hc]
      by_cases hf : f_x_isFlake zp zq = true
      · obtain ⟨f1, f2⟩ := (flake_eq zp zq).mp hf
        rw [if_pos hf, if_pos f1, if_pos f2, sure_eq]
        by_cases hs : f_m_in zu 51 100 = true
        · rw [if_pos hs, if_pos hs]
          obtain ⟨t1, t2, t3, t4, t5, t6, t7, t8⟩ := hT j hj
          have ecl : f_t_isCleared (TT j).2.1 (nI b) = f_m_isGood (nI cn) vh vg (nI j) (nI b) := by
            unfold f_t_isCleared
            rw [con_bt (by omega), good_eq hcn rfl (by omega) hb]
            have q1 := t3 b (by omega)
            have q2 := anyF_iff (P := gdP vg vh j b) cn 0
            have q3 : bt (TT j).2.1 b = true ↔ anyF (gdP vg vh j b) cn 0 = true := by
              rw [q1, q2]
              unfold gdP
              constructor
              · rintro ⟨c, x1, x2, x3⟩; exact ⟨c, Nat.zero_le _, by omega, by simp [x2, x3]⟩
              · rintro ⟨c, x0, x1, x2⟩
                rw [Bool.and_eq_true] at x2
                exact ⟨c, by omega, x2.1, x2.2⟩
            cases h5 : bt (TT j).2.1 b
            · cases h6 : anyF (gdP vg vh j b) cn 0
              · rfl
              · rw [h5, h6] at q3; exact absurd (q3.mpr rfl) (by decide)
            · rw [h5] at q3; exact (q3.mp rfl).symm
          rw [ecl]
          by_cases hg : f_m_isGood (nI cn) vh vg (nI j) (nI b) = true
          · rw [if_pos hg, if_pos hg]
            exact ⟨rfl, hI⟩
          · rw [if_neg hg, if_neg hg, begin_cnt hcn rfl (by omega), start_eq, reach_at hcn hsz hb]
            have hsus : ∀ i, i < 40 → (bt (G.2.1 b &&& ((TT j).2.1 ^^^ (-1))) i = true ↔ (vh (40 * b + i) = true ∧ ¬ anyF (gdP vg vh j i) cn 0 = true)) := by
              intro i hi
              rw [bt_and, bt_not _ (by omega), hrs b hb i hi, Bool.and_eq_true]
              have q3 : bt (TT j).2.1 i = true ↔ anyF (gdP vg vh j i) cn 0 = true := by
                rw [t3 i hi, anyF_iff]
                unfold gdP
                constructor
                · rintro ⟨c, x1, x2, x3⟩; exact ⟨c, Nat.zero_le _, by omega, by simp [x2, x3]⟩
                · rintro ⟨c, x0, x1, x2⟩
                  rw [Bool.and_eq_true] at x2
                  exact ⟨c, by omega, x2.1, x2.2⟩
              rw [← q3]
              simp
            have hvo' : va_up vo j true j = true := va_up_self _ _ _
            have hva' : upd va j 0 j = nI 0 := upd_self _ _ _
            have hmw : ∀ i, i < 40 → mW (nI cn) vh (nI nt) vg (va_up vo j true) (upd vd j (nI b)) (upd vu j zp) (upd vw j zq) (upd va j 0) vq vf j i = (if bt (G.2.1 b &&& ((TT j).2.1 ^^^ (-1))) i = true then 1 else 0) := by
              intro i hi
              by_cases hic : i < cn
              · rw [mW_eq hcn rfl (by omega) (se_of hnt hj hvo') (by decide) hva' hic, upd_self, has_at hcn rfl hb hic]
                by_cases x1 : vh (40 * b + i) = true
                · by_cases x2 : anyF (gdP vg vh j i) cn 0 = true
                  · rw [if_pos x1, if_pos x2, if_neg (fun q => ((hsus i hi).mp q).2 x2)]
                  · rw [if_pos x1, if_neg x2, if_pos ((hsus i hi).mpr ⟨x1, x2⟩)]; rfl
                · rw [if_neg x1, if_neg (fun q => x1 ((hsus i hi).mp q).1)]
              · rw [mW_big hcn rfl (by omega) (by omega), if_neg (fun q => by have := hle b hb i hi ((hsus i hi).mp q).1; omega)]
            have hss : small (G.2.1 b &&& ((TT j).2.1 ^^^ (-1))) := fun i hi => by rw [bt_and, hsm b hb i hi]; rfl
            refine ⟨?_, hnt, hG, fun t ht => ?_, fun t h5 h6 => ?_⟩
            · show f_lo_bitCount (G.2.1 b &&& ((TT j).2.1 ^^^ (-1))) = nI _
              rw [bitc_cnt hss]
              congr 1
              rw [cnt_congr (Q := fun c => decide (0 < mW (nI cn) vh (nI nt) vg (va_up vo j true) (upd vd j (nI b)) (upd vu j zp) (upd vw j zq) (upd va j 0) vq vf j c)) 40 (fun i hi => by
                rw [hmw i hi]
                cases hx : bt (G.2.1 b &&& ((TT j).2.1 ^^^ (-1))) i
                · rfl
                · rfl)]
              refine cnt40 hcn (fun i h7 h8 => ?_)
              rw [mW_big hcn rfl h7 (by omega)]
              rfl
            · by_cases htj : t = j
              · subst htj
                show TI cn nt vh vg (va_up vo t true) vf (upd vd t (nI b)) (upd vu t zp) (upd vw t zq) (upd vs t zu) vx (upd va t 0) vq t (va_up TT t _ t)
                rw [va_up_self]
                obtain ⟨p, q, hpq, hq9, rfl, rfl⟩ := flake_nI f1 f2
                refine ⟨t1, t2, t3, by rw [va_up_self], t5, by rw [upd_self], ⟨0, by decide, by rw [upd_self]; rfl⟩, fun _ => ?_⟩
                refine ⟨b, p, q, hb, upd_self _ _ _, (upd_self _ _ _).symm, hpq, hq9, upd_self _ _ _, upd_self _ _ _, (upd_self _ _ _).symm, (upd_self _ _ _).symm, (upd_self _ _ _).symm, fun i hi => ?_, 0, by decide, by rw [upd_self]; rfl, fun k hk => absurd hk (Nat.not_lt_zero k)⟩
                rw [hmw i hi]
                show (if i < 40 then _ else _) = _
                rw [if_pos hi]
              · show TI cn nt vh vg (va_up vo j true) vf (upd vd j (nI b)) (upd vu j zp) (upd vw j zq) (upd vs j zu) vx (upd va j 0) vq t (va_up TT j _ t)
                rw [va_up_ne _ _ htj]
                exact TI_agree hcn hnt hnt ht ht (hT t ht) (fun _ _ => rfl) (va_up_ne _ _ htj) (upd_ne _ _ htj) (upd_ne _ _ htj) (upd_ne _ _ htj) (upd_ne _ _ htj) rfl (upd_ne _ _ htj) (fun _ _ => rfl) (fun _ _ => rfl)
            · obtain ⟨g1, g2, g3, g4⟩ := hF t h5 h6
              have htj : t ≠ j := by omega
              exact ⟨g1, (va_up_ne _ _ htj).trans g2, g3, (upd_ne _ _ htj).trans g4⟩
        · rw [if_neg hs, if_neg hs]
          exact ⟨rfl, hI⟩
      · rw [if_neg hf]
        by_cases f1 : f_m_in zq 1 9 = true
        · have f2 : ¬ f_m_in zp 0 (zq - 1) = true := fun q => hf ((flake_eq zp zq).mpr ⟨f1, q⟩)
          rw [if_pos f1, if_neg f2]
          exact ⟨rfl, hI⟩
        · rw [if_neg f1]
          exact ⟨rfl, hI⟩
    · rw [if_neg hc, if_neg hc]
      exact ⟨rfl, hI⟩
end KEEP2
