/-! the class's loops that write -/
theorem start_eq (cl : Int64) (wt rs : Nat → Int64) (sz zb zp zq zu : Int32) : f_t_start cl wt rs sz zb zp zq zu = (f_lo_bitCount ((f_g_reach rs sz zb) &&& (cl ^^^ (-1))), true, zb, zp, zq, zu, 0, fun i => if i < 40 then (if bt ((f_g_reach rs sz zb) &&& (cl ^^^ (-1))) i = true then 1 else 0) else wt i) := by
  generalize hz : (f_g_reach rs sz zb) &&& (cl ^^^ (-1)) = zs
  have loop : ∀ (n k : Nat) (wq : Nat → Int64), k + n = 41 → k ≤ 40 → L_t_start_53 cl wt rs sz zb zp zq zu n (nI k) wq = (f_lo_bitCount zs, true, zb, zp, zq, zu, 0, fun i => if k ≤ i ∧ i < 40 then (if bt zs i = true then 1 else 0) else wq i) := by
    intro n
    induction n with
    | zero => intro k wq h1 h2; omega
    | succ n ih =>
      intro k wq h1 h2
      rw [L_t_start_53_s, hz]
      by_cases h : k = 40
      · subst h
        rw [if_pos ((nI40 (by omega)).mpr rfl)]
        have e : (fun i => if 40 ≤ i ∧ i < 40 then (if bt zs i = true then (1 : Int64) else 0) else wq i) = wq := by
          funext i
          rw [if_neg (by omega)]
        rw [e]
      · have n1 : ¬ (40 : Int32) ≤ nI k := fun q => h ((nI40 h2).mp q)
        rw [if_neg n1, con_bt (by omega), nI_clamp (by omega), nI_1]
        have fin : ∀ v : Int64, v = (if bt zs k = true then 1 else 0) → L_t_start_53 cl wt rs sz zb zp zq zu n (nI (k + 1)) (vp_updL wq k v) = (f_lo_bitCount zs, true, zb, zp, zq, zu, 0, fun i => if k ≤ i ∧ i < 40 then (if bt zs i = true then 1 else 0) else wq i) := by
          intro v hv
          rw [ih (k + 1) _ (by omega) (by omega)]
          have e : (fun i => if k + 1 ≤ i ∧ i < 40 then (if bt zs i = true then (1 : Int64) else 0) else vp_updL wq k v i) = (fun i => if k ≤ i ∧ i < 40 then (if bt zs i = true then (1 : Int64) else 0) else wq i) := by
            funext i
            unfold vp_updL
            by_cases hi : i = k
            · subst hi
              rw [if_neg (by omega), if_pos rfl, if_pos (by omega), hv]
            · rw [if_neg hi]
              by_cases h3 : k ≤ i ∧ i < 40
              · rw [if_pos h3, if_pos (by omega)]
              · rw [if_neg h3, if_neg (by omega)]
          rw [e]
        by_cases hb : bt zs k = true
        · rw [if_pos hb]; exact fin 1 (by rw [if_pos hb])
        · rw [if_neg hb]; exact fin 0 (by rw [if_neg hb])
  unfold f_t_start
  rw [show (0 : Int32) = nI 0 from rfl, loop 41 0 wt rfl (by decide)]
  have e : (fun i => if 0 ≤ i ∧ i < 40 then (if bt zs i = true then (1 : Int64) else 0) else wt i) = (fun i => if i < 40 then (if bt zs i = true then (1 : Int64) else 0) else wt i) := by
    funext i
    by_cases h3 : i < 40
    · rw [if_pos ⟨Nat.zero_le _, h3⟩, if_pos h3]
    · rw [if_neg (fun q => h3 q.2), if_neg h3]
  rw [e]
  rfl
theorem learn_eq (fp fq an : Int32) (wt rs : Nat → Int64) (sz : Int32) (bu : Int64) (nu ou : Int32) : f_t_learn fp fq an wt rs sz bu nu ou = (f_g_markBuilt bu nu, an + 1, fun i => if i < 40 then wt i * f_t_likelihood fp fq ou (bt (f_g_reach rs sz nu) i) else wt i) := by
  generalize hz : f_g_reach rs sz nu = zs
  have loop : ∀ (n k : Nat) (wq : Nat → Int64), k + n = 41 → k ≤ 40 → L_t_learn_30 fp fq an wt rs sz bu nu ou n (nI k) wq = (f_g_markBuilt bu nu, an + 1, fun i => if k ≤ i ∧ i < 40 then wq i * f_t_likelihood fp fq ou (bt zs i) else wq i) := by
    intro n
    induction n with
    | zero => intro k wq h1 h2; omega
    | succ n ih =>
      intro k wq h1 h2
      rw [L_t_learn_30_s, hz]
      by_cases h : k = 40
      · subst h
        rw [if_pos ((nI40 (by omega)).mpr rfl)]
        have e : (fun i => if 40 ≤ i ∧ i < 40 then wq i * f_t_likelihood fp fq ou (bt zs i) else wq i) = wq := by
          funext i
          rw [if_neg (by omega)]
        rw [e]
      · have n1 : ¬ (40 : Int32) ≤ nI k := fun q => h ((nI40 h2).mp q)
        rw [if_neg n1, con_bt (by omega), nI_clamp (by omega), nI_1, ih (k + 1) _ (by omega) (by omega)]
        have e : (fun i => if k + 1 ≤ i ∧ i < 40 then vp_updL wq k (wq k * f_t_likelihood fp fq ou (bt zs k)) i * f_t_likelihood fp fq ou (bt zs i) else vp_updL wq k (wq k * f_t_likelihood fp fq ou (bt zs k)) i) = (fun i => if k ≤ i ∧ i < 40 then wq i * f_t_likelihood fp fq ou (bt zs i) else wq i) := by
          funext i
          unfold vp_updL
          by_cases hi : i = k
          · subst hi
            rw [if_neg (by omega), if_pos rfl, if_pos (by omega)]
          · rw [if_neg hi]
            by_cases h3 : k ≤ i ∧ i < 40
            · rw [if_pos h3, if_pos (by omega)]
            · rw [if_neg h3, if_neg (by omega)]
        rw [e]
  unfold f_t_learn
  rw [show (0 : Int32) = nI 0 from rfl, loop 41 0 wt rfl (by decide)]
  have e : (fun i => if 0 ≤ i ∧ i < 40 then wt i * f_t_likelihood fp fq ou (bt zs i) else wt i) = (fun i => if i < 40 then wt i * f_t_likelihood fp fq ou (bt zs i) else wt i) := by
    funext i
    by_cases h3 : i < 40
    · rw [if_pos ⟨Nat.zero_le _, h3⟩, if_pos h3]
    · rw [if_neg (fun q => h3 q.2), if_neg h3]
  rw [e]
/-- what a new change has: itself, and what its parents have -/
theorem add_eq {ps rs : Nat → Int64} {sz : Int32} {zs : Int64} {cn : Nat} (hcn : cn < 40) (hsz : sz = nI cn) : ∃ R : Int64, f_g_add ps rs sz zs = (nI cn, vp_updL ps cn zs, vp_updL rs cn R, nI (cn + 1)) ∧ ∀ j, bt R j = true ↔ (j = cn ∨ ∃ i, i < cn ∧ bt zs i = true ∧ bt (rs i) j = true) := by
  have loop : ∀ (n k : Nat) (ac : Int64), k + n = 41 → k ≤ cn → ∃ R : Int64, L_g_add_26 ps rs sz zs n ac (nI k) = (nI cn, vp_updL ps cn zs, vp_updL rs cn R, nI (cn + 1)) ∧ ∀ j, bt R j = true ↔ (bt ac j = true ∨ ∃ i, k ≤ i ∧ i < cn ∧ bt zs i = true ∧ bt (rs i) j = true) := by
    intro n
    induction n with
    | zero => intro k ac h1 h2; omega
    | succ n ih =>
      intro k ac h1 h2
      rw [L_g_add_26_s]
      by_cases h : k = cn
      · refine ⟨ac, ?_, fun j => ⟨Or.inl, fun q => q.elim id (fun ⟨i, h1, h2, _⟩ => by omega)⟩⟩
        subst h
        rw [if_pos ((nIc (by omega) hsz (by omega)).mpr (Nat.le_refl _)), hsz, nI_clamp (by omega), nI_1]
      · have n1 : ¬ sz ≤ nI k := fun q => h (by have := (nIc (by omega) hsz (by omega)).mp q; omega)
        rw [if_neg n1, con_bt (by omega), nI_clamp (by omega), nI_1]
        by_cases hb : bt zs k = true
        · rw [if_pos hb]
          obtain ⟨R, e, hR⟩ := ih (k + 1) (ac ||| rs k) (by omega) (by omega)
          refine ⟨R, e, fun j => ?_⟩
          rw [hR j, bt_or, Bool.or_eq_true]
          constructor
          · rintro ((q | q) | ⟨i, h3, h4, h5, h6⟩)
            · exact Or.inl q
            · exact Or.inr ⟨k, by omega, by omega, hb, q⟩
            · exact Or.inr ⟨i, by omega, h4, h5, h6⟩
          · rintro (q | ⟨i, h3, h4, h5, h6⟩)
            · exact Or.inl (Or.inl q)
            · by_cases hi : i = k
              · subst hi; exact Or.inl (Or.inr h6)
              · exact Or.inr ⟨i, by omega, h4, h5, h6⟩
        · rw [if_neg hb]
          obtain ⟨R, e, hR⟩ := ih (k + 1) ac (by omega) (by omega)
          refine ⟨R, e, fun j => ?_⟩
          rw [hR j]
          constructor
          · rintro (q | ⟨i, h3, h4, h5, h6⟩)
            · exact Or.inl q
            · exact Or.inr ⟨i, by omega, h4, h5, h6⟩
          · rintro (q | ⟨i, h3, h4, h5, h6⟩)
            · exact Or.inl q
            · by_cases hi : i = k
              · subst hi; exact absurd h5 hb
              · exact Or.inr ⟨i, by omega, h4, h5, h6⟩
  have h1 : f_x_isNumber sz = true := by
    rw [hsz]
    unfold f_x_isNumber
    rw [if_neg (nI_pos (by omega)), if_neg (show ¬ (40 : Int32) ≤ nI cn from nI_ge (a := cn) (b := 40) hcn (by decide))]
  obtain ⟨R, e, hR⟩ := loop 41 0 (f_x_only sz) rfl (Nat.zero_le _)
  refine ⟨R, ?_, fun j => ?_⟩
  · unfold f_g_add
    rw [if_pos h1]
    exact e
  · rw [hR j, hsz, only_bt hcn, decide_eq_true_eq]
    constructor
    · rintro (q | ⟨i, h3, h4, h5, h6⟩)
      · exact Or.inl q.symm
      · exact Or.inr ⟨i, h4, h5, h6⟩
    · rintro (q | ⟨i, h4, h5, h6⟩)
      · exact Or.inl q.symm
      · exact Or.inr ⟨i, Nat.zero_le _, h4, h5, h6⟩
theorem add_full {ps rs : Nat → Int64} {sz : Int32} {zs : Int64} (hsz : sz = nI 40) : f_g_add ps rs sz zs = ((-1), ps, rs, sz) := by
  unfold f_g_add
  rw [if_neg (by rw [hsz]; decide)]
