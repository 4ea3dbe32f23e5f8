/-! THE LAYER: one list of words for every method (tb), one bundle of what the tables say (KK), contracts of methods that change nothing (Pro, Qro) and of methods that do (Qmu), the rows for their entries, calls and ends. -/
def gB (w : Cond) : Bool := (w.onTables && w.keeps) || (match w with | .arrayClass _ => true | _ => false)
theorem gB_ok {w : Cond} (h : gB w = true) : (w.onTables && w.keeps) = true ∨ ∃ ty, w = .arrayClass ty := by
  unfold gB at h
  rw [Bool.or_eq_true] at h
  rcases h with h | h
  · exact Or.inl h
  · right
    split at h
    · exact ⟨_, rfl⟩
    · cases h
def tb : List Cond := lw_tbl.filter gB
def nB (w : Cond) : Bool := match w with
  | .fieldLinkNest .. => true
  | .methodLinkNest .. => true
  | _ => false
def nests : List Cond := lw_tbl.filter nB
theorem tb_mem {w : Cond} (i : Nat) (h : lw_tbl[i]? = some w) (hg : gB w = true) : w ∈ tb := List.mem_filter.mpr ⟨List.mem_of_getElem? h, hg⟩
theorem ne_mem {w : Cond} (i : Nat) (h : lw_tbl[i]? = some w) (hg : nB w = true) : w ∈ nests := List.mem_filter.mpr ⟨List.mem_of_getElem? h, hg⟩
theorem tb_good {a z : Cond} (hz : z ∈ tb) : GoodIn (a :: tb) (z :: tb) := by
  intro w hw
  have hw' : w ∈ tb := by
    rcases List.mem_cons.mp hw with h | h
    · rw [h]; exact hz
    · exact h
  exact ⟨List.mem_cons_of_mem _ hw', gB_ok (List.mem_filter.mp hw').2⟩
theorem tb_goodT {z : Cond} (hz : z ∈ tb) : GoodIn tb (z :: tb) := by
  intro w hw
  have hw' : w ∈ tb := by
    rcases List.mem_cons.mp hw with h | h
    · rw [h]; exact hz
    · exact h
  exact ⟨hw', gB_ok (List.mem_filter.mp hw').2⟩
theorem nw_warm {w : Cond} (hn : nB w = true) {s U : State} (hW : s.WarmedH U.vm) (h : va_Nw w s) : va_Nw w U := by
  unfold nB at hn
  split at hn
  · exact va_Nw.warmF hW h
  · exact va_Nw.warmM hW h
  · cases hn
theorem nw_same {w : Cond} (hn : nB w = true) {u U : State} (h : u.vm = U.vm) (hZ : va_Nw w u) : va_Nw w U := by
  unfold nB at hn
  split at hn
  · exact va_Nw.same rfl h hZ
  · exact va_Nw.same rfl h hZ
  · cases hn
/-- what the tables say, for good: the classes, the array classes cA (by their place in tyz), the links of nest mates -/
def KK (D : va_G) (cA : Nat → ClassId) (U : State) : Prop := va_K D classes (tyz cA) U ∧ (∀ w ∈ nests, va_Nw w U) ∧ (∀ C ∈ overs, va_AO C U)
theorem KK.warm {D : va_G} {cA : Nat → ClassId} {s U : State} (hW : s.WarmedH U.vm) (h : KK D cA s) : KK D cA U :=
  ⟨va_K.moved hW.alike h.1, fun w hw => nw_warm (List.mem_filter.mp hw).2 hW (h.2.1 w hw), fun C hC => va_AO.moved hW.alike (h.2.2 C hC)⟩
theorem KK.calling {D : va_G} {cA : Nat → ClassId} {U : State} {g : JFrame} {mk : MethodId} {a : Array Value} (h : KK D cA U) : KK D cA (U.calling g mk a) :=
  ⟨va_K.moved (u := U) (U := U.calling g mk a) (Vm.Alike.refl U.vm) h.1, fun w hw => nw_same (List.mem_filter.mp hw).2 (u := U) (U := U.calling g mk a) rfl (h.2.1 w hw), fun C hC => va_AO.moved (u := U) (U := U.calling g mk a) (Vm.Alike.refl U.vm) (h.2.2 C hC)⟩
def nof : Addr → Prop := fun _ => False
def Pro (D : va_G) (cA : Nat → ClassId) (As : List Value) (B : Heap → Prop) : Array Value → State → Prop := va_Pc As (fun U => KK D cA U ∧ B U.heap)
theorem Pro.blind {D : va_G} {cA : Nat → ClassId} {As : List Value} {B : Heap → Prop} : FrameBlind (Pro D cA As B) := fun _ _ _ _ q => ⟨q.1, q.2.1.calling, q.2.2⟩
/-- it answers v, and the heap stays -/
def Qro (v : Value) : Array Value → State → Outcome → State → Prop := fun _ st o t => o = .returned (some v) ∧ t.heap = st.heap
/-- it answers, and 'P answer heap'; nothing but A has changed -/
def Qmu (A : Nat → Prop) (P : Option Value → Heap → Prop) : Array Value → State → Outcome → State → Prop := fun _ st o t => (∃ v, o = .returned v ∧ P v t.heap) ∧ va_F A st t
def rmd (d : Nat) : Room := { frames := d, cells := 0, slots := 0, locals := 40 * d }
def FX (p : Program) (s : State) (m : MethodId) (meth : Method) (c : Code) (args : Array Value) (y : MethodName) (b : ByteArray) (n : Nat) (ret : Option FieldType) : Prop :=
  p.tables.exec = Jvm.exec ∧ c.code = b ∧ c.maxLocals = n ∧ s.vm.findClass y.cls = some m.cls ∧ (∀ w ∈ tb, w.before args s = true) ∧ meth.sig.returnType = ret ∧ meth.locks = false
def bz (b : Bool) : Int32 := if b = true then 1 else 0
theorem bz_t {b : Bool} (h : ¬ bz b = 0) : b = true := by
  cases b
  · exact absurd rfl h
  · rfl
theorem bz_f {b : Bool} (h : bz b = 0) : ¬ b = true := by
  intro q
  rw [q] at h
  exact absurd h (by decide)
theorem bz_1 {b : Bool} (h : b = true) : bz b = 1 := by rw [h]; rfl
theorem bz_0 {b : Bool} (h : ¬ b = true) : bz b = 0 := by
  cases b
  · rfl
  · exact absurd rfl h
theorem bz_n (b : Bool) : narrow .boolean (.int (bz b)) = .int (bz b) := by cases b <;> rfl
theorem bz_ft (b : Bool) : fits .boolean (.int (bz b)) = true := by cases b <;> rfl
theorem bz_inj {a b : Bool} (h : bz a = bz b) : a = b := by
  cases a <;> cases b <;> first | rfl | exact absurd h (by decide)
theorem cp_le {x y : Int64} (h : lg_cmp x y ≤ 0) : ¬ y < x := by
  intro q
  have e : lg_cmp x y = 1 := by simp [lg_cmp, q]
  rw [e] at h
  exact absurd h (by decide)
theorem cp_nle {x y : Int64} (h : ¬ lg_cmp x y ≤ 0) : y < x := by
  apply Classical.byContradiction
  intro q
  apply h
  by_cases h2 : x = y
  · have e : lg_cmp x y = 0 := by simp [lg_cmp, q, h2]
    rw [e]; decide
  · have e : lg_cmp x y = -1 := by simp [lg_cmp, q, h2]
    rw [e]; decide
theorem cp_gt {x y : Int64} (h : 0 < lg_cmp x y) : y < x := by
  apply Classical.byContradiction
  intro q
  by_cases h2 : x = y
  · have e : lg_cmp x y = 0 := by simp [lg_cmp, q, h2]
    rw [e] at h; exact absurd h (by decide)
  · have e : lg_cmp x y = -1 := by simp [lg_cmp, q, h2]
    rw [e] at h; exact absurd h (by decide)
theorem cp_ngt {x y : Int64} (h : ¬ 0 < lg_cmp x y) : ¬ y < x := by
  intro q
  apply h
  have e : lg_cmp x y = 1 := by simp [lg_cmp, q]
  rw [e]; decide
theorem cp_eq {x y : Int64} (h : lg_cmp x y = 0) : x = y := by
  apply Classical.byContradiction
  intro h2
  by_cases q : y < x
  · have e : lg_cmp x y = 1 := by simp [lg_cmp, q]
    rw [e] at h; exact absurd h (by decide)
  · have e : lg_cmp x y = -1 := by simp [lg_cmp, q, h2]
    rw [e] at h; exact absurd h (by decide)
theorem cp_ne {x y : Int64} (h : ¬ lg_cmp x y = 0) : ¬ x = y := by
  intro q
  apply h
  subst q
  simp [lg_cmp]
theorem cp_lt {x y : Int64} (h : lg_cmp x y < 0) : x < y := by
  apply Classical.byContradiction
  intro h2
  by_cases q : y < x
  · have e : lg_cmp x y = 1 := by simp [lg_cmp, q]
    rw [e] at h; exact absurd h (by decide)
  · have e2 : x = y := Int64.le_antisymm (Int64.not_lt.mp q) (Int64.not_lt.mp h2)
    have e : lg_cmp x y = 0 := by simp [lg_cmp, e2]
    rw [e] at h; exact absurd h (by decide)
theorem cp_nlt {x y : Int64} (h : ¬ lg_cmp x y < 0) : ¬ x < y := by
  intro q
  apply h
  have q1 : ¬ y < x := Int64.not_lt.mpr (Int64.le_of_lt q)
  have q2 : ¬ x = y := fun z => by rw [z] at q; exact absurd q Int64.lt_irrefl
  have e : lg_cmp x y = -1 := by simp [lg_cmp, q1, q2]
  rw [e]; decide
theorem cp_ge {x y : Int64} (h : 0 ≤ lg_cmp x y) : ¬ x < y := cp_nlt (Int32.not_lt.mpr h)
theorem cp_nge {x y : Int64} (h : ¬ 0 ≤ lg_cmp x y) : x < y := cp_lt (Int32.not_le.mp h)
section LAY
variable {p : Program} {l : Launch} {e : Env} {R : Room} {s : State} {m : MethodId} {args : Array Value} {below : List Frame} {meth : Method} {c : Code} {H : Heap} {locs : List Loc} {cells slots : Nat} {Q : State → Prop} {D : va_G} {cA : Nat → ClassId}
variable {y : MethodName} {b : ByteArray} {n : Nat} {ret : Option FieldType} {pc : Nat} {ls : Array Slot} {rest st : List Value}
theorem ro_in {rm : Room} {As : List Value} {B : Heap → Prop} {Qc : Array Value → State → Outcome → State → Prop} {mc ms : Nat} {free : Addr → Prop} (hy : plainName y.cls = true) (hn : (lg_sl As).length ≤ n)
    (body : ∀ (p : Program) (e : Env) (s : State) (m : MethodId) (below : List Frame) (meth : Method) (c : Code) (ls : Array Slot), FX p s m meth c As.toArray y b n ret → meth.name = y.name → KK D cA s → B s.heap → lv_has ls n (lv_args 0 As) → W p l e rm s m As.toArray below meth c s.heap [] 0 0 (MQ below Qc As.toArray s mc ms free) (F0 m 0 ls [])) :
    Met l y (.code y b n ret :: tb) rm (Pro D cA As B) Qc mc ms free := by
  refine Met.ofW (cc := b) (maxL := n) (ret := ret) hy rfl ?_
  intro p e s m args below meth c s₁ Bd hml hv
  obtain ⟨rfl, hK, hB⟩ := hv
  have hts := atoms_spec (ws := .code y b n ret :: tb) Bd.pre
  have hl := lv_entry As (n := n) hn
  rw [lg_entry_eq]
  exact body p e s m below meth c _ ⟨Bd.exec, Bd.bytes, hml, findClass_of_methodNamed Bd.named, fun w hw => hts w (List.mem_cons_of_mem _ hw), Bd.returns, Bd.notSynchronized⟩ (name_of_methodNamed Bd.named Bd.method).1 hK hB hl
theorem ro_iret {v v' : Int32} (F : FX p s m meth c args y b n (some .int)) (hv : v = v') (hdg : decode b pc = .ok (.ireturn, 1)) : W p l e R s m args below meth c s.heap [] 0 0 (MQ below (Qro (.int v')) args s 0 0 nof) (F0 m pc ls [.int v]) := by
  subst hv
  exact W.iret F.1 F.2.1 F.2.2.2.2.2.1 (fun t ht _ => ⟨rfl, ht⟩) (fun q h => by cases h) hdg F.2.2.2.2.2.2
theorem ro_zret {v : Int32} {v' : Bool} (F : FX p s m meth c args y b n (some .boolean)) (hv : v = bz v') (hdg : decode b pc = .ok (.ireturn, 1)) : W p l e R s m args below meth c s.heap [] 0 0 (MQ below (Qro (.int (bz v'))) args s 0 0 nof) (F0 m pc ls [.int v]) := by
  subst hv
  exact W.zret F.1 F.2.1 F.2.2.2.2.2.1 (bz_n v') (fun t ht _ => ⟨rfl, ht⟩) (fun q h => by cases h) hdg F.2.2.2.2.2.2
theorem ro_lret {v v' : Int64} (F : FX p s m meth c args y b n (some .long)) (hv : v = v') (hdg : decode b pc = .ok (.lreturn, 1)) : W p l e R s m args below meth c s.heap [] 0 0 (MQ below (Qro (.long v')) args s 0 0 nof) (F0 m pc ls [.long v]) := by
  subst hv
  exact W.lret F.1 F.2.1 F.2.2.2.2.2.1 (fun t ht _ => ⟨rfl, ht⟩) (fun q h => by cases h) hdg F.2.2.2.2.2.2
theorem ro_aret {v : Value} {v' : Option Nat} {C : String} (F : FX p s m meth c args y b n (some (.object C))) (hv : v = va_rf v') (hdg : decode b pc = .ok (.areturn, 1)) : W p l e R s m args below meth c s.heap [] 0 0 (MQ below (Qro (va_rf v')) args s 0 0 nof) (F0 m pc ls [v]) := by
  subst hv
  exact W.aret F.1 F.2.1 F.2.2.2.2.2.1 (Or.inl ⟨_, rfl⟩) (va_rf_or v') (fun t ht _ => ⟨rfl, ht⟩) (fun q h => by cases h) hdg F.2.2.2.2.2.2
/-- the call of a method that changes nothing goes on with its answer -/
theorem ro_call {v : Value} {a : Array Value} {g : JFrame} (hr : CallRun p l e R s m args below meth c H locs cells slots 0 0 g rest (Qro v a) nof) (kk : W p l e R s m args below meth c H locs cells slots Q { g with pc := g.pc + 3, stack := v :: rest }) : W p l e R s m args below meth c H locs cells slots Q g := by
  intro T hT X
  obtain ⟨v', st₀, t, T', L, h0, X', hL, e1, ⟨hv, hh⟩, st⟩ := hr T hT X
  cases hv
  obtain ⟨t2, a1, b1⟩ := kk T' (by rw [e1, hh, h0]) (Stand.forget X' (fun q h => (hL q h).elim))
  exact ⟨t2, st t2 a1, b1⟩
variable {y' : MethodName} {b' : ByteArray} {n' d idx kn : Nat} {ret' : Option FieldType} {As : List Value} {B : Heap → Prop} {v : Value} {host : String}
abbrev okd (y' : MethodName) (k : Nat) : Prop := y'.cls ≠ "java/lang/invoke/MethodHandle" ∧ y'.cls ≠ "java/lang/invoke/VarHandle" ∧ (parseMethodDescriptor y'.desc).map (fun d => d.parameters.length) = some k
theorem ro_cB (F : FX p s m meth c args y b n ret) (hc : Cond.code y' b' n' ret' ∈ tb) (hl : Cond.methodLink y.cls idx y' ∈ tb) (hi : Cond.initialized y'.cls ∈ tb) (hkn : As.length = kn) (hd : okd y' kn) (hR : d + 1 ≤ R.frames ∧ 8 + (n' + 11) + 40 * d ≤ R.locals) : CallB R s args y.cls idx y' b' n' ret' (.code y' b' n' ret' :: tb) (rmd d) 0 0 kn :=
  callB_of kn F.2.2.2.2.1 (tb_goodT hc) rfl rfl rfl (F.2.2.2.2.1 _ hi) (F.2.2.2.2.1 _ hl) hd hR
theorem ro_cN (F : FX p s m meth c args y b n ret) (hK : KK D cA s) (hc : Cond.code y' b' n' ret' ∈ tb) (hl : Cond.methodLinkNest y.cls idx y' host ∈ nests) (hi : Cond.initialized y'.cls ∈ tb) (hkn : As.length = kn) (hd : okd y' kn) (hR : d + 1 ≤ R.frames ∧ 8 + (n' + 11) + 40 * d ≤ R.locals) : va_CN R s args y.cls idx y' host b' n' ret' (.code y' b' n' ret' :: tb) (rmd d) 0 0 kn :=
  va_cnB kn F.2.2.2.2.1 (tb_goodT hc) rfl rfl rfl (hK.2.1 _ hl) (F.2.2.2.2.1 _ hi) hd hR
/-- a static method of the own class -/
theorem ro_S (F : FX p s m meth c args y b n ret) (hK : KK D cA s) (hM : Met l y' (.code y' b' n' ret' :: tb) (rmd d) (Pro D cA As B) (Qro v) 0 0 nof) (hB : B H) (hc : Cond.code y' b' n' ret' ∈ tb) (hl : Cond.methodLink y.cls idx y' ∈ tb) (hi : Cond.initialized y'.cls ∈ tb) (hs : Cond.static y' ∈ tb) (hkn : As.length = kn) (hd : okd y' kn) (hR : d + 1 ≤ R.frames ∧ 8 + (n' + 11) + 40 * d ≤ R.locals) (hf : cells ≤ R.cells ∧ slots ≤ R.slots) (hsz : ls.size = n) (hst : st = As.reverse ++ rest) (hW : (rest.map fun v => v.category).sum ≤ 8) (hdg : decode b pc = .ok (.invokestatic idx, 3))
    (kk : W p l e R s m args below meth c H locs cells slots Q (F0 m (pc + 3) ls (v :: rest))) : W p l e R s m args below meth c H locs cells slots Q (F0 m pc ls st) :=
  ro_call (va_runS (As := As) (rest := rest) ⟨F.1, F.2.1, F.2.2.1, F.2.2.2.1, F.2.2.2.2.1⟩ hM ⟨ro_cB F hc hl hi hkn hd hR, F.2.2.2.2.1 _ hs⟩ ⟨Pro.blind, fun U hU hW => ⟨rfl, hK.warm hW, by rw [hU]; exact hB⟩⟩ rfl hkn hsz hst (lv_room hW) hdg hf).run kk
/-- a private static method of a nest mate -/
theorem ro_SN (F : FX p s m meth c args y b n ret) (hK : KK D cA s) (hM : Met l y' (.code y' b' n' ret' :: tb) (rmd d) (Pro D cA As B) (Qro v) 0 0 nof) (hB : B H) (hc : Cond.code y' b' n' ret' ∈ tb) (hl : Cond.methodLinkNest y.cls idx y' host ∈ nests) (hi : Cond.initialized y'.cls ∈ tb) (hs : Cond.static y' ∈ tb) (hkn : As.length = kn) (hd : okd y' kn) (hR : d + 1 ≤ R.frames ∧ 8 + (n' + 11) + 40 * d ≤ R.locals) (hf : cells ≤ R.cells ∧ slots ≤ R.slots) (hsz : ls.size = n) (hst : st = As.reverse ++ rest) (hW : (rest.map fun v => v.category).sum ≤ 8) (hdg : decode b pc = .ok (.invokestatic idx, 3))
    (kk : W p l e R s m args below meth c H locs cells slots Q (F0 m (pc + 3) ls (v :: rest))) : W p l e R s m args below meth c H locs cells slots Q (F0 m pc ls st) :=
  ro_call (va_runSN (As := As) (rest := rest) ⟨F.1, F.2.1, F.2.2.1, F.2.2.2.1, F.2.2.2.2.1⟩ hM ⟨ro_cN F hK hc hl hi hkn hd hR, F.2.2.2.2.1 _ hs, trivial⟩ ⟨Pro.blind, fun U hU hW => ⟨rfl, hK.warm hW, by rw [hU]; exact hB⟩⟩ rfl hkn hsz hst (lv_room hW) hdg hf).run kk
variable {a : Nat} {ci q0 : Nat} {q : vw_C} {fs : List Value} {ws : va_W}
/-- a method of an object whose class is known -/
theorem ro_V (F : FX p s m meth c args y b n ret) (hK : KK D cA s) (hM : Met l y' (.code y' b' n' ret' :: tb) (rmd d) (Pro D cA (.ref a :: As) B) (Qro v) 0 0 nof) (hB : B H) (hP : va_P D classes ws H) (he : ws[q0]? = some (a, .inr (ci, fs))) (hcl : classes[ci]? = some q) (hcq : q.1 = y'.cls) (hc : Cond.code y' b' n' ret' ∈ tb) (hl : Cond.methodLink y.cls idx y' ∈ tb) (hi : Cond.initialized y'.cls ∈ tb) (hs : Cond.instanceMethod y' ∈ tb) (hse : Cond.selects y'.cls y' y' ∈ tb) (hkn : As.length = kn) (hd : okd y' kn) (hR : d + 1 ≤ R.frames ∧ 8 + (n' + 11) + 40 * d ≤ R.locals) (hf : cells ≤ R.cells ∧ slots ≤ R.slots) (hsz : ls.size = n) (hst : st = As.reverse ++ .ref a :: rest) (hW : (rest.map fun v => v.category).sum ≤ 8) (hdg : decode b pc = .ok (.invokevirtual idx, 3))
    (kk : W p l e R s m args below meth c H locs cells slots Q (F0 m (pc + 3) ls (v :: rest))) : W p l e R s m args below meth c H locs cells slots Q (F0 m pc ls st) :=
  ro_call (va_runV (As := As) (rest := rest) (C := y'.cls) ⟨F.1, F.2.1, F.2.2.1, F.2.2.2.1, F.2.2.2.2.1⟩ hM ⟨ro_cB F hc hl hi hkn hd hR, F.2.2.2.2.1 _ hs, F.2.2.2.2.1 _ hse⟩ ⟨Pro.blind, by rw [← hcq]; exact va_recv hK.1 hP hcl he, fun U hU hW => ⟨rfl, hK.warm hW, by rw [hU]; exact hB⟩⟩ rfl hkn hsz hst (lv_room hW) hdg hf).run kk
/-- a private method of an object, or one of a nest mate's -/
theorem ro_VN (F : FX p s m meth c args y b n ret) (hK : KK D cA s) (hM : Met l y' (.code y' b' n' ret' :: tb) (rmd d) (Pro D cA (.ref a :: As) B) (Qro v) 0 0 nof) (hB : B H) (hP : va_P D classes ws H) (he : ws[q0]? = some (a, .inr (ci, fs))) (hcl : classes[ci]? = some q) (hcq : q.1 = y'.cls) (hc : Cond.code y' b' n' ret' ∈ tb) (hl : Cond.methodLinkNest y.cls idx y' host ∈ nests) (hi : Cond.initialized y'.cls ∈ tb) (hs : Cond.instanceMethod y' ∈ tb) (hse : Cond.selects y'.cls y' y' ∈ tb) (hkn : As.length = kn) (hd : okd y' kn) (hR : d + 1 ≤ R.frames ∧ 8 + (n' + 11) + 40 * d ≤ R.locals) (hf : cells ≤ R.cells ∧ slots ≤ R.slots) (hsz : ls.size = n) (hst : st = As.reverse ++ .ref a :: rest) (hW : (rest.map fun v => v.category).sum ≤ 8) (hdg : decode b pc = .ok (.invokevirtual idx, 3))
    (kk : W p l e R s m args below meth c H locs cells slots Q (F0 m (pc + 3) ls (v :: rest))) : W p l e R s m args below meth c H locs cells slots Q (F0 m pc ls st) :=
  ro_call (va_runVN (As := As) (rest := rest) (C := y'.cls) ⟨F.1, F.2.1, F.2.2.1, F.2.2.2.1, F.2.2.2.2.1⟩ hM ⟨ro_cN F hK hc hl hi hkn hd hR, F.2.2.2.2.1 _ hs, F.2.2.2.2.1 _ hse⟩ ⟨Pro.blind, by rw [← hcq]; exact va_recv hK.1 hP hcl he, fun U hU hW => ⟨rfl, hK.warm hW, by rw [hU]; exact hB⟩⟩ rfl hkn hsz hst (lv_room hW) hdg hf).run kk
variable {C : String} {T : u_T} {N : Nat}
theorem ro_get (F : FX p s m meth c args y b n ret) (hK : KK D cA s) (hP : va_P D classes ws H) (q0 k : Nat) (he : ws[q0]? = some (a, .inr (ci, fs))) (hcl : classes[ci]? = some (C, T, N)) (hv : fs[k]? = some v) (hin : ∀ w ∈ u_ws C T N, w ∈ tb) (hk : k < N) (hl : Cond.fieldLink y.cls idx (T k).1 (T k).2.1 (T k).2.2.1 ∈ tb) (hdg : decode b pc = .ok (.getfield idx, 3))
    (kk : W p l e R s m args below meth c H locs cells slots Q (F0 m (pc + 3) ls (v :: rest))) : W p l e R s m args below meth c H locs cells slots Q (F0 m pc ls (.ref a :: rest)) :=
  va_get F.1 F.2.1 F.2.2.2.2.1 hin F.2.2.2.1 hK.1 hP q0 he hcl k hk (F.2.2.2.2.1 _ hl) (fun _ h => h) hv hdg kk
theorem ro_getN (F : FX p s m meth c args y b n ret) (hK : KK D cA s) (hP : va_P D classes ws H) (q0 k : Nat) (he : ws[q0]? = some (a, .inr (ci, fs))) (hcl : classes[ci]? = some (C, T, N)) (hv : fs[k]? = some v) (hin : ∀ w ∈ u_ws C T N, w ∈ tb) (hk : k < N) (hl : Cond.fieldLinkNest y.cls idx (T k).1 (T k).2.1 (T k).2.2.1 host ∈ nests) (hdg : decode b pc = .ok (.getfield idx, 3))
    (kk : W p l e R s m args below meth c H locs cells slots Q (F0 m (pc + 3) ls (v :: rest))) : W p l e R s m args below meth c H locs cells slots Q (F0 m pc ls (.ref a :: rest)) :=
  va_getN F.1 F.2.1 F.2.2.2.2.1 hin F.2.2.2.1 hK.1 hP q0 he hcl k hk (va_Nw.use rfl (hK.2.1 _ hl)) (fun _ h => h) hv hdg kk
end LAY
/-- the cells of a world -/
def aw (ws : va_W) : Nat → Prop := fun q => ∃ (k : Nat) (e : va_E), ws[k]? = some (q, e)
theorem aw_self {ws : va_W} {A : Nat → Prop} (h : va_D A ws) : va_D (aw ws) ws := ⟨h.1, fun k q hk => ⟨k, q.2, hk⟩⟩
theorem aw_in {A : Nat → Prop} {ws wc : va_W} (hD : va_D A ws) (is : List Nat) (hC : is.map (fun i => ws[i]?) = wc.map some) : ∀ q, aw wc q → A q := by
  intro q h
  obtain ⟨k, e, h⟩ := h
  have h1 : (is.map (fun i => ws[i]?))[k]? = some (some (q, e)) := by rw [hC, List.getElem?_map, h]; rfl
  rw [List.getElem?_map] at h1
  cases hi : is[k]? with
  | none => rw [hi] at h1; cases h1
  | some i => rw [hi] at h1; exact hD.2 i (q, e) (Option.some.inj h1)
/-- behind a call that changed the cells wc to w1: they beside the rest, which is as it was -/
theorem mu_join {A0 : Nat → Prop} {D : va_G} {cl : List vw_C} {ws wc wr w1 : va_W} {H H1 : Heap} (hP : va_P D cl ws H) (hD : va_D A0 ws) (isC isR : List Nat) (hC : isC.map (fun i => ws[i]?) = wc.map some) (hR : isR.map (fun i => ws[i]?) = wr.map some) (hn : va_nd isR = true) (hdis : ∀ i ∈ isR, i ∉ isC)
    (hk : ∀ q : Nat, q < H.size → ¬ aw wc q → H1[q]? = H[q]?) (hP1 : va_P D cl w1 H1) (hD1 : va_D (aw wc) w1) : va_P D cl (wr ++ w1) H1 ∧ va_D A0 (wr ++ w1) := by
  have at' : ∀ {is : List Nat} {w : va_W}, is.map (fun i => ws[i]?) = w.map some → ∀ (k : Nat) (q : Nat × va_E), w[k]? = some q → ∃ i, is[k]? = some i ∧ ws[i]? = some q := by
    intro is w hs k q hq
    have h1 : (is.map (fun i => ws[i]?))[k]? = some (some q) := by rw [hs, List.getElem?_map, hq]; rfl
    rw [List.getElem?_map] at h1
    cases hi : is[k]? with
    | none => rw [hi] at h1; cases h1
    | some i => rw [hi] at h1; exact ⟨i, rfl, Option.some.inj h1⟩
  have apart : ∀ (k : Nat) (q : Nat × va_E), wr[k]? = some q → q.1 < H.size ∧ ¬ aw wc q.1 := by
    intro k q hq
    obtain ⟨i, h1, h2⟩ := at' hR k q hq
    refine ⟨(hP i q h2).lt, fun h => ?_⟩
    obtain ⟨k2, e, h⟩ := h
    obtain ⟨j, h3, h4⟩ := at' hC k2 (q.1, e) h
    have hij := hD.1 i j q (q.1, e) h2 h4 rfl
    subst hij
    exact hdis i (List.mem_of_getElem? h1) (List.mem_of_getElem? h3)
  refine ⟨va_P.app (fun k q hq => ?_) hP1, va_D.app (hD.sub isR hn hR) (hD1.weaken (fun k q _ h => aw_in hD isC hC q.1 h)) (fun i j x y hx hy hxy => ?_)⟩
  · obtain ⟨i, h1, h2⟩ := at' hR k q hq
    obtain ⟨g1, g2⟩ := apart k q hq
    exact (hP i q h2).kept (hk q.1 g1 g2)
  · exact (apart i x hx).2 (by rw [hxy]; exact hD1.2 j y hy)
section LAY2
variable {p : Program} {l : Launch} {e : Env} {R : Room} {s : State} {m : MethodId} {args : Array Value} {below : List Frame} {meth : Method} {c : Code} {H : Heap} {locs : List Loc} {cells slots : Nat} {Q : State → Prop} {D : va_G} {cA : Nat → ClassId}
variable {y : MethodName} {b : ByteArray} {n : Nat} {ret : Option FieldType} {pc : Nat} {ls : Array Slot} {rest st : List Value}
theorem ro_to {v v' : Value} {g : JFrame} {H0 : Heap} (h : v' = v) (k : W p l e R s m args below meth c H0 [] 0 0 (MQ below (Qro v) args s 0 0 nof) g) : W p l e R s m args below meth c H0 [] 0 0 (MQ below (Qro v') args s 0 0 nof) g := by
  rw [h]; exact k
variable {A : Nat → Prop} {P : Option Value → Heap → Prop}
theorem mu_iret {v : Int32} (F : FX p s m meth c args y b n (some .int)) (hS : va_S A s.heap H locs) (hP : P (some (.int v)) H) (hdg : decode b pc = .ok (.ireturn, 1)) : W p l e R s m args below meth c H locs cells slots (MQ below (Qmu A P) args s cells slots A) (F0 m pc ls [.int v]) :=
  W.iret F.1 F.2.1 F.2.2.2.2.2.1 (fun t ht _ => ⟨⟨_, rfl, by rw [ht]; exact hP⟩, hS.F ht⟩) hS.2.2 hdg F.2.2.2.2.2.2
theorem mu_lret {v : Int64} (F : FX p s m meth c args y b n (some .long)) (hS : va_S A s.heap H locs) (hP : P (some (.long v)) H) (hdg : decode b pc = .ok (.lreturn, 1)) : W p l e R s m args below meth c H locs cells slots (MQ below (Qmu A P) args s cells slots A) (F0 m pc ls [.long v]) :=
  W.lret F.1 F.2.1 F.2.2.2.2.2.1 (fun t ht _ => ⟨⟨_, rfl, by rw [ht]; exact hP⟩, hS.F ht⟩) hS.2.2 hdg F.2.2.2.2.2.2
theorem mu_zret {v : Int32} (v' : Bool) (hv : v = bz v') (F : FX p s m meth c args y b n (some .boolean)) (hS : va_S A s.heap H locs) (hP : P (some (.int (bz v'))) H) (hdg : decode b pc = .ok (.ireturn, 1)) : W p l e R s m args below meth c H locs cells slots (MQ below (Qmu A P) args s cells slots A) (F0 m pc ls [.int v]) := by
  subst hv
  exact W.zret F.1 F.2.1 F.2.2.2.2.2.1 (bz_n v') (fun t ht _ => ⟨⟨_, rfl, by rw [ht]; exact hP⟩, hS.F ht⟩) hS.2.2 hdg F.2.2.2.2.2.2
theorem mu_vret (F : FX p s m meth c args y b n none) (hS : va_S A s.heap H locs) (hP : P none H) (hdg : decode b pc = .ok (.return_, 1)) : W p l e R s m args below meth c H locs cells slots (MQ below (Qmu A P) args s cells slots A) (F0 m pc ls []) :=
  W.vret F.1 F.2.1 F.2.2.2.2.2.1 (fun t ht _ => ⟨⟨_, rfl, by rw [ht]; exact hP⟩, hS.F ht⟩) hS.2.2 hdg F.2.2.2.2.2.2
theorem mu_call {A0 : Nat → Prop} {a : Array Value} {g : JFrame} {H0 : Heap} {mc ms : Nat} {free : Addr → Prop} (hr : CallRun p l e R s m args below meth c H locs cells slots mc ms g rest (Qmu A P a) free) (hS : va_S A0 H0 H locs) (hA : ∀ q, q < H.size → A q → A0 q) (hfr : ∀ q, free q → A0 q)
    (kk : ∀ (v : Option Value) (H1 : Heap) (locs1 : List Loc), P v H1 → H.size ≤ H1.size → (∀ q : Nat, q < H.size → ¬ A q → H1[q]? = H[q]?) → va_S A0 H0 H1 locs1 → W p l e R s m args below meth c H1 locs1 (cells + mc) (slots + ms) Q { g with pc := g.pc + 3, stack := v.toList ++ rest }) : W p l e R s m args below meth c H locs cells slots Q g := by
  intro T hT X
  obtain ⟨v, st₀, t, T', L, h0, X', hL, e1, ⟨⟨v', hv, hp⟩, hz, hk⟩, st⟩ := hr T hT X
  cases hv
  rw [h0] at hz hk
  obtain ⟨t2, a1, b1⟩ := kk v T'.heap (locs ++ L) (by rw [e1]; exact hp) (by rw [e1]; exact hz) (fun q h1 h2 => by rw [e1]; exact hk q h1 h2)
    ⟨Nat.le_trans hS.1 (by rw [e1]; exact hz), fun q h1 h2 => by rw [e1, hk q (Nat.lt_of_lt_of_le h1 hS.1) (fun z => h2 (hA q (Nat.lt_of_lt_of_le h1 hS.1) z))]; exact hS.2.1 q h1 h2, fun q hq => by
      rcases List.mem_append.mp hq with h | h
      · exact hS.2.2 q h
      · exact hfr _ (hL q h)⟩ T' rfl X'
  exact ⟨t2, st t2 a1, b1⟩
variable {y' : MethodName} {b' : ByteArray} {n' d idx kn : Nat} {ret' : Option FieldType} {As : List Value} {host : String} {a : Nat} {ci q0 : Nat} {q : vw_C} {fs : List Value} {ws wc : va_W} {A0 : Nat → Prop} {H0 : Heap}
/-- a method that changes the cells wc of the object's world -/
theorem mu_V (F : FX p s m meth c args y b n ret) (hK : KK D cA s) (hM : Met l y' (.code y' b' n' ret' :: tb) (rmd d) (Pro D cA (.ref a :: As) (fun H0 => va_P D classes wc H0 ∧ va_D (fun _ => True) wc)) (Qmu (aw wc) P) 0 0 (aw wc)) (hPc : va_P D classes wc H) (hDc : va_D A0 wc) (hP : va_P D classes ws H) (he : ws[q0]? = some (a, .inr (ci, fs))) (hcl : classes[ci]? = some q) (hcq : q.1 = y'.cls) (hc : Cond.code y' b' n' ret' ∈ tb) (hl : Cond.methodLink y.cls idx y' ∈ tb) (hi : Cond.initialized y'.cls ∈ tb) (hs : Cond.instanceMethod y' ∈ tb) (hse : Cond.selects y'.cls y' y' ∈ tb) (hkn : As.length = kn) (hd : okd y' kn) (hR : d + 1 ≤ R.frames ∧ 8 + (n' + 11) + 40 * d ≤ R.locals) (hf : cells ≤ R.cells ∧ slots ≤ R.slots) (hsz : ls.size = n) (hst : st = As.reverse ++ .ref a :: rest) (hW : (rest.map fun v => v.category).sum ≤ 8) (hdg : decode b pc = .ok (.invokevirtual idx, 3)) (hS : va_S A0 H0 H locs) (hA : ∀ q, aw wc q → A0 q)
    (kk : ∀ (v : Option Value) (H1 : Heap) (locs1 : List Loc), P v H1 → H.size ≤ H1.size → (∀ q : Nat, q < H.size → ¬ aw wc q → H1[q]? = H[q]?) → va_S A0 H0 H1 locs1 → W p l e R s m args below meth c H1 locs1 cells slots Q (F0 m (pc + 3) ls (v.toList ++ rest))) : W p l e R s m args below meth c H locs cells slots Q (F0 m pc ls st) :=
  mu_call (va_runV (As := As) (rest := rest) (C := y'.cls) ⟨F.1, F.2.1, F.2.2.1, F.2.2.2.1, F.2.2.2.2.1⟩ hM ⟨ro_cB F hc hl hi hkn hd hR, F.2.2.2.2.1 _ hs, F.2.2.2.2.1 _ hse⟩ ⟨Pro.blind, by rw [← hcq]; exact va_recv hK.1 hP hcl he, fun U hU hW => ⟨rfl, hK.warm hW, by rw [hU]; exact ⟨hPc, hDc.weaken (fun _ _ _ _ => trivial)⟩⟩⟩ rfl hkn hsz hst (lv_room hW) hdg hf).run hS (fun q _ h => hA q h) hA kk
theorem mu_VN (F : FX p s m meth c args y b n ret) (hK : KK D cA s) (hM : Met l y' (.code y' b' n' ret' :: tb) (rmd d) (Pro D cA (.ref a :: As) (fun H0 => va_P D classes wc H0 ∧ va_D (fun _ => True) wc)) (Qmu (aw wc) P) 0 0 (aw wc)) (hPc : va_P D classes wc H) (hDc : va_D A0 wc) (hP : va_P D classes ws H) (he : ws[q0]? = some (a, .inr (ci, fs))) (hcl : classes[ci]? = some q) (hcq : q.1 = y'.cls) (hc : Cond.code y' b' n' ret' ∈ tb) (hl : Cond.methodLinkNest y.cls idx y' host ∈ nests) (hi : Cond.initialized y'.cls ∈ tb) (hs : Cond.instanceMethod y' ∈ tb) (hse : Cond.selects y'.cls y' y' ∈ tb) (hkn : As.length = kn) (hd : okd y' kn) (hR : d + 1 ≤ R.frames ∧ 8 + (n' + 11) + 40 * d ≤ R.locals) (hf : cells ≤ R.cells ∧ slots ≤ R.slots) (hsz : ls.size = n) (hst : st = As.reverse ++ .ref a :: rest) (hW : (rest.map fun v => v.category).sum ≤ 8) (hdg : decode b pc = .ok (.invokevirtual idx, 3)) (hS : va_S A0 H0 H locs) (hA : ∀ q, aw wc q → A0 q)
    (kk : ∀ (v : Option Value) (H1 : Heap) (locs1 : List Loc), P v H1 → H.size ≤ H1.size → (∀ q : Nat, q < H.size → ¬ aw wc q → H1[q]? = H[q]?) → va_S A0 H0 H1 locs1 → W p l e R s m args below meth c H1 locs1 cells slots Q (F0 m (pc + 3) ls (v.toList ++ rest))) : W p l e R s m args below meth c H locs cells slots Q (F0 m pc ls st) :=
  mu_call (va_runVN (As := As) (rest := rest) (C := y'.cls) ⟨F.1, F.2.1, F.2.2.1, F.2.2.2.1, F.2.2.2.2.1⟩ hM ⟨ro_cN F hK hc hl hi hkn hd hR, F.2.2.2.2.1 _ hs, F.2.2.2.2.1 _ hse⟩ ⟨Pro.blind, by rw [← hcq]; exact va_recv hK.1 hP hcl he, fun U hU hW => ⟨rfl, hK.warm hW, by rw [hU]; exact ⟨hPc, hDc.weaken (fun _ _ _ _ => trivial)⟩⟩⟩ rfl hkn hsz hst (lv_room hW) hdg hf).run hS (fun q _ h => hA q h) hA kk
end LAY2
theorem k_lt {k B : Nat} {xi b : Int32} (hx : xi = nI k) (hb : b = nI B) (h : ¬ b ≤ xi) (hk : k < 2 ^ 31) : k < B := by
  subst hx; subst hb
  exact Nat.lt_of_not_le (fun q => h (nI_le q hk))
theorem vin {k N : Nat} {xi : Int32} (hx : xi = nI k) (h : k < N) (hN : N < 2 ^ 31) : vp_in xi N := by
  rw [hx]; exact vp_in_nI h hN
theorem in_nI {x : Int32} (h0 : ¬ x < 0) (h : ¬ (40 : Int32) ≤ x) : ∃ j : Nat, j < 40 ∧ x = nI j := by
  obtain ⟨j, hj, e⟩ := nI_of h0
  refine ⟨j, ?_, e⟩
  exact k_lt e (rfl : (40 : Int32) = nI 40) h hj
theorem upd_bz {bh : Nat → Bool} {k : Nat} {b : Bool} : upd (fun i => bz (bh i)) k (vp_nar .boolean (bz b)) = (fun i => bz (va_up bh k b i)) := by
  funext i
  unfold upd va_up
  by_cases h : i = k
  · rw [if_pos h, if_pos h]
    cases b <;> rfl
  · rw [if_neg h, if_neg h]
theorem vlin {a b : Nat} {x y : Int32} (c N : Nat) (hx : x = nI a) (hy : y = nI b) (h : c * a + b < N) (hN : N < 2 ^ 31) : vp_in (nI c * x + y) N := by
  rw [hx, hy, pk_mul, nI_add]
  exact vp_in_nI h hN
theorem vlin0 {a : Nat} {x : Int32} (c N : Nat) (hx : x = nI a) (h : c * a < N) (hN : N < 2 ^ 31) : vp_in (nI c * x) N := by
  rw [hx, pk_mul]
  exact vp_in_nI h hN
def rma (d mc ms : Nat) : Room := { frames := d, cells := mc, slots := ms, locals := 40 * d }
section LAY4
variable {p : Program} {l : Launch} {e : Env} {R : Room} {s : State} {m : MethodId} {args : Array Value} {below : List Frame} {meth : Method} {c : Code} {H : Heap} {locs : List Loc} {cells slots : Nat} {Q : State → Prop} {D : va_G} {cA : Nat → ClassId}
variable {y : MethodName} {b : ByteArray} {n : Nat} {ret : Option FieldType} {pc : Nat} {ls : Array Slot} {rest st : List Value} {P : Option Value → Heap → Prop}
variable {y' : MethodName} {b' : ByteArray} {n' d idx kn mc ms : Nat} {As : List Value} {a : Nat} {wc : va_W} {A0 : Nat → Prop} {H0 : Heap}
/-- a constructor that makes cells: mc of them, with ms slots -/
theorem al_I (F : FX p s m meth c args y b n ret) (hK : KK D cA s) (hM : Met l y' (.code y' b' n' none :: tb) (rma d mc ms) (Pro D cA (.ref a :: As) (fun H0 => H0.size = H.size ∧ va_P D classes wc H0 ∧ va_D (fun _ => True) wc)) (Qmu (va_A wc H.size) P) mc ms (va_A wc H.size)) (hPc : va_P D classes wc H) (hDc : va_D A0 wc) (hc : Cond.code y' b' n' none ∈ tb) (hl : Cond.methodLink y.cls idx y' ∈ tb) (hi : Cond.initialized y'.cls ∈ tb) (hs : Cond.instanceMethod y' ∈ tb) (hy1 : y'.name = "<init>") (hkn : As.length = kn) (hd : okd y' kn) (hR : d + 1 ≤ R.frames ∧ 8 + (n' + 11) + 40 * d ≤ R.locals) (hf : cells + mc ≤ R.cells ∧ slots + ms ≤ R.slots) (hsz : ls.size = n) (hst : st = As.reverse ++ .ref a :: rest) (hW : (rest.map fun v => v.category).sum ≤ 8) (hdg : decode b pc = .ok (.invokespecial idx, 3)) (hS : va_S A0 H0 H locs) (hA : ∀ q, va_A wc H.size q → A0 q)
    (kk : ∀ (v : Option Value) (H1 : Heap) (locs1 : List Loc), P v H1 → H.size ≤ H1.size → (∀ q : Nat, q < H.size → ¬ va_A wc H.size q → H1[q]? = H[q]?) → va_S A0 H0 H1 locs1 → W p l e R s m args below meth c H1 locs1 (cells + mc) (slots + ms) Q (F0 m (pc + 3) ls (v.toList ++ rest))) : W p l e R s m args below meth c H locs cells slots Q (F0 m pc ls st) :=
  mu_call (va_runI (As := As) (rest := rest) ⟨F.1, F.2.1, F.2.2.1, F.2.2.2.1, F.2.2.2.2.1⟩ hM ⟨callB_of kn F.2.2.2.2.1 (tb_goodT hc) rfl rfl rfl (F.2.2.2.2.1 _ hi) (F.2.2.2.2.1 _ hl) hd hR, hy1, F.2.2.2.2.1 _ hs⟩ ⟨Pro.blind, fun U hU hW => ⟨rfl, hK.warm hW, by rw [hU]; exact ⟨rfl, hPc, hDc.weaken (fun _ _ _ _ => trivial)⟩⟩⟩ rfl hkn hsz hst (lv_room hW) hdg hf).run hS (fun q _ h => hA q h) hA kk
theorem arr_same {cL : ClassId} {ty : FieldType} (k : Nat) (hk : (tyz cA)[k]? = some (cA k, ty)) (hK : KK D cA s) (h : va_K D classes (tyz cA ++ [(cL, ty)]) s) (hr : ∀ c c', va_RA s c ty → va_RA s c' ty → c = c') : cL = cA k := by
  have h1 := (hK.1.2 k _ hk).2
  have h2 := (h.2 (tyz cA).length (cL, ty) (by rw [List.getElem?_append_right (Nat.le_refl _), Nat.sub_self]; rfl)).2
  exact hr _ _ h2 h1
theorem ra_prim {ty : FieldType} (hty : ∀ C, ty ≠ .object C) {c c' : ClassId} (h : va_RA s c ty) (h' : va_RA s c' ty) : c = c' := by
  cases ty with
  | object C => exact absurd rfl (hty C)
  | _ => exact Option.some.inj (Eq.trans (Eq.symm h) h')
theorem ra_obj {C : String} {c c' : ClassId} (h : va_RA s c (.object C)) (h' : va_RA s c' (.object C)) : c = c' := by
  obtain ⟨_, _, _, _, _, h1⟩ := h
  obtain ⟨_, _, _, _, _, h2⟩ := h'
  exact Option.some.inj (h1.symm.trans h2)
end LAY4
