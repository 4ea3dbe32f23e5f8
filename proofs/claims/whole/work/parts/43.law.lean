/-! THE CLAIM OUT OF ONE WALK OF THE LAW'S BODY. Your part is whole_start (and what it stands on); all else here is the same for every law, but numbers. -/
def R_law : String := "CulpritSearchLaw"
def lw_P (b : Addr) (xs : List Int32) (args : Array Value) (s : State) : Prop := args = #[.ref b] ∧ s.IntsAt b xs ∧ xs.length ≤ 3072 ∧ (Jvm.Cond.and given_1 narrow_1).before args s = true
def lw_Q (_ : Array Value) (s : State) (o : Outcome) (t : State) : Prop := o = .returned (some (.int 1)) ∧ Framed s o t [] 600000 7302250
def lw_Z (below : List Frame) (a : Array Value) (s : State) : State → Prop := fun t => ∃ o, t.status = .running ∧ Ended t below o ∧ lw_Q a s o t
/-- the law's own end, with 1 on the stack, nothing written that was there before, its room as the claim has it -/
theorem lw_ret {p : Program} {l : Launch} {e : Env} {s : State} {m : MethodId} {below : List Frame} {meth : Method} {c : Code} {b : Nat} (hx : p.tables.exec = Jvm.exec) (hb : c.code = code) (hr : meth.sig.returnType = ret) (hlocks : meth.locks = false) {pc : Nat} {H : Heap} {ls : Array Slot} (hdg : decode code pc = .ok (.ireturn, 1)) : W p l e room_1 s m #[Value.ref b] below meth c H [] 600000 7302250 (lw_Z below #[Value.ref b] s) (F0 m pc ls [.int 1]) := by
  intro T hT X
  obtain ⟨fs, hret, hrun, hended, hW, hframe⟩ := X.leave (v := some (.int 1)) (hlocks := hlocks) (fun h => by rw [hr] at h; cases h)
  have hmeth' : T.vm.method? m = some meth := X.method'
  refine ⟨T.setFrames fs, ?_, .returned (some (.int 1)), hrun, hended, rfl, ⟨_, rfl⟩, hW, hframe⟩
  jvm_step X.here [X.here.top, hx, hb, hdg, hmeth', hr, ret, narrow_b1]
  (try refine ⟨rfl, ?_⟩); (try refine ⟨rfl, ?_⟩)
  first | (intro acts; rw [hret _ acts rfl rfl rfl]) | rw [hret _ _ rfl rfl rfl]
  exact Steps.refl _
/-- what holds at the law's entry: the machine, the code, the tables' words (any of lw_tbl by 'hts w (by decide +kernel)'), the script of L ints xs at the cell b, what the Statement gives of the start (any of its parts by flat_of_before) -/
def lw_At (p : Program) (s : State) (m : MethodId) (meth : Method) (c : Code) (b L : Nat) (xs : Nat → Int32) : Prop :=
  p.tables.exec = Jvm.exec ∧ c.code = code ∧ meth.sig.returnType = ret ∧ c.maxLocals = 4 ∧ s.vm.findClass R_law = some m.cls ∧ (∀ w ∈ lw_tbl, w.before #[Value.ref b] s = true) ∧ va_X b L xs s s.heap ∧ b < s.heap.size ∧ meth.locks = false ∧ (Jvm.Cond.and given_1 narrow_1).before #[Value.ref b] s = true
theorem kc_x_change : Cond.code y_x_change b_x_change 4 (some .int) ∈ tb := tb_mem 66 (by decide +kernel) (by decide +kernel)
theorem km_w_13 : Cond.methodLink "CulpritSearchLaw" 13 y_x_change ∈ tb := tb_mem 63 (by decide +kernel) (by decide +kernel)
theorem ks_x_change : Cond.instanceMethod y_x_change ∈ tb := tb_mem 64 (by decide +kernel) (by decide +kernel)
theorem ke_x_change : Cond.selects "CulpritSearch" y_x_change y_x_change ∈ tb := tb_mem 65 (by decide +kernel) (by decide +kernel)
theorem kc_m_change : Cond.code y_m_change b_m_change 5 (some .int) ∈ tb := tb_mem 388 (by decide +kernel) (by decide +kernel)
theorem km_w_17 : Cond.methodLink "CulpritSearchLaw" 17 y_m_change ∈ tb := tb_mem 385 (by decide +kernel) (by decide +kernel)
theorem ks_m_change : Cond.instanceMethod y_m_change ∈ tb := tb_mem 386 (by decide +kernel) (by decide +kernel)
theorem ke_m_change : Cond.selects "CulpritSearchModel" y_m_change y_m_change ∈ tb := tb_mem 387 (by decide +kernel) (by decide +kernel)
theorem kc_x_has : Cond.code y_x_has b_x_has 3 (some .boolean) ∈ tb := tb_mem 93 (by decide +kernel) (by decide +kernel)
theorem km_w_18 : Cond.methodLink "CulpritSearchLaw" 18 y_x_has ∈ tb := tb_mem 90 (by decide +kernel) (by decide +kernel)
theorem ks_x_has : Cond.instanceMethod y_x_has ∈ tb := tb_mem 91 (by decide +kernel) (by decide +kernel)
theorem ke_x_has : Cond.selects "CulpritSearch" y_x_has y_x_has ∈ tb := tb_mem 92 (by decide +kernel) (by decide +kernel)
theorem km_w_22 : Cond.methodLink "CulpritSearchLaw" 22 y_m_has ∈ tb := tb_mem 400 (by decide +kernel) (by decide +kernel)
theorem kc_x_target : Cond.code y_x_target b_x_target 2 (some .int) ∈ tb := tb_mem 103 (by decide +kernel) (by decide +kernel)
theorem km_w_23 : Cond.methodLink "CulpritSearchLaw" 23 y_x_target ∈ tb := tb_mem 100 (by decide +kernel) (by decide +kernel)
theorem ks_x_target : Cond.instanceMethod y_x_target ∈ tb := tb_mem 101 (by decide +kernel) (by decide +kernel)
theorem ke_x_target : Cond.selects "CulpritSearch" y_x_target y_x_target ∈ tb := tb_mem 102 (by decide +kernel) (by decide +kernel)
theorem kc_m_target : Cond.code y_m_target b_m_target 1 (some .int) ∈ tb := tb_mem 407 (by decide +kernel) (by decide +kernel)
theorem km_w_27 : Cond.methodLink "CulpritSearchLaw" 27 y_m_target ∈ tb := tb_mem 404 (by decide +kernel) (by decide +kernel)
theorem ks_m_target : Cond.instanceMethod y_m_target ∈ tb := tb_mem 405 (by decide +kernel) (by decide +kernel)
theorem ke_m_target : Cond.selects "CulpritSearchModel" y_m_target y_m_target ∈ tb := tb_mem 406 (by decide +kernel) (by decide +kernel)
theorem kc_x_good : Cond.code y_x_good b_x_good 4 (some .int) ∈ tb := tb_mem 149 (by decide +kernel) (by decide +kernel)
theorem km_w_28 : Cond.methodLink "CulpritSearchLaw" 28 y_x_good ∈ tb := tb_mem 146 (by decide +kernel) (by decide +kernel)
theorem ks_x_good : Cond.instanceMethod y_x_good ∈ tb := tb_mem 147 (by decide +kernel) (by decide +kernel)
theorem ke_x_good : Cond.selects "CulpritSearch" y_x_good y_x_good ∈ tb := tb_mem 148 (by decide +kernel) (by decide +kernel)
theorem kc_m_good : Cond.code y_m_good b_m_good 3 (some .int) ∈ tb := tb_mem 411 (by decide +kernel) (by decide +kernel)
theorem km_w_32 : Cond.methodLink "CulpritSearchLaw" 32 y_m_good ∈ tb := tb_mem 408 (by decide +kernel) (by decide +kernel)
theorem ks_m_good : Cond.instanceMethod y_m_good ∈ tb := tb_mem 409 (by decide +kernel) (by decide +kernel)
theorem ke_m_good : Cond.selects "CulpritSearchModel" y_m_good y_m_good ∈ tb := tb_mem 410 (by decide +kernel) (by decide +kernel)
theorem kc_x_begin : Cond.code y_x_begin b_x_begin 7 (some .int) ∈ tb := tb_mem 168 (by decide +kernel) (by decide +kernel)
theorem km_w_33 : Cond.methodLink "CulpritSearchLaw" 33 y_x_begin ∈ tb := tb_mem 165 (by decide +kernel) (by decide +kernel)
theorem ks_x_begin : Cond.instanceMethod y_x_begin ∈ tb := tb_mem 166 (by decide +kernel) (by decide +kernel)
theorem ke_x_begin : Cond.selects "CulpritSearch" y_x_begin y_x_begin ∈ tb := tb_mem 167 (by decide +kernel) (by decide +kernel)
theorem kc_m_begin : Cond.code y_m_begin b_m_begin 8 (some .int) ∈ tb := tb_mem 419 (by decide +kernel) (by decide +kernel)
theorem km_w_37 : Cond.methodLink "CulpritSearchLaw" 37 y_m_begin ∈ tb := tb_mem 416 (by decide +kernel) (by decide +kernel)
theorem ks_m_begin : Cond.instanceMethod y_m_begin ∈ tb := tb_mem 417 (by decide +kernel) (by decide +kernel)
theorem ke_m_begin : Cond.selects "CulpritSearchModel" y_m_begin y_m_begin ∈ tb := tb_mem 418 (by decide +kernel) (by decide +kernel)
theorem kc_x_stop : Cond.code y_x_stop b_x_stop 3 (some .boolean) ∈ tb := tb_mem 193 (by decide +kernel) (by decide +kernel)
theorem km_w_38 : Cond.methodLink "CulpritSearchLaw" 38 y_x_stop ∈ tb := tb_mem 190 (by decide +kernel) (by decide +kernel)
theorem ks_x_stop : Cond.instanceMethod y_x_stop ∈ tb := tb_mem 191 (by decide +kernel) (by decide +kernel)
theorem ke_x_stop : Cond.selects "CulpritSearch" y_x_stop y_x_stop ∈ tb := tb_mem 192 (by decide +kernel) (by decide +kernel)
theorem kc_m_stop : Cond.code y_m_stop b_m_stop 2 (some .boolean) ∈ tb := tb_mem 436 (by decide +kernel) (by decide +kernel)
theorem km_w_42 : Cond.methodLink "CulpritSearchLaw" 42 y_m_stop ∈ tb := tb_mem 433 (by decide +kernel) (by decide +kernel)
theorem ks_m_stop : Cond.instanceMethod y_m_stop ∈ tb := tb_mem 434 (by decide +kernel) (by decide +kernel)
theorem ke_m_stop : Cond.selects "CulpritSearchModel" y_m_stop y_m_stop ∈ tb := tb_mem 435 (by decide +kernel) (by decide +kernel)
theorem kc_x_state : Cond.code y_x_state b_x_state 3 (some .int) ∈ tb := tb_mem 205 (by decide +kernel) (by decide +kernel)
theorem km_w_43 : Cond.methodLink "CulpritSearchLaw" 43 y_x_state ∈ tb := tb_mem 202 (by decide +kernel) (by decide +kernel)
theorem ks_x_state : Cond.instanceMethod y_x_state ∈ tb := tb_mem 203 (by decide +kernel) (by decide +kernel)
theorem ke_x_state : Cond.selects "CulpritSearch" y_x_state y_x_state ∈ tb := tb_mem 204 (by decide +kernel) (by decide +kernel)
theorem km_w_47 : Cond.methodLink "CulpritSearchLaw" 47 y_m_state ∈ tb := tb_mem 446 (by decide +kernel) (by decide +kernel)
theorem kc_x_next : Cond.code y_x_next b_x_next 3 (some .int) ∈ tb := tb_mem 241 (by decide +kernel) (by decide +kernel)
theorem km_w_48 : Cond.methodLink "CulpritSearchLaw" 48 y_x_next ∈ tb := tb_mem 238 (by decide +kernel) (by decide +kernel)
theorem ks_x_next : Cond.instanceMethod y_x_next ∈ tb := tb_mem 239 (by decide +kernel) (by decide +kernel)
theorem ke_x_next : Cond.selects "CulpritSearch" y_x_next y_x_next ∈ tb := tb_mem 240 (by decide +kernel) (by decide +kernel)
theorem km_w_51 : Cond.methodLink "CulpritSearchLaw" 51 y_m_next ∈ tb := tb_mem 462 (by decide +kernel) (by decide +kernel)
theorem kc_x_answer : Cond.code y_x_answer b_x_answer 5 (some .int) ∈ tb := tb_mem 250 (by decide +kernel) (by decide +kernel)
theorem km_w_52 : Cond.methodLink "CulpritSearchLaw" 52 y_x_answer ∈ tb := tb_mem 247 (by decide +kernel) (by decide +kernel)
theorem ks_x_answer : Cond.instanceMethod y_x_answer ∈ tb := tb_mem 248 (by decide +kernel) (by decide +kernel)
theorem ke_x_answer : Cond.selects "CulpritSearch" y_x_answer y_x_answer ∈ tb := tb_mem 249 (by decide +kernel) (by decide +kernel)
theorem kc_m_answer : Cond.code y_m_answer b_m_answer 4 (some .int) ∈ tb := tb_mem 470 (by decide +kernel) (by decide +kernel)
theorem km_w_55 : Cond.methodLink "CulpritSearchLaw" 55 y_m_answer ∈ tb := tb_mem 467 (by decide +kernel) (by decide +kernel)
theorem ks_m_answer : Cond.instanceMethod y_m_answer ∈ tb := tb_mem 468 (by decide +kernel) (by decide +kernel)
theorem ke_m_answer : Cond.selects "CulpritSearchModel" y_m_answer y_m_answer ∈ tb := tb_mem 469 (by decide +kernel) (by decide +kernel)
theorem kc_x_weight : Cond.code y_x_weight b_x_weight 4 (some .long) ∈ tb := tb_mem 274 (by decide +kernel) (by decide +kernel)
theorem km_w_56 : Cond.methodLink "CulpritSearchLaw" 56 y_x_weight ∈ tb := tb_mem 271 (by decide +kernel) (by decide +kernel)
theorem ks_x_weight : Cond.instanceMethod y_x_weight ∈ tb := tb_mem 272 (by decide +kernel) (by decide +kernel)
theorem ke_x_weight : Cond.selects "CulpritSearch" y_x_weight y_x_weight ∈ tb := tb_mem 273 (by decide +kernel) (by decide +kernel)
theorem km_w_60 : Cond.methodLink "CulpritSearchLaw" 60 y_m_weight ∈ tb := tb_mem 437 (by decide +kernel) (by decide +kernel)
theorem kc_x_part : Cond.code y_x_part b_x_part 4 (some .long) ∈ tb := tb_mem 282 (by decide +kernel) (by decide +kernel)
theorem km_w_61 : Cond.methodLink "CulpritSearchLaw" 61 y_x_part ∈ tb := tb_mem 279 (by decide +kernel) (by decide +kernel)
theorem ks_x_part : Cond.instanceMethod y_x_part ∈ tb := tb_mem 280 (by decide +kernel) (by decide +kernel)
theorem ke_x_part : Cond.selects "CulpritSearch" y_x_part y_x_part ∈ tb := tb_mem 281 (by decide +kernel) (by decide +kernel)
theorem km_w_64 : Cond.methodLink "CulpritSearchLaw" 64 y_m_part ∈ tb := tb_mem 438 (by decide +kernel) (by decide +kernel)
theorem kc_x_total : Cond.code y_x_total b_x_total 3 (some .long) ∈ tb := tb_mem 287 (by decide +kernel) (by decide +kernel)
theorem km_w_65 : Cond.methodLink "CulpritSearchLaw" 65 y_x_total ∈ tb := tb_mem 284 (by decide +kernel) (by decide +kernel)
theorem ks_x_total : Cond.instanceMethod y_x_total ∈ tb := tb_mem 285 (by decide +kernel) (by decide +kernel)
theorem ke_x_total : Cond.selects "CulpritSearch" y_x_total y_x_total ∈ tb := tb_mem 286 (by decide +kernel) (by decide +kernel)
theorem km_w_69 : Cond.methodLink "CulpritSearchLaw" 69 y_m_total ∈ tb := tb_mem 442 (by decide +kernel) (by decide +kernel)
theorem kc_x_found : Cond.code y_x_found b_x_found 3 (some .int) ∈ tb := tb_mem 292 (by decide +kernel) (by decide +kernel)
theorem km_w_70 : Cond.methodLink "CulpritSearchLaw" 70 y_x_found ∈ tb := tb_mem 289 (by decide +kernel) (by decide +kernel)
theorem ks_x_found : Cond.instanceMethod y_x_found ∈ tb := tb_mem 290 (by decide +kernel) (by decide +kernel)
theorem ke_x_found : Cond.selects "CulpritSearch" y_x_found y_x_found ∈ tb := tb_mem 291 (by decide +kernel) (by decide +kernel)
theorem km_w_73 : Cond.methodLink "CulpritSearchLaw" 73 y_m_found ∈ tb := tb_mem 472 (by decide +kernel) (by decide +kernel)
theorem kc_x_told : Cond.code y_x_told b_x_told 4 (some .int) ∈ tb := tb_mem 297 (by decide +kernel) (by decide +kernel)
theorem km_w_74 : Cond.methodLink "CulpritSearchLaw" 74 y_x_told ∈ tb := tb_mem 294 (by decide +kernel) (by decide +kernel)
theorem ks_x_told : Cond.instanceMethod y_x_told ∈ tb := tb_mem 295 (by decide +kernel) (by decide +kernel)
theorem ke_x_told : Cond.selects "CulpritSearch" y_x_told y_x_told ∈ tb := tb_mem 296 (by decide +kernel) (by decide +kernel)
theorem kc_m_told : Cond.code y_m_told b_m_told 10 (some .int) ∈ tb := tb_mem 479 (by decide +kernel) (by decide +kernel)
theorem km_w_77 : Cond.methodLink "CulpritSearchLaw" 77 y_m_told ∈ tb := tb_mem 476 (by decide +kernel) (by decide +kernel)
theorem ks_m_told : Cond.instanceMethod y_m_told ∈ tb := tb_mem 477 (by decide +kernel) (by decide +kernel)
theorem ke_m_told : Cond.selects "CulpritSearchModel" y_m_told y_m_told ∈ tb := tb_mem 478 (by decide +kernel) (by decide +kernel)
theorem kc_x_way : Cond.code y_x_way b_x_way 4 (some .int) ∈ tb := tb_mem 310 (by decide +kernel) (by decide +kernel)
theorem km_w_78 : Cond.methodLink "CulpritSearchLaw" 78 y_x_way ∈ tb := tb_mem 307 (by decide +kernel) (by decide +kernel)
theorem ks_x_way : Cond.instanceMethod y_x_way ∈ tb := tb_mem 308 (by decide +kernel) (by decide +kernel)
theorem ke_x_way : Cond.selects "CulpritSearch" y_x_way y_x_way ∈ tb := tb_mem 309 (by decide +kernel) (by decide +kernel)
theorem kc_m_way : Cond.code y_m_way b_m_way 9 (some .int) ∈ tb := tb_mem 483 (by decide +kernel) (by decide +kernel)
theorem km_w_81 : Cond.methodLink "CulpritSearchLaw" 81 y_m_way ∈ tb := tb_mem 480 (by decide +kernel) (by decide +kernel)
theorem ks_m_way : Cond.instanceMethod y_m_way ∈ tb := tb_mem 481 (by decide +kernel) (by decide +kernel)
theorem ke_m_way : Cond.selects "CulpritSearchModel" y_m_way y_m_way ∈ tb := tb_mem 482 (by decide +kernel) (by decide +kernel)
theorem kc_x_counted : Cond.code y_x_counted b_x_counted 4 (some .int) ∈ tb := tb_mem 322 (by decide +kernel) (by decide +kernel)
theorem km_w_82 : Cond.methodLink "CulpritSearchLaw" 82 y_x_counted ∈ tb := tb_mem 319 (by decide +kernel) (by decide +kernel)
theorem ks_x_counted : Cond.instanceMethod y_x_counted ∈ tb := tb_mem 320 (by decide +kernel) (by decide +kernel)
theorem ke_x_counted : Cond.selects "CulpritSearch" y_x_counted y_x_counted ∈ tb := tb_mem 321 (by decide +kernel) (by decide +kernel)
theorem kc_m_counted : Cond.code y_m_counted b_m_counted 5 (some .int) ∈ tb := tb_mem 488 (by decide +kernel) (by decide +kernel)
theorem km_w_85 : Cond.methodLink "CulpritSearchLaw" 85 y_m_counted ∈ tb := tb_mem 485 (by decide +kernel) (by decide +kernel)
theorem ks_m_counted : Cond.instanceMethod y_m_counted ∈ tb := tb_mem 486 (by decide +kernel) (by decide +kernel)
theorem ke_m_counted : Cond.selects "CulpritSearchModel" y_m_counted y_m_counted ∈ tb := tb_mem 487 (by decide +kernel) (by decide +kernel)
theorem kz_x : Cond.instantiable "CulpritSearch" 3 ∈ tb := tb_mem 20 (by decide +kernel) (by decide +kernel)
theorem kz_m : Cond.instantiable "CulpritSearchModel" 16 ∈ tb := tb_mem 329 (by decide +kernel) (by decide +kernel)
theorem kk_w_7 : Cond.classLink "CulpritSearchLaw" 7 "CulpritSearch" ∈ tb := tb_mem 19 (by decide +kernel) (by decide +kernel)
theorem kc_x_init : Cond.code y_x_init b_x_init 1 none ∈ tb := tb_mem 23 (by decide +kernel) (by decide +kernel)
theorem km_w_9 : Cond.methodLink "CulpritSearchLaw" 9 y_x_init ∈ tb := tb_mem 21 (by decide +kernel) (by decide +kernel)
theorem ks_x_init : Cond.instanceMethod y_x_init ∈ tb := tb_mem 22 (by decide +kernel) (by decide +kernel)
theorem kk_w_10 : Cond.classLink "CulpritSearchLaw" 10 "CulpritSearchModel" ∈ tb := tb_mem 328 (by decide +kernel) (by decide +kernel)
theorem kc_m_init : Cond.code y_m_init b_m_init 1 none ∈ tb := tb_mem 332 (by decide +kernel) (by decide +kernel)
theorem km_w_12 : Cond.methodLink "CulpritSearchLaw" 12 y_m_init ∈ tb := tb_mem 330 (by decide +kernel) (by decide +kernel)
theorem ks_m_init : Cond.instanceMethod y_m_init ∈ tb := tb_mem 331 (by decide +kernel) (by decide +kernel)
/-! THE LAW: its two worlds side by side, and a call of each -/
theorem wx_keep2 {D : va_G} {cA : Nat → ClassId} {ad : Nat → Nat} {nt : Nat} {G : GS} {TT : Nat → TS} {H H1 : Heap} {A1 : Nat → Prop} (hW : WX D cA ad nt G TT H) (hd : ∀ q, ox ad nt q → ¬ A1 q) (hk : ∀ q : Nat, q < H.size → ¬ A1 q → H1[q]? = H[q]?) : WX D cA ad nt G TT H1 := by
  refine ⟨hW.1.kept (fun k q hq => hk q.1 (hW.1 k q hq).lt (hd q.1 (ox_5 (G := G) q.1 ⟨k, q.2, hq⟩))), fun j hj => (hW.2 j hj).kept (fun k q hq => hk q.1 (hW.2 j hj k q hq).lt (hd q.1 ?_))⟩
  match k, hq with
  | 0, hq => cases hq; exact ⟨5 + 2 * j, by omega, rfl⟩
  | 1, hq => cases hq; exact ⟨6 + 2 * j, by omega, rfl⟩
  | k + 2, hq => simp at hq
theorem inj_of {A : Nat → Prop} {ws : va_W} {n : Nat} {ad : Nat → Nat} (hD : va_D A ws) (o : Nat) (h : ∀ i, i < n → ∃ e, ws[o + i]? = some (ad i, e)) : ∀ i j, i < n → j < n → ad i = ad j → i = j := by
  intro i j hi hj e
  obtain ⟨e1, h1⟩ := h i hi
  obtain ⟨e2, h2⟩ := h j hj
  have := hD.1 _ _ _ _ h1 h2 e
  omega
theorem nb_on {w : Cond} (hn : nB w = true) : w.onTables = true := by
  unfold nB at hn
  split at hn
  · rfl
  · rfl
  · cases hn
def y_law : MethodName := ⟨"CulpritSearchLaw", "law", "([I)Z"⟩
section LAWG
variable {p : Program} {l : Launch} {e : Env} {R : Room} {s : State} {m : MethodId} {args : Array Value} {below : List Frame} {meth : Method} {c : Code} {H : Heap} {locs : List Loc} {cells slots : Nat} {Q : State → Prop} {D : va_G} {cA : Nat → ClassId}
variable {y : MethodName} {b : ByteArray} {n : Nat} {ret : Option FieldType} {pc : Nat} {ls : Array Slot} {rest st : List Value}
variable {y' : MethodName} {b' : ByteArray} {n' d idx kn mc ms : Nat} {ret' : Option FieldType} {As : List Value} {a : Nat} {ci q0 : Nat} {q : vw_C} {fs : List Value} {ws : va_W} {A0 A1 : Nat → Prop} {H0 : Heap} {B : Heap → Prop} {P : Option Value → Heap → Prop}
/-- the call of a method that may change A1 -/
theorem mu_G (F : FX p s m meth c args y b n ret) (hK : KK D cA s) (hM : Met l y' (.code y' b' n' ret' :: tb) (rma d mc ms) (Pro D cA (.ref a :: As) B) (Qmu A1 P) mc ms A1) (hB : B H) (hP : va_P D classes ws H) (he : ws[q0]? = some (a, .inr (ci, fs))) (hcl : classes[ci]? = some q) (hcq : q.1 = y'.cls) (hc : Cond.code y' b' n' ret' ∈ tb) (hl : Cond.methodLink y.cls idx y' ∈ tb) (hi : Cond.initialized y'.cls ∈ tb) (hs : Cond.instanceMethod y' ∈ tb) (hse : Cond.selects y'.cls y' y' ∈ tb) (hkn : As.length = kn) (hd : okd y' kn) (hR : d + 1 ≤ R.frames ∧ 8 + (n' + 11) + 40 * d ≤ R.locals) (hf : cells + mc ≤ R.cells ∧ slots + ms ≤ R.slots) (hsz : ls.size = n) (hst : st = As.reverse ++ .ref a :: rest) (hW : (rest.map fun v => v.category).sum ≤ 8) (hdg : decode b pc = .ok (.invokevirtual idx, 3)) (hS : va_S A0 H0 H locs) (hA : ∀ q, A1 q → A0 q)
    (kk : ∀ (v : Option Value) (H1 : Heap) (locs1 : List Loc), P v H1 → H.size ≤ H1.size → (∀ q : Nat, q < H.size → ¬ A1 q → H1[q]? = H[q]?) → va_S A0 H0 H1 locs1 → W p l e R s m args below meth c H1 locs1 (cells + mc) (slots + ms) Q (F0 m (pc + 3) ls (v.toList ++ rest))) : W p l e R s m args below meth c H locs cells slots Q (F0 m pc ls st) :=
  mu_call (va_runV (As := As) (rest := rest) (C := y'.cls) ⟨F.1, F.2.1, F.2.2.1, F.2.2.2.1, F.2.2.2.2.1⟩ hM ⟨callB_of kn F.2.2.2.2.1 (tb_goodT hc) rfl rfl rfl (F.2.2.2.2.1 _ hi) (F.2.2.2.2.1 _ hl) hd hR, F.2.2.2.2.1 _ hs, F.2.2.2.2.1 _ hse⟩ ⟨Pro.blind, by rw [← hcq]; exact va_recv hK.1 hP hcl he, fun U hU hW => ⟨rfl, hK.warm hW, by rw [hU]; exact hB⟩⟩ rfl hkn hsz hst (lv_room hW) hdg hf).run hS (fun q _ h => hA q h) hA kk
end LAWG
abbrev lz (b ax mo k : Nat) : List (Nat × Value) := [(3, .int (nI (6 * k))), (2, .ref mo), (1, .ref ax), (0, .ref b)]
abbrev LD (pc j : Nat) : Prop := decode code pc = .ok (.aload_n 0, 1) ∧ decode code (pc + 1) = .ok (.iload_n 3, 1) ∧ decode code (pc + 2) = .ok (.iconst (j : Int), 1) ∧ decode code (pc + 3) = .ok (.iadd, 1) ∧ decode code (pc + 4) = .ok (.iaload, 1)
theorem law_ld {p : Program} {l : Launch} {e : Env} {s : State} {m : MethodId} {args : Array Value} {below : List Frame} {meth : Method} {c : Code} {H : Heap} {locs : List Loc} {cells slots : Nat} {Q : State → Prop} {pc : Nat} {ls : Array Slot} {st : List Value} {b L k ax mo : Nat} {xs : Nat → Int32}
    (F : FX p s m meth c args y_law code 4 ret) (hX : va_X b L xs s s.heap) (hbl : b < s.heap.size) (hS : va_S (fun q => s.heap.size ≤ q) s.heap H locs) (hl : lv_has ls 4 (lz b ax mo k)) (hk : 6 * k + 6 ≤ L) (hL : L ≤ 3072) (j : Nat) (hj : j < 6) (hjc : Int32.ofInt (j : Int) = nI j) (hd : LD pc j)
    (kk : W p l e room_1 s m args below meth c H locs cells slots Q (F0 m (pc + 5) ls (.int (xs (6 * k + j)) :: st))) : W p l e room_1 s m args below meth c H locs cells slots Q (F0 m pc ls st) := by
  obtain ⟨d0, d1, d2, d3, d4⟩ := hd
  refine lv_aload_n F.1 F.2.1 d0 rfl (lv_at hl 3 rfl) ?_
  refine lv_iload_n F.1 F.2.1 d1 rfl (lv_at hl 0 rfl) ?_
  refine lv_iconst (v := nI j) F.1 F.2.1 d2 hjc ?_
  refine lv_iadd F.1 F.2.1 d3 ?_
  rw [nI_add]
  refine va_sld F.1 F.2.1 hX hbl (fun q => Nat.lt_irrefl _ (Nat.lt_of_lt_of_le hbl q)) hS (vin rfl (by omega) (by omega)) d4 ?_
  rw [nI_clamp (by omega)]
  exact kk
abbrev cM (cA : Nat → ClassId) (qz : Nat → Nat) (vc : Int32) (vp : Nat → Int32) (vh : Nat → Bool) (vk : Nat → Bool) (vb : Nat → Bool) (vt : Int32) (vg : Nat → Bool) (vo : Nat → Bool) (vd : Nat → Int32) (vu : Nat → Int32) (vw : Nat → Int32) (vs : Nat → Int32) (vx : Nat → Int32) (va : Nat → Int32) (vq : Nat → Int32) (vf : Nat → Bool) : va_W := [(qz 0, .inr (3, [.int vc, .ref (qz 1), .ref (qz 2), .ref (qz 3), .ref (qz 4), .int vt, .ref (qz 5), .ref (qz 6), .ref (qz 7), .ref (qz 8), .ref (qz 9), .ref (qz 10), .ref (qz 11), .ref (qz 12), .ref (qz 13), .ref (qz 14)])), (qz 1, .inl (cA 2, 120, .inl vp)), (qz 2, .inl (cA 3, 1600, .inl (fun i => bz (vh i)))), (qz 3, .inl (cA 3, 40, .inl (fun i => bz (vk i)))), (qz 4, .inl (cA 3, 40, .inl (fun i => bz (vb i)))), (qz 5, .inl (cA 3, 160, .inl (fun i => bz (vg i)))), (qz 6, .inl (cA 3, 4, .inl (fun i => bz (vo i)))), (qz 7, .inl (cA 2, 4, .inl vd)), (qz 8, .inl (cA 2, 4, .inl vu)), (qz 9, .inl (cA 2, 4, .inl vw)), (qz 10, .inl (cA 2, 4, .inl vs)), (qz 11, .inl (cA 2, 4, .inl vx)), (qz 12, .inl (cA 2, 4, .inl va)), (qz 13, .inl (cA 2, 60, .inl vq)), (qz 14, .inl (cA 3, 60, .inl (fun i => bz (vf i))))]
def oM (qz : Nat → Nat) : Nat → Prop := fun q => ∃ i, i < 15 ∧ q = qz i
theorem cz_o {cA : Nat → ClassId} {qz : Nat → Nat} {vc : Int32} {vp : Nat → Int32} {vh : Nat → Bool} {vk : Nat → Bool} {vb : Nat → Bool} {vt : Int32} {vg : Nat → Bool} {vo : Nat → Bool} {vd : Nat → Int32} {vu : Nat → Int32} {vw : Nat → Int32} {vs : Nat → Int32} {vx : Nat → Int32} {va : Nat → Int32} {vq : Nat → Int32} {vf : Nat → Bool} {q : Nat} (h : aw (cM cA qz vc vp vh vk vb vt vg vo vd vu vw vs vx va vq vf) q) : oM qz q := by
  rw [aw_iff] at h
  simp only [List.map_cons, List.map_nil, List.mem_cons, List.not_mem_nil, or_false] at h
  rcases h with h | h | h | h | h | h | h | h | h | h | h | h | h | h | h
  · exact ⟨0, by decide, h⟩
  · exact ⟨1, by decide, h⟩
  · exact ⟨2, by decide, h⟩
  · exact ⟨3, by decide, h⟩
  · exact ⟨4, by decide, h⟩
  · exact ⟨5, by decide, h⟩
  · exact ⟨6, by decide, h⟩
  · exact ⟨7, by decide, h⟩
  · exact ⟨8, by decide, h⟩
  · exact ⟨9, by decide, h⟩
  · exact ⟨10, by decide, h⟩
  · exact ⟨11, by decide, h⟩
  · exact ⟨12, by decide, h⟩
  · exact ⟨13, by decide, h⟩
  · exact ⟨14, by decide, h⟩
theorem cz_d {cA : Nat → ClassId} {qz : Nat → Nat} {vc : Int32} {vp : Nat → Int32} {vh : Nat → Bool} {vk : Nat → Bool} {vb : Nat → Bool} {vt : Int32} {vg : Nat → Bool} {vo : Nat → Bool} {vd : Nat → Int32} {vu : Nat → Int32} {vw : Nat → Int32} {vs : Nat → Int32} {vx : Nat → Int32} {va : Nat → Int32} {vq : Nat → Int32} {vf : Nat → Bool} (h : ∀ i j, i < 15 → j < 15 → qz i = qz j → i = j) : va_D (fun _ => True) (cM cA qz vc vp vh vk vb vt vg vo vd vu vw vs vx va vq vf) := lst_d h [0, 1, 2, 3, 4, 5, 6, 7, 8, 9, 10, 11, 12, 13, 14] rfl rfl (fun i hi => by simp at hi; omega)
theorem cz_lt {D : va_G} {cA : Nat → ClassId} {qz : Nat → Nat} {vc : Int32} {vp : Nat → Int32} {vh : Nat → Bool} {vk : Nat → Bool} {vb : Nat → Bool} {vt : Int32} {vg : Nat → Bool} {vo : Nat → Bool} {vd : Nat → Int32} {vu : Nat → Int32} {vw : Nat → Int32} {vs : Nat → Int32} {vx : Nat → Int32} {va : Nat → Int32} {vq : Nat → Int32} {vf : Nat → Bool} {H : Heap} (hP : va_P D classes (cM cA qz vc vp vh vk vb vt vg vo vd vu vw vs vx va vq vf) H) {q : Nat} (h : oM qz q) : q < H.size := by
  obtain ⟨i, hi, rfl⟩ := h
  rcases (show i = 0 ∨ i = 1 ∨ i = 2 ∨ i = 3 ∨ i = 4 ∨ i = 5 ∨ i = 6 ∨ i = 7 ∨ i = 8 ∨ i = 9 ∨ i = 10 ∨ i = 11 ∨ i = 12 ∨ i = 13 ∨ i = 14 by omega) with rfl | rfl | rfl | rfl | rfl | rfl | rfl | rfl | rfl | rfl | rfl | rfl | rfl | rfl | rfl
  · exact (hP 0 _ rfl).lt
  · exact (hP 1 _ rfl).lt
  · exact (hP 2 _ rfl).lt
  · exact (hP 3 _ rfl).lt
  · exact (hP 4 _ rfl).lt
  · exact (hP 5 _ rfl).lt
  · exact (hP 6 _ rfl).lt
  · exact (hP 7 _ rfl).lt
  · exact (hP 8 _ rfl).lt
  · exact (hP 9 _ rfl).lt
  · exact (hP 10 _ rfl).lt
  · exact (hP 11 _ rfl).lt
  · exact (hP 12 _ rfl).lt
  · exact (hP 13 _ rfl).lt
  · exact (hP 14 _ rfl).lt
theorem cz_keep {D : va_G} {cA : Nat → ClassId} {qz : Nat → Nat} {vc : Int32} {vp : Nat → Int32} {vh : Nat → Bool} {vk : Nat → Bool} {vb : Nat → Bool} {vt : Int32} {vg : Nat → Bool} {vo : Nat → Bool} {vd : Nat → Int32} {vu : Nat → Int32} {vw : Nat → Int32} {vs : Nat → Int32} {vx : Nat → Int32} {va : Nat → Int32} {vq : Nat → Int32} {vf : Nat → Bool} {H H1 : Heap} {A1 : Nat → Prop} (hP : va_P D classes (cM cA qz vc vp vh vk vb vt vg vo vd vu vw vs vx va vq vf) H) (hd : ∀ q, oM qz q → ¬ A1 q) (hk : ∀ q : Nat, q < H.size → ¬ A1 q → H1[q]? = H[q]?) : va_P D classes (cM cA qz vc vp vh vk vb vt vg vo vd vu vw vs vx va vq vf) H1 := hP.kept (fun k q hq => hk q.1 (hP k q hq).lt (hd q.1 (cz_o ⟨k, q.2, hq⟩)))
/-- the law between two of its calls -/
def LW (D : va_G) (cA : Nat → ClassId) (z ax : Nat) (qz : Nat → Nat) (H : Heap) : Prop := ∃ (cn nt : Nat) (ad : Nat → Nat) (G : GS) (TT : Nat → TS) (vp : Nat → Int32) (vh : Nat → Bool) (vk : Nat → Bool) (vb : Nat → Bool) (vg : Nat → Bool) (vo : Nat → Bool) (vf : Nat → Bool) (vd : Nat → Int32) (vu : Nat → Int32) (vw : Nat → Int32) (vs : Nat → Int32) (vx : Nat → Int32) (va : Nat → Int32) (vq : Nat → Int32), ad 0 = ax ∧ WX D cA ad nt G TT H ∧ va_P D classes (cM cA qz (nI cn) vp vh vk vb (nI nt) vg vo vd vu vw vs vx va vq vf) H ∧ adX ad nt ∧ (∀ q, ox ad nt q → z ≤ q) ∧ (∀ q, ox ad nt q → ¬ oM qz q) ∧ INV cn nt G TT vp vh vk vb vg vo vf vd vu vw vs vx va vq
def LC (p : Program) (s : State) (m : MethodId) (meth : Method) (c : Code) (args : Array Value) (b L : Nat) (xs : Nat → Int32) (D : va_G) (cA : Nat → ClassId) (qz : Nat → Nat) : Prop := FX p s m meth c args y_law code 4 ret ∧ KK D cA s ∧ va_X b L xs s s.heap ∧ b < s.heap.size ∧ L ≤ 3072 ∧ (∀ i j, i < 15 → j < 15 → qz i = qz j → i = j) ∧ (∀ i, i < 15 → s.heap.size ≤ qz i)
theorem d_law_0 : decode code 0 = .ok (.new 7, 3) := by decide +kernel
theorem d_law_3 : decode code 3 = .ok (.dup, 1) := by decide +kernel
theorem d_law_4 : decode code 4 = .ok (.invokespecial 9, 3) := by decide +kernel
theorem d_law_7 : decode code 7 = .ok (.astore_n 1, 1) := by decide +kernel
theorem d_law_8 : decode code 8 = .ok (.new 10, 3) := by decide +kernel
theorem d_law_11 : decode code 11 = .ok (.dup, 1) := by decide +kernel
theorem d_law_12 : decode code 12 = .ok (.invokespecial 12, 3) := by decide +kernel
theorem d_law_15 : decode code 15 = .ok (.astore_n 2, 1) := by decide +kernel
theorem d_law_16 : decode code 16 = .ok (.iconst 0, 1) := by decide +kernel
theorem d_law_17 : decode code 17 = .ok (.istore_n 3, 1) := by decide +kernel
theorem d_law_18 : decode code 18 = .ok (.iload_n 3, 1) := by decide +kernel
theorem d_law_19 : decode code 19 = .ok (.aload_n 0, 1) := by decide +kernel
theorem d_law_20 : decode code 20 = .ok (.arraylength, 1) := by decide +kernel
theorem d_law_21 : decode code 21 = .ok (.bipush 6, 2) := by decide +kernel
theorem d_law_23 : decode code 23 = .ok (.isub, 1) := by decide +kernel
theorem d_law_24 : decode code 24 = .ok (.if_icmp .gt 595, 3) := by decide +kernel
theorem d_law_27 : decode code 27 = .ok (.aload_n 0, 1) := by decide +kernel
theorem d_law_28 : decode code 28 = .ok (.iload_n 3, 1) := by decide +kernel
theorem d_law_29 : decode code 29 = .ok (.iaload, 1) := by decide +kernel
theorem d_law_30 : decode code 30 = .ok (.bipush 15, 2) := by decide +kernel
theorem d_law_32 : decode code 32 = .ok (.iand, 1) := by decide +kernel
theorem d_law_613 : decode code 613 = .ok (.iinc 3 6, 3) := by decide +kernel
theorem d_law_616 : decode code 616 = .ok (.goto (-598), 3) := by decide +kernel
theorem d_law_619 : decode code 619 = .ok (.iconst 1, 1) := by decide +kernel
theorem d_law_620 : decode code 620 = .ok (.ireturn, 1) := by decide +kernel
theorem d_law_33 : decode code 33 = .ok (.tableswitch 580 0 15 #[79, 122, 155, 168, 201, 264, 287, 310, 333, 366, 400, 434, 458, 481, 514, 547], 79) := by decide +kernel
