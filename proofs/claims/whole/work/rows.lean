section
-- ===== PART A: goes FIRST, ahead of the names: the tables' words, and 'selects' of the private methods out of them =====
/-- a private method of a class that the tables say can be made, by its rows of tables_1 -/
def lw_okq (q : MethodName × Nat) : Prop := (q.1.cls ≠ "java/lang/invoke/MethodHandle" ∧ q.1.cls ≠ "java/lang/invoke/VarHandle") ∧ Cond.instantiable q.1.cls q.2 ∈ tables_1 ∧ Cond.privateMethod q.1 ∈ tables_1 ∧ Cond.instanceMethod q.1 ∈ tables_1
theorem lw_p0 : lw_okq (⟨"CulpritSearch", "targetAt", "(I)LCulpritSearch$Target;"⟩, 3) := ⟨⟨by decide +kernel, by decide +kernel⟩, List.mem_of_getElem? (i := 8) (by decide +kernel), List.mem_of_getElem? (i := 139) (by decide +kernel), List.mem_of_getElem? (i := 140) (by decide +kernel)⟩
theorem lw_p1 : lw_okq (⟨"CulpritSearch", "searchAt", "(I)LCulpritSearch$Target;"⟩, 3) := ⟨⟨by decide +kernel, by decide +kernel⟩, List.mem_of_getElem? (i := 8) (by decide +kernel), List.mem_of_getElem? (i := 183) (by decide +kernel), List.mem_of_getElem? (i := 184) (by decide +kernel)⟩
theorem lw_p2 : lw_okq (⟨"CulpritSearch$Target", "mostEven", "()I"⟩, 11) := ⟨⟨by decide +kernel, by decide +kernel⟩, List.mem_of_getElem? (i := 92) (by decide +kernel), List.mem_of_getElem? (i := 208) (by decide +kernel), List.mem_of_getElem? (i := 209) (by decide +kernel)⟩
theorem lw_p3 : lw_okq (⟨"CulpritSearch$Target", "likelihood", "(IZ)J"⟩, 11) := ⟨⟨by decide +kernel, by decide +kernel⟩, List.mem_of_getElem? (i := 92) (by decide +kernel), List.mem_of_getElem? (i := 256) (by decide +kernel), List.mem_of_getElem? (i := 257) (by decide +kernel)⟩
theorem lw_p4 : lw_okq (⟨"CulpritSearch$Target", "rankOf", "(I)I"⟩, 11) := ⟨⟨by decide +kernel, by decide +kernel⟩, List.mem_of_getElem? (i := 92) (by decide +kernel), List.mem_of_getElem? (i := 291) (by decide +kernel), List.mem_of_getElem? (i := 292) (by decide +kernel)⟩
theorem lw_p5 : lw_okq (⟨"CulpritSearchModel", "isChange", "(I)Z"⟩, 16) := ⟨⟨by decide +kernel, by decide +kernel⟩, List.mem_of_getElem? (i := 317) (by decide +kernel), List.mem_of_getElem? (i := 378) (by decide +kernel), List.mem_of_getElem? (i := 379) (by decide +kernel)⟩
theorem lw_p6 : lw_okq (⟨"CulpritSearchModel", "comes", "(II)Z"⟩, 16) := ⟨⟨by decide +kernel, by decide +kernel⟩, List.mem_of_getElem? (i := 317) (by decide +kernel), List.mem_of_getElem? (i := 385) (by decide +kernel), List.mem_of_getElem? (i := 386) (by decide +kernel)⟩
theorem lw_p7 : lw_okq (⟨"CulpritSearchModel", "isTarget", "(I)Z"⟩, 16) := ⟨⟨by decide +kernel, by decide +kernel⟩, List.mem_of_getElem? (i := 317) (by decide +kernel), List.mem_of_getElem? (i := 401) (by decide +kernel), List.mem_of_getElem? (i := 402) (by decide +kernel)⟩
theorem lw_p8 : lw_okq (⟨"CulpritSearchModel", "isGood", "(II)Z"⟩, 16) := ⟨⟨by decide +kernel, by decide +kernel⟩, List.mem_of_getElem? (i := 317) (by decide +kernel), List.mem_of_getElem? (i := 409) (by decide +kernel), List.mem_of_getElem? (i := 410) (by decide +kernel)⟩
theorem lw_p9 : lw_okq (⟨"CulpritSearchModel", "isSearch", "(I)Z"⟩, 16) := ⟨⟨by decide +kernel, by decide +kernel⟩, List.mem_of_getElem? (i := 317) (by decide +kernel), List.mem_of_getElem? (i := 418) (by decide +kernel), List.mem_of_getElem? (i := 419) (by decide +kernel)⟩
theorem lw_p10 : lw_okq (⟨"CulpritSearchModel", "heavy", "(I)I"⟩, 16) := ⟨⟨by decide +kernel, by decide +kernel⟩, List.mem_of_getElem? (i := 317) (by decide +kernel), List.mem_of_getElem? (i := 439) (by decide +kernel), List.mem_of_getElem? (i := 440) (by decide +kernel)⟩
theorem lw_p11 : lw_okq (⟨"CulpritSearchModel", "even", "(I)I"⟩, 16) := ⟨⟨by decide +kernel, by decide +kernel⟩, List.mem_of_getElem? (i := 317) (by decide +kernel), List.mem_of_getElem? (i := 445) (by decide +kernel), List.mem_of_getElem? (i := 446) (by decide +kernel)⟩
def lw_privs_1 : List (MethodName × Nat) := [(⟨"CulpritSearch", "targetAt", "(I)LCulpritSearch$Target;"⟩, 3), (⟨"CulpritSearch", "searchAt", "(I)LCulpritSearch$Target;"⟩, 3), (⟨"CulpritSearch$Target", "mostEven", "()I"⟩, 11), (⟨"CulpritSearch$Target", "likelihood", "(IZ)J"⟩, 11), (⟨"CulpritSearch$Target", "rankOf", "(I)I"⟩, 11), (⟨"CulpritSearchModel", "isChange", "(I)Z"⟩, 16), (⟨"CulpritSearchModel", "comes", "(II)Z"⟩, 16), (⟨"CulpritSearchModel", "isTarget", "(I)Z"⟩, 16), (⟨"CulpritSearchModel", "isGood", "(II)Z"⟩, 16), (⟨"CulpritSearchModel", "isSearch", "(I)Z"⟩, 16), (⟨"CulpritSearchModel", "heavy", "(I)I"⟩, 16), (⟨"CulpritSearchModel", "even", "(I)I"⟩, 16)]
theorem lw_r1 : ∀ q ∈ lw_privs_1, lw_okq q := List.forall_mem_cons.mpr ⟨lw_p0, List.forall_mem_cons.mpr ⟨lw_p1, List.forall_mem_cons.mpr ⟨lw_p2, List.forall_mem_cons.mpr ⟨lw_p3, List.forall_mem_cons.mpr ⟨lw_p4, List.forall_mem_cons.mpr ⟨lw_p5, List.forall_mem_cons.mpr ⟨lw_p6, List.forall_mem_cons.mpr ⟨lw_p7, List.forall_mem_cons.mpr ⟨lw_p8, List.forall_mem_cons.mpr ⟨lw_p9, List.forall_mem_cons.mpr ⟨lw_p10, List.forall_mem_cons.mpr ⟨lw_p11, fun _ h => absurd h List.not_mem_nil⟩⟩⟩⟩⟩⟩⟩⟩⟩⟩⟩⟩
def lw_privs : List (MethodName × Nat) := lw_privs_1
def lw_tbl : List Cond := k2_sels lw_privs ++ tables_1
theorem lw_privs_ok : ∀ q ∈ lw_privs, lw_okq q := lw_r1
end
section
-- names: classes, fields in the order of the slots, methods
def R_x : String := "CulpritSearch"
def F_x : u_T := fun k => match k with
  | 0 => ("CulpritSearch", "graph", "LCulpritSearch$Graph;", true)
  | 1 => ("CulpritSearch", "targets", "[LCulpritSearch$Target;", true)
  | _ => ("CulpritSearch", "targetCount", "I", false)
def t_x : Nat → FieldType := fun k => match k with
  | 0 => (.object "CulpritSearch$Graph")
  | 1 => (.array (.object "CulpritSearch$Target"))
  | _ => .int
def R_g : String := "CulpritSearch$Graph"
def F_g : u_T := fun k => match k with
  | 0 => ("CulpritSearch$Graph", "parents", "[J", true)
  | 1 => ("CulpritSearch$Graph", "reaches", "[J", true)
  | 2 => ("CulpritSearch$Graph", "size", "I", false)
  | 3 => ("CulpritSearch$Graph", "built", "J", false)
  | _ => ("CulpritSearch$Graph", "skipped", "J", false)
def t_g : Nat → FieldType := fun k => match k with
  | 0 => (.array .long)
  | 1 => (.array .long)
  | 2 => .int
  | 3 => .long
  | _ => .long
def R_t : String := "CulpritSearch$Target"
def F_t : u_T := fun k => match k with
  | 0 => ("CulpritSearch$Target", "graph", "LCulpritSearch$Graph;", true)
  | 1 => ("CulpritSearch$Target", "weights", "[J", true)
  | 2 => ("CulpritSearch$Target", "goodOnes", "J", false)
  | 3 => ("CulpritSearch$Target", "cleared", "J", false)
  | 4 => ("CulpritSearch$Target", "searched", "Z", false)
  | 5 => ("CulpritSearch$Target", "bad", "I", false)
  | 6 => ("CulpritSearch$Target", "p", "I", false)
  | 7 => ("CulpritSearch$Target", "q", "I", false)
  | 8 => ("CulpritSearch$Target", "sure", "I", false)
  | 9 => ("CulpritSearch$Target", "answers", "I", false)
  | _ => ("CulpritSearch$Target", "skips", "I", false)
def t_t : Nat → FieldType := fun k => match k with
  | 0 => (.object "CulpritSearch$Graph")
  | 1 => (.array .long)
  | 2 => .long
  | 3 => .long
  | 4 => .boolean
  | 5 => .int
  | 6 => .int
  | 7 => .int
  | 8 => .int
  | 9 => .int
  | _ => .int
def R_m : String := "CulpritSearchModel"
def F_m : u_T := fun k => match k with
  | 0 => ("CulpritSearchModel", "changes", "I", false)
  | 1 => ("CulpritSearchModel", "parents", "[I", true)
  | 2 => ("CulpritSearchModel", "hasIt", "[Z", true)
  | 3 => ("CulpritSearchModel", "skipped", "[Z", true)
  | 4 => ("CulpritSearchModel", "built", "[Z", true)
  | 5 => ("CulpritSearchModel", "targets", "I", false)
  | 6 => ("CulpritSearchModel", "goodIn", "[Z", true)
  | 7 => ("CulpritSearchModel", "isOn", "[Z", true)
  | 8 => ("CulpritSearchModel", "badOne", "[I", true)
  | 9 => ("CulpritSearchModel", "up", "[I", true)
  | 10 => ("CulpritSearchModel", "down", "[I", true)
  | 11 => ("CulpritSearchModel", "sureness", "[I", true)
  | 12 => ("CulpritSearchModel", "skips", "[I", true)
  | 13 => ("CulpritSearchModel", "answers", "[I", true)
  | 14 => ("CulpritSearchModel", "askedIn", "[I", true)
  | _ => ("CulpritSearchModel", "failed", "[Z", true)
def t_m : Nat → FieldType := fun k => match k with
  | 0 => .int
  | 1 => (.array .int)
  | 2 => (.array .boolean)
  | 3 => (.array .boolean)
  | 4 => (.array .boolean)
  | 5 => .int
  | 6 => (.array .boolean)
  | 7 => (.array .boolean)
  | 8 => (.array .int)
  | 9 => (.array .int)
  | 10 => (.array .int)
  | 11 => (.array .int)
  | 12 => (.array .int)
  | 13 => (.array .int)
  | 14 => (.array .int)
  | _ => (.array .boolean)
abbrev classes : List vw_C := [(R_x, F_x, 3), (R_g, F_g, 5), (R_t, F_t, 11), (R_m, F_m, 16)]
abbrev tyz (cA : Nat → ClassId) : List (ClassId × FieldType) := [(cA 0, .long), (cA 1, .object "CulpritSearch$Target"), (cA 2, .int), (cA 3, .boolean)]
def overs : List String := ["CulpritSearch$Target"]
abbrev b_g_init : ByteArray := prog_2_method_1_code
def y_g_init : MethodName := ⟨"CulpritSearch$Graph", "<init>", "()V"⟩
abbrev b_t_init : ByteArray := prog_3_method_1_code
def y_t_init : MethodName := ⟨"CulpritSearch$Target", "<init>", "(LCulpritSearch$Graph;)V"⟩
abbrev b_x_init : ByteArray := prog_1_method_1_code
def y_x_init : MethodName := ⟨"CulpritSearch", "<init>", "()V"⟩
abbrev b_lo_bitCount : ByteArray := prog_6_method_50_code
def y_lo_bitCount : MethodName := ⟨"java/lang/Long", "bitCount", "(J)I"⟩
abbrev b_x_isNumber : ByteArray := prog_1_method_22_code
def y_x_isNumber : MethodName := ⟨"CulpritSearch", "isNumber", "(I)Z"⟩
abbrev b_x_only : ByteArray := prog_1_method_23_code
def y_x_only : MethodName := ⟨"CulpritSearch", "only", "(I)J"⟩
abbrev b_x_contains : ByteArray := prog_1_method_24_code
def y_x_contains : MethodName := ⟨"CulpritSearch", "contains", "(JI)Z"⟩
abbrev b_x_isFlake : ByteArray := prog_1_method_20_code
def y_x_isFlake : MethodName := ⟨"CulpritSearch", "isFlake", "(II)Z"⟩
abbrev b_x_isSure : ByteArray := prog_1_method_21_code
def y_x_isSure : MethodName := ⟨"CulpritSearch", "isSure", "(I)Z"⟩
abbrev b_g_holds : ByteArray := prog_2_method_2_code
def y_g_holds : MethodName := ⟨"CulpritSearch$Graph", "holds", "(I)Z"⟩
abbrev b_g_mayBeParent : ByteArray := prog_2_method_3_code
def y_g_mayBeParent : MethodName := ⟨"CulpritSearch$Graph", "mayBeParent", "(I)Z"⟩
abbrev b_g_reach : ByteArray := prog_2_method_5_code
def y_g_reach : MethodName := ⟨"CulpritSearch$Graph", "reach", "(I)J"⟩
abbrev b_g_isBuilt : ByteArray := prog_2_method_9_code
def y_g_isBuilt : MethodName := ⟨"CulpritSearch$Graph", "isBuilt", "(I)Z"⟩
abbrev b_g_isSkipped : ByteArray := prog_2_method_10_code
def y_g_isSkipped : MethodName := ⟨"CulpritSearch$Graph", "isSkipped", "(I)Z"⟩
abbrev b_g_builtCount : ByteArray := prog_2_method_11_code
def y_g_builtCount : MethodName := ⟨"CulpritSearch$Graph", "builtCount", "()I"⟩
abbrev b_g_stepToward : ByteArray := prog_2_method_6_code
def y_g_stepToward : MethodName := ⟨"CulpritSearch$Graph", "stepToward", "(II)I"⟩
abbrev b_g_markBuilt : ByteArray := prog_2_method_7_code
def y_g_markBuilt : MethodName := ⟨"CulpritSearch$Graph", "markBuilt", "(I)V"⟩
abbrev b_g_markSkipped : ByteArray := prog_2_method_8_code
def y_g_markSkipped : MethodName := ⟨"CulpritSearch$Graph", "markSkipped", "(I)V"⟩
abbrev b_g_add : ByteArray := prog_2_method_4_code
def y_g_add : MethodName := ⟨"CulpritSearch$Graph", "add", "(J)I"⟩
abbrev b_t_isSearched : ByteArray := prog_3_method_2_code
def y_t_isSearched : MethodName := ⟨"CulpritSearch$Target", "isSearched", "()Z"⟩
abbrev b_t_isCleared : ByteArray := prog_3_method_3_code
def y_t_isCleared : MethodName := ⟨"CulpritSearch$Target", "isCleared", "(I)Z"⟩
abbrev b_t_weightOf : ByteArray := prog_3_method_7_code
def y_t_weightOf : MethodName := ⟨"CulpritSearch$Target", "weightOf", "(I)J"⟩
abbrev b_t_weightWithin : ByteArray := prog_3_method_8_code
def y_t_weightWithin : MethodName := ⟨"CulpritSearch$Target", "weightWithin", "(J)J"⟩
abbrev b_t_weightOfAll : ByteArray := prog_3_method_9_code
def y_t_weightOfAll : MethodName := ⟨"CulpritSearch$Target", "weightOfAll", "()J"⟩
abbrev b_t_culprit : ByteArray := prog_3_method_10_code
def y_t_culprit : MethodName := ⟨"CulpritSearch$Target", "culprit", "()I"⟩
abbrev b_t_mostEven : ByteArray := prog_3_method_13_code
def y_t_mostEven : MethodName := ⟨"CulpritSearch$Target", "mostEven", "()I"⟩
abbrev b_t_standing : ByteArray := prog_3_method_11_code
def y_t_standing : MethodName := ⟨"CulpritSearch$Target", "standing", "()I"⟩
abbrev b_t_asked : ByteArray := prog_3_method_12_code
def y_t_asked : MethodName := ⟨"CulpritSearch$Target", "asked", "()I"⟩
abbrev b_t_likelihood : ByteArray := prog_3_method_16_code
def y_t_likelihood : MethodName := ⟨"CulpritSearch$Target", "likelihood", "(IZ)J"⟩
abbrev b_t_rankOf : ByteArray := prog_3_method_18_code
def y_t_rankOf : MethodName := ⟨"CulpritSearch$Target", "rankOf", "(I)I"⟩
abbrev b_t_ranked : ByteArray := prog_3_method_17_code
def y_t_ranked : MethodName := ⟨"CulpritSearch$Target", "ranked", "(I)I"⟩
abbrev b_t_onWay : ByteArray := prog_3_method_19_code
def y_t_onWay : MethodName := ⟨"CulpritSearch$Target", "onWay", "(I)I"⟩
abbrev b_t_markGood : ByteArray := prog_3_method_4_code
def y_t_markGood : MethodName := ⟨"CulpritSearch$Target", "markGood", "(I)Z"⟩
abbrev b_t_giveUp : ByteArray := prog_3_method_6_code
def y_t_giveUp : MethodName := ⟨"CulpritSearch$Target", "giveUp", "()V"⟩
abbrev b_t_skip : ByteArray := prog_3_method_14_code
def y_t_skip : MethodName := ⟨"CulpritSearch$Target", "skip", "(I)V"⟩
abbrev b_t_start : ByteArray := prog_3_method_5_code
def y_t_start : MethodName := ⟨"CulpritSearch$Target", "start", "(IIII)I"⟩
abbrev b_t_learn : ByteArray := prog_3_method_15_code
def y_t_learn : MethodName := ⟨"CulpritSearch$Target", "learn", "(II)V"⟩
abbrev b_x_targetAt : ByteArray := prog_1_method_18_code
def y_x_targetAt : MethodName := ⟨"CulpritSearch", "targetAt", "(I)LCulpritSearch$Target;"⟩
abbrev b_x_searchAt : ByteArray := prog_1_method_19_code
def y_x_searchAt : MethodName := ⟨"CulpritSearch", "searchAt", "(I)LCulpritSearch$Target;"⟩
abbrev b_x_has : ByteArray := prog_1_method_3_code
def y_x_has : MethodName := ⟨"CulpritSearch", "has", "(II)Z"⟩
abbrev b_x_state : ByteArray := prog_1_method_8_code
def y_x_state : MethodName := ⟨"CulpritSearch", "state", "(I)I"⟩
abbrev b_x_next : ByteArray := prog_1_method_9_code
def y_x_next : MethodName := ⟨"CulpritSearch", "next", "(I)I"⟩
abbrev b_x_weight : ByteArray := prog_1_method_11_code
def y_x_weight : MethodName := ⟨"CulpritSearch", "weight", "(II)J"⟩
abbrev b_x_part : ByteArray := prog_1_method_12_code
def y_x_part : MethodName := ⟨"CulpritSearch", "part", "(II)J"⟩
abbrev b_x_total : ByteArray := prog_1_method_13_code
def y_x_total : MethodName := ⟨"CulpritSearch", "total", "(I)J"⟩
abbrev b_x_found : ByteArray := prog_1_method_14_code
def y_x_found : MethodName := ⟨"CulpritSearch", "found", "(I)I"⟩
abbrev b_x_told : ByteArray := prog_1_method_15_code
def y_x_told : MethodName := ⟨"CulpritSearch", "told", "(II)I"⟩
abbrev b_x_way : ByteArray := prog_1_method_16_code
def y_x_way : MethodName := ⟨"CulpritSearch", "way", "(II)I"⟩
abbrev b_x_counted : ByteArray := prog_1_method_17_code
def y_x_counted : MethodName := ⟨"CulpritSearch", "counted", "(II)I"⟩
abbrev b_x_change : ByteArray := prog_1_method_2_code
def y_x_change : MethodName := ⟨"CulpritSearch", "change", "(III)I"⟩
abbrev b_x_good : ByteArray := prog_1_method_5_code
def y_x_good : MethodName := ⟨"CulpritSearch", "good", "(II)I"⟩
abbrev b_x_begin : ByteArray := prog_1_method_6_code
def y_x_begin : MethodName := ⟨"CulpritSearch", "begin", "(IIIII)I"⟩
abbrev b_x_stop : ByteArray := prog_1_method_7_code
def y_x_stop : MethodName := ⟨"CulpritSearch", "stop", "(I)Z"⟩
abbrev b_x_answer : ByteArray := prog_1_method_10_code
def y_x_answer : MethodName := ⟨"CulpritSearch", "answer", "(II)I"⟩
abbrev b_x_target : ByteArray := prog_1_method_4_code
def y_x_target : MethodName := ⟨"CulpritSearch", "target", "()I"⟩
end
section
/-! THE LAYER: one list of words for every method (tb), one bundle of what the tables say (KK), contracts of methods that change nothing (Pro, Qro) and of methods that do (Qmu), the rows for their entries, calls and ends. -/
def gB (w : Cond) : Bool := (w.onTables && w.keeps) || (match w with | .arrayClass _ => true | _ => false)
theorem gB_ok {w : Cond} (h : gB w = true) : (w.onTables && w.keeps) = true ∨ ∃ ty, w = .arrayClass ty := by
  unfold gB at h
  rw [Bool.or_eq_true] at h
  rcases h with h | h
  · exact Or.inl h
  · right
    split at h
    · exact ⟨_, rfl⟩
    · cases h
def tb : List Cond := lw_tbl.filter gB
def nB (w : Cond) : Bool := match w with
  | .fieldLinkNest .. => true
  | .methodLinkNest .. => true
  | _ => false
def nests : List Cond := lw_tbl.filter nB
theorem tb_mem {w : Cond} (i : Nat) (h : lw_tbl[i]? = some w) (hg : gB w = true) : w ∈ tb := List.mem_filter.mpr ⟨List.mem_of_getElem? h, hg⟩
theorem ne_mem {w : Cond} (i : Nat) (h : lw_tbl[i]? = some w) (hg : nB w = true) : w ∈ nests := List.mem_filter.mpr ⟨List.mem_of_getElem? h, hg⟩
theorem tb_good {a z : Cond} (hz : z ∈ tb) : GoodIn (a :: tb) (z :: tb) := by
  intro w hw
  have hw' : w ∈ tb := by
    rcases List.mem_cons.mp hw with h | h
    · rw [h]; exact hz
    · exact h
  exact ⟨List.mem_cons_of_mem _ hw', gB_ok (List.mem_filter.mp hw').2⟩
theorem tb_goodT {z : Cond} (hz : z ∈ tb) : GoodIn tb (z :: tb) := by
  intro w hw
  have hw' : w ∈ tb := by
    rcases List.mem_cons.mp hw with h | h
    · rw [h]; exact hz
    · exact h
  exact ⟨hw', gB_ok (List.mem_filter.mp hw').2⟩
theorem nw_warm {w : Cond} (hn : nB w = true) {s U : State} (hW : s.WarmedH U.vm) (h : va_Nw w s) : va_Nw w U := by
  unfold nB at hn
  split at hn
  · exact va_Nw.warmF hW h
  · exact va_Nw.warmM hW h
  · cases hn
theorem nw_same {w : Cond} (hn : nB w = true) {u U : State} (h : u.vm = U.vm) (hZ : va_Nw w u) : va_Nw w U := by
  unfold nB at hn
  split at hn
  · exact va_Nw.same rfl h hZ
  · exact va_Nw.same rfl h hZ
  · cases hn
/-- what the tables say, for good: the classes, the array classes cA (by their place in tyz), the links of nest mates -/
def KK (D : va_G) (cA : Nat → ClassId) (U : State) : Prop := va_K D classes (tyz cA) U ∧ (∀ w ∈ nests, va_Nw w U) ∧ (∀ C ∈ overs, va_AO C U)
theorem KK.warm {D : va_G} {cA : Nat → ClassId} {s U : State} (hW : s.WarmedH U.vm) (h : KK D cA s) : KK D cA U :=
  ⟨va_K.moved hW.alike h.1, fun w hw => nw_warm (List.mem_filter.mp hw).2 hW (h.2.1 w hw), fun C hC => va_AO.moved hW.alike (h.2.2 C hC)⟩
theorem KK.calling {D : va_G} {cA : Nat → ClassId} {U : State} {g : JFrame} {mk : MethodId} {a : Array Value} (h : KK D cA U) : KK D cA (U.calling g mk a) :=
  ⟨va_K.moved (u := U) (U := U.calling g mk a) (Vm.Alike.refl U.vm) h.1, fun w hw => nw_same (List.mem_filter.mp hw).2 (u := U) (U := U.calling g mk a) rfl (h.2.1 w hw), fun C hC => va_AO.moved (u := U) (U := U.calling g mk a) (Vm.Alike.refl U.vm) (h.2.2 C hC)⟩
def nof : Addr → Prop := fun _ => False
def Pro (D : va_G) (cA : Nat → ClassId) (As : List Value) (B : Heap → Prop) : Array Value → State → Prop := va_Pc As (fun U => KK D cA U ∧ B U.heap)
theorem Pro.blind {D : va_G} {cA : Nat → ClassId} {As : List Value} {B : Heap → Prop} : FrameBlind (Pro D cA As B) := fun _ _ _ _ q => ⟨q.1, q.2.1.calling, q.2.2⟩
/-- it answers v, and the heap stays -/
def Qro (v : Value) : Array Value → State → Outcome → State → Prop := fun _ st o t => o = .returned (some v) ∧ t.heap = st.heap
/-- it answers, and 'P answer heap'; nothing but A has changed -/
def Qmu (A : Nat → Prop) (P : Option Value → Heap → Prop) : Array Value → State → Outcome → State → Prop := fun _ st o t => (∃ v, o = .returned v ∧ P v t.heap) ∧ va_F A st t
def rmd (d : Nat) : Room := { frames := d, cells := 0, slots := 0, locals := 40 * d }
def FX (p : Program) (s : State) (m : MethodId) (meth : Method) (c : Code) (args : Array Value) (y : MethodName) (b : ByteArray) (n : Nat) (ret : Option FieldType) : Prop :=
  p.tables.exec = Jvm.exec ∧ c.code = b ∧ c.maxLocals = n ∧ s.vm.findClass y.cls = some m.cls ∧ (∀ w ∈ tb, w.before args s = true) ∧ meth.sig.returnType = ret ∧ meth.locks = false
def bz (b : Bool) : Int32 := if b = true then 1 else 0
theorem bz_t {b : Bool} (h : ¬ bz b = 0) : b = true := by
  cases b
  · exact absurd rfl h
  · rfl
theorem bz_f {b : Bool} (h : bz b = 0) : ¬ b = true := by
  intro q
  rw [q] at h
  exact absurd h (by decide)
theorem bz_1 {b : Bool} (h : b = true) : bz b = 1 := by rw [h]; rfl
theorem bz_0 {b : Bool} (h : ¬ b = true) : bz b = 0 := by
  cases b
  · rfl
  · exact absurd rfl h
theorem bz_n (b : Bool) : narrow .boolean (.int (bz b)) = .int (bz b) := by cases b <;> rfl
theorem bz_ft (b : Bool) : fits .boolean (.int (bz b)) = true := by cases b <;> rfl
theorem bz_inj {a b : Bool} (h : bz a = bz b) : a = b := by
  cases a <;> cases b <;> first | rfl | exact absurd h (by decide)
theorem cp_le {x y : Int64} (h : lg_cmp x y ≤ 0) : ¬ y < x := by
  intro q
  have e : lg_cmp x y = 1 := by simp [lg_cmp, q]
  rw [e] at h
  exact absurd h (by decide)
theorem cp_nle {x y : Int64} (h : ¬ lg_cmp x y ≤ 0) : y < x := by
  apply Classical.byContradiction
  intro q
  apply h
  by_cases h2 : x = y
  · have e : lg_cmp x y = 0 := by simp [lg_cmp, q, h2]
    rw [e]; decide
  · have e : lg_cmp x y = -1 := by simp [lg_cmp, q, h2]
    rw [e]; decide
theorem cp_gt {x y : Int64} (h : 0 < lg_cmp x y) : y < x := by
  apply Classical.byContradiction
  intro q
  by_cases h2 : x = y
  · have e : lg_cmp x y = 0 := by simp [lg_cmp, q, h2]
    rw [e] at h; exact absurd h (by decide)
  · have e : lg_cmp x y = -1 := by simp [lg_cmp, q, h2]
    rw [e] at h; exact absurd h (by decide)
theorem cp_ngt {x y : Int64} (h : ¬ 0 < lg_cmp x y) : ¬ y < x := by
  intro q
  apply h
  have e : lg_cmp x y = 1 := by simp [lg_cmp, q]
  rw [e]; decide
theorem cp_eq {x y : Int64} (h : lg_cmp x y = 0) : x = y := by
  apply Classical.byContradiction
  intro h2
  by_cases q : y < x
  · have e : lg_cmp x y = 1 := by simp [lg_cmp, q]
    rw [e] at h; exact absurd h (by decide)
  · have e : lg_cmp x y = -1 := by simp [lg_cmp, q, h2]
    rw [e] at h; exact absurd h (by decide)
theorem cp_ne {x y : Int64} (h : ¬ lg_cmp x y = 0) : ¬ x = y := by
  intro q
  apply h
  subst q
  simp [lg_cmp]
theorem cp_lt {x y : Int64} (h : lg_cmp x y < 0) : x < y := by
  apply Classical.byContradiction
  intro h2
  by_cases q : y < x
  · have e : lg_cmp x y = 1 := by simp [lg_cmp, q]
    rw [e] at h; exact absurd h (by decide)
  · have e2 : x = y := Int64.le_antisymm (Int64.not_lt.mp q) (Int64.not_lt.mp h2)
    have e : lg_cmp x y = 0 := by simp [lg_cmp, e2]
    rw [e] at h; exact absurd h (by decide)
theorem cp_nlt {x y : Int64} (h : ¬ lg_cmp x y < 0) : ¬ x < y := by
  intro q
  apply h
  have q1 : ¬ y < x := Int64.not_lt.mpr (Int64.le_of_lt q)
  have q2 : ¬ x = y := fun z => by rw [z] at q; exact absurd q Int64.lt_irrefl
  have e : lg_cmp x y = -1 := by simp [lg_cmp, q1, q2]
  rw [e]; decide
theorem cp_ge {x y : Int64} (h : 0 ≤ lg_cmp x y) : ¬ x < y := cp_nlt (Int32.not_lt.mpr h)
theorem cp_nge {x y : Int64} (h : ¬ 0 ≤ lg_cmp x y) : x < y := cp_lt (Int32.not_le.mp h)
section LAY
variable {p : Program} {l : Launch} {e : Env} {R : Room} {s : State} {m : MethodId} {args : Array Value} {below : List Frame} {meth : Method} {c : Code} {H : Heap} {locs : List Loc} {cells slots : Nat} {Q : State → Prop} {D : va_G} {cA : Nat → ClassId}
variable {y : MethodName} {b : ByteArray} {n : Nat} {ret : Option FieldType} {pc : Nat} {ls : Array Slot} {rest st : List Value}
theorem ro_in {rm : Room} {As : List Value} {B : Heap → Prop} {Qc : Array Value → State → Outcome → State → Prop} {mc ms : Nat} {free : Addr → Prop} (hy : plainName y.cls = true) (hn : (lg_sl As).length ≤ n)
    (body : ∀ (p : Program) (e : Env) (s : State) (m : MethodId) (below : List Frame) (meth : Method) (c : Code) (ls : Array Slot), FX p s m meth c As.toArray y b n ret → meth.name = y.name → KK D cA s → B s.heap → lv_has ls n (lv_args 0 As) → W p l e rm s m As.toArray below meth c s.heap [] 0 0 (MQ below Qc As.toArray s mc ms free) (F0 m 0 ls [])) :
    Met l y (.code y b n ret :: tb) rm (Pro D cA As B) Qc mc ms free := by
  refine Met.ofW (cc := b) (maxL := n) (ret := ret) hy rfl ?_
  intro p e s m args below meth c s₁ Bd hml hv
  obtain ⟨rfl, hK, hB⟩ := hv
  have hts := atoms_spec (ws := .code y b n ret :: tb) Bd.pre
  have hl := lv_entry As (n := n) hn
  rw [lg_entry_eq]
  exact body p e s m below meth c _ ⟨Bd.exec, Bd.bytes, hml, findClass_of_methodNamed Bd.named, fun w hw => hts w (List.mem_cons_of_mem _ hw), Bd.returns, Bd.notSynchronized⟩ (name_of_methodNamed Bd.named Bd.method).1 hK hB hl
theorem ro_iret {v v' : Int32} (F : FX p s m meth c args y b n (some .int)) (hv : v = v') (hdg : decode b pc = .ok (.ireturn, 1)) : W p l e R s m args below meth c s.heap [] 0 0 (MQ below (Qro (.int v')) args s 0 0 nof) (F0 m pc ls [.int v]) := by
  subst hv
  exact W.iret F.1 F.2.1 F.2.2.2.2.2.1 (fun t ht _ => ⟨rfl, ht⟩) (fun q h => by cases h) hdg F.2.2.2.2.2.2
theorem ro_zret {v : Int32} {v' : Bool} (F : FX p s m meth c args y b n (some .boolean)) (hv : v = bz v') (hdg : decode b pc = .ok (.ireturn, 1)) : W p l e R s m args below meth c s.heap [] 0 0 (MQ below (Qro (.int (bz v'))) args s 0 0 nof) (F0 m pc ls [.int v]) := by
  subst hv
  exact W.zret F.1 F.2.1 F.2.2.2.2.2.1 (bz_n v') (fun t ht _ => ⟨rfl, ht⟩) (fun q h => by cases h) hdg F.2.2.2.2.2.2
theorem ro_lret {v v' : Int64} (F : FX p s m meth c args y b n (some .long)) (hv : v = v') (hdg : decode b pc = .ok (.lreturn, 1)) : W p l e R s m args below meth c s.heap [] 0 0 (MQ below (Qro (.long v')) args s 0 0 nof) (F0 m pc ls [.long v]) := by
  subst hv
  exact W.lret F.1 F.2.1 F.2.2.2.2.2.1 (fun t ht _ => ⟨rfl, ht⟩) (fun q h => by cases h) hdg F.2.2.2.2.2.2
theorem ro_aret {v : Value} {v' : Option Nat} {C : String} (F : FX p s m meth c args y b n (some (.object C))) (hv : v = va_rf v') (hdg : decode b pc = .ok (.areturn, 1)) : W p l e R s m args below meth c s.heap [] 0 0 (MQ below (Qro (va_rf v')) args s 0 0 nof) (F0 m pc ls [v]) := by
  subst hv
  exact W.aret F.1 F.2.1 F.2.2.2.2.2.1 (Or.inl ⟨_, rfl⟩) (va_rf_or v') (fun t ht _ => ⟨rfl, ht⟩) (fun q h => by cases h) hdg F.2.2.2.2.2.2
/-- the call of a method that changes nothing goes on with its answer -/
theorem ro_call {v : Value} {a : Array Value} {g : JFrame} (hr : CallRun p l e R s m args below meth c H locs cells slots 0 0 g rest (Qro v a) nof) (kk : W p l e R s m args below meth c H locs cells slots Q { g with pc := g.pc + 3, stack := v :: rest }) : W p l e R s m args below meth c H locs cells slots Q g := by
  intro T hT X
  obtain ⟨v', st₀, t, T', L, h0, X', hL, e1, ⟨hv, hh⟩, st⟩ := hr T hT X
  cases hv
  obtain ⟨t2, a1, b1⟩ := kk T' (by rw [e1, hh, h0]) (Stand.forget X' (fun q h => (hL q h).elim))
  exact ⟨t2, st t2 a1, b1⟩
variable {y' : MethodName} {b' : ByteArray} {n' d idx kn : Nat} {ret' : Option FieldType} {As : List Value} {B : Heap → Prop} {v : Value} {host : String}
abbrev okd (y' : MethodName) (k : Nat) : Prop := y'.cls ≠ "java/lang/invoke/MethodHandle" ∧ y'.cls ≠ "java/lang/invoke/VarHandle" ∧ (parseMethodDescriptor y'.desc).map (fun d => d.parameters.length) = some k
theorem ro_cB (F : FX p s m meth c args y b n ret) (hc : Cond.code y' b' n' ret' ∈ tb) (hl : Cond.methodLink y.cls idx y' ∈ tb) (hi : Cond.initialized y'.cls ∈ tb) (hkn : As.length = kn) (hd : okd y' kn) (hR : d + 1 ≤ R.frames ∧ 8 + (n' + 11) + 40 * d ≤ R.locals) : CallB R s args y.cls idx y' b' n' ret' (.code y' b' n' ret' :: tb) (rmd d) 0 0 kn :=
  callB_of kn F.2.2.2.2.1 (tb_goodT hc) rfl rfl rfl (F.2.2.2.2.1 _ hi) (F.2.2.2.2.1 _ hl) hd hR
theorem ro_cN (F : FX p s m meth c args y b n ret) (hK : KK D cA s) (hc : Cond.code y' b' n' ret' ∈ tb) (hl : Cond.methodLinkNest y.cls idx y' host ∈ nests) (hi : Cond.initialized y'.cls ∈ tb) (hkn : As.length = kn) (hd : okd y' kn) (hR : d + 1 ≤ R.frames ∧ 8 + (n' + 11) + 40 * d ≤ R.locals) : va_CN R s args y.cls idx y' host b' n' ret' (.code y' b' n' ret' :: tb) (rmd d) 0 0 kn :=
  va_cnB kn F.2.2.2.2.1 (tb_goodT hc) rfl rfl rfl (hK.2.1 _ hl) (F.2.2.2.2.1 _ hi) hd hR
/-- a static method of the own class -/
theorem ro_S (F : FX p s m meth c args y b n ret) (hK : KK D cA s) (hM : Met l y' (.code y' b' n' ret' :: tb) (rmd d) (Pro D cA As B) (Qro v) 0 0 nof) (hB : B H) (hc : Cond.code y' b' n' ret' ∈ tb) (hl : Cond.methodLink y.cls idx y' ∈ tb) (hi : Cond.initialized y'.cls ∈ tb) (hs : Cond.static y' ∈ tb) (hkn : As.length = kn) (hd : okd y' kn) (hR : d + 1 ≤ R.frames ∧ 8 + (n' + 11) + 40 * d ≤ R.locals) (hf : cells ≤ R.cells ∧ slots ≤ R.slots) (hsz : ls.size = n) (hst : st = As.reverse ++ rest) (hW : (rest.map fun v => v.category).sum ≤ 8) (hdg : decode b pc = .ok (.invokestatic idx, 3))
    (kk : W p l e R s m args below meth c H locs cells slots Q (F0 m (pc + 3) ls (v :: rest))) : W p l e R s m args below meth c H locs cells slots Q (F0 m pc ls st) :=
  ro_call (va_runS (As := As) (rest := rest) ⟨F.1, F.2.1, F.2.2.1, F.2.2.2.1, F.2.2.2.2.1⟩ hM ⟨ro_cB F hc hl hi hkn hd hR, F.2.2.2.2.1 _ hs⟩ ⟨Pro.blind, fun U hU hW => ⟨rfl, hK.warm hW, by rw [hU]; exact hB⟩⟩ rfl hkn hsz hst (lv_room hW) hdg hf).run kk
/-- a private static method of a nest mate -/
theorem ro_SN (F : FX p s m meth c args y b n ret) (hK : KK D cA s) (hM : Met l y' (.code y' b' n' ret' :: tb) (rmd d) (Pro D cA As B) (Qro v) 0 0 nof) (hB : B H) (hc : Cond.code y' b' n' ret' ∈ tb) (hl : Cond.methodLinkNest y.cls idx y' host ∈ nests) (hi : Cond.initialized y'.cls ∈ tb) (hs : Cond.static y' ∈ tb) (hkn : As.length = kn) (hd : okd y' kn) (hR : d + 1 ≤ R.frames ∧ 8 + (n' + 11) + 40 * d ≤ R.locals) (hf : cells ≤ R.cells ∧ slots ≤ R.slots) (hsz : ls.size = n) (hst : st = As.reverse ++ rest) (hW : (rest.map fun v => v.category).sum ≤ 8) (hdg : decode b pc = .ok (.invokestatic idx, 3))
    (kk : W p l e R s m args below meth c H locs cells slots Q (F0 m (pc + 3) ls (v :: rest))) : W p l e R s m args below meth c H locs cells slots Q (F0 m pc ls st) :=
  ro_call (va_runSN (As := As) (rest := rest) ⟨F.1, F.2.1, F.2.2.1, F.2.2.2.1, F.2.2.2.2.1⟩ hM ⟨ro_cN F hK hc hl hi hkn hd hR, F.2.2.2.2.1 _ hs, trivial⟩ ⟨Pro.blind, fun U hU hW => ⟨rfl, hK.warm hW, by rw [hU]; exact hB⟩⟩ rfl hkn hsz hst (lv_room hW) hdg hf).run kk
variable {a : Nat} {ci q0 : Nat} {q : vw_C} {fs : List Value} {ws : va_W}
/-- a method of an object whose class is known -/
theorem ro_V (F : FX p s m meth c args y b n ret) (hK : KK D cA s) (hM : Met l y' (.code y' b' n' ret' :: tb) (rmd d) (Pro D cA (.ref a :: As) B) (Qro v) 0 0 nof) (hB : B H) (hP : va_P D classes ws H) (he : ws[q0]? = some (a, .inr (ci, fs))) (hcl : classes[ci]? = some q) (hcq : q.1 = y'.cls) (hc : Cond.code y' b' n' ret' ∈ tb) (hl : Cond.methodLink y.cls idx y' ∈ tb) (hi : Cond.initialized y'.cls ∈ tb) (hs : Cond.instanceMethod y' ∈ tb) (hse : Cond.selects y'.cls y' y' ∈ tb) (hkn : As.length = kn) (hd : okd y' kn) (hR : d + 1 ≤ R.frames ∧ 8 + (n' + 11) + 40 * d ≤ R.locals) (hf : cells ≤ R.cells ∧ slots ≤ R.slots) (hsz : ls.size = n) (hst : st = As.reverse ++ .ref a :: rest) (hW : (rest.map fun v => v.category).sum ≤ 8) (hdg : decode b pc = .ok (.invokevirtual idx, 3))
    (kk : W p l e R s m args below meth c H locs cells slots Q (F0 m (pc + 3) ls (v :: rest))) : W p l e R s m args below meth c H locs cells slots Q (F0 m pc ls st) :=
  ro_call (va_runV (As := As) (rest := rest) (C := y'.cls) ⟨F.1, F.2.1, F.2.2.1, F.2.2.2.1, F.2.2.2.2.1⟩ hM ⟨ro_cB F hc hl hi hkn hd hR, F.2.2.2.2.1 _ hs, F.2.2.2.2.1 _ hse⟩ ⟨Pro.blind, by rw [← hcq]; exact va_recv hK.1 hP hcl he, fun U hU hW => ⟨rfl, hK.warm hW, by rw [hU]; exact hB⟩⟩ rfl hkn hsz hst (lv_room hW) hdg hf).run kk
/-- a private method of an object, or one of a nest mate's -/
theorem ro_VN (F : FX p s m meth c args y b n ret) (hK : KK D cA s) (hM : Met l y' (.code y' b' n' ret' :: tb) (rmd d) (Pro D cA (.ref a :: As) B) (Qro v) 0 0 nof) (hB : B H) (hP : va_P D classes ws H) (he : ws[q0]? = some (a, .inr (ci, fs))) (hcl : classes[ci]? = some q) (hcq : q.1 = y'.cls) (hc : Cond.code y' b' n' ret' ∈ tb) (hl : Cond.methodLinkNest y.cls idx y' host ∈ nests) (hi : Cond.initialized y'.cls ∈ tb) (hs : Cond.instanceMethod y' ∈ tb) (hse : Cond.selects y'.cls y' y' ∈ tb) (hkn : As.length = kn) (hd : okd y' kn) (hR : d + 1 ≤ R.frames ∧ 8 + (n' + 11) + 40 * d ≤ R.locals) (hf : cells ≤ R.cells ∧ slots ≤ R.slots) (hsz : ls.size = n) (hst : st = As.reverse ++ .ref a :: rest) (hW : (rest.map fun v => v.category).sum ≤ 8) (hdg : decode b pc = .ok (.invokevirtual idx, 3))
    (kk : W p l e R s m args below meth c H locs cells slots Q (F0 m (pc + 3) ls (v :: rest))) : W p l e R s m args below meth c H locs cells slots Q (F0 m pc ls st) :=
  ro_call (va_runVN (As := As) (rest := rest) (C := y'.cls) ⟨F.1, F.2.1, F.2.2.1, F.2.2.2.1, F.2.2.2.2.1⟩ hM ⟨ro_cN F hK hc hl hi hkn hd hR, F.2.2.2.2.1 _ hs, F.2.2.2.2.1 _ hse⟩ ⟨Pro.blind, by rw [← hcq]; exact va_recv hK.1 hP hcl he, fun U hU hW => ⟨rfl, hK.warm hW, by rw [hU]; exact hB⟩⟩ rfl hkn hsz hst (lv_room hW) hdg hf).run kk
variable {C : String} {T : u_T} {N : Nat}
theorem ro_get (F : FX p s m meth c args y b n ret) (hK : KK D cA s) (hP : va_P D classes ws H) (q0 k : Nat) (he : ws[q0]? = some (a, .inr (ci, fs))) (hcl : classes[ci]? = some (C, T, N)) (hv : fs[k]? = some v) (hin : ∀ w ∈ u_ws C T N, w ∈ tb) (hk : k < N) (hl : Cond.fieldLink y.cls idx (T k).1 (T k).2.1 (T k).2.2.1 ∈ tb) (hdg : decode b pc = .ok (.getfield idx, 3))
    (kk : W p l e R s m args below meth c H locs cells slots Q (F0 m (pc + 3) ls (v :: rest))) : W p l e R s m args below meth c H locs cells slots Q (F0 m pc ls (.ref a :: rest)) :=
  va_get F.1 F.2.1 F.2.2.2.2.1 hin F.2.2.2.1 hK.1 hP q0 he hcl k hk (F.2.2.2.2.1 _ hl) (fun _ h => h) hv hdg kk
theorem ro_getN (F : FX p s m meth c args y b n ret) (hK : KK D cA s) (hP : va_P D classes ws H) (q0 k : Nat) (he : ws[q0]? = some (a, .inr (ci, fs))) (hcl : classes[ci]? = some (C, T, N)) (hv : fs[k]? = some v) (hin : ∀ w ∈ u_ws C T N, w ∈ tb) (hk : k < N) (hl : Cond.fieldLinkNest y.cls idx (T k).1 (T k).2.1 (T k).2.2.1 host ∈ nests) (hdg : decode b pc = .ok (.getfield idx, 3))
    (kk : W p l e R s m args below meth c H locs cells slots Q (F0 m (pc + 3) ls (v :: rest))) : W p l e R s m args below meth c H locs cells slots Q (F0 m pc ls (.ref a :: rest)) :=
  va_getN F.1 F.2.1 F.2.2.2.2.1 hin F.2.2.2.1 hK.1 hP q0 he hcl k hk (va_Nw.use rfl (hK.2.1 _ hl)) (fun _ h => h) hv hdg kk
end LAY
/-- the cells of a world -/
def aw (ws : va_W) : Nat → Prop := fun q => ∃ (k : Nat) (e : va_E), ws[k]? = some (q, e)
theorem aw_self {ws : va_W} {A : Nat → Prop} (h : va_D A ws) : va_D (aw ws) ws := ⟨h.1, fun k q hk => ⟨k, q.2, hk⟩⟩
theorem aw_in {A : Nat → Prop} {ws wc : va_W} (hD : va_D A ws) (is : List Nat) (hC : is.map (fun i => ws[i]?) = wc.map some) : ∀ q, aw wc q → A q := by
  intro q h
  obtain ⟨k, e, h⟩ := h
  have h1 : (is.map (fun i => ws[i]?))[k]? = some (some (q, e)) := by rw [hC, List.getElem?_map, h]; rfl
  rw [List.getElem?_map] at h1
  cases hi : is[k]? with
  | none => rw [hi] at h1; cases h1
  | some i => rw [hi] at h1; exact hD.2 i (q, e) (Option.some.inj h1)
/-- behind a call that changed the cells wc to w1: they beside the rest, which is as it was -/
theorem mu_join {A0 : Nat → Prop} {D : va_G} {cl : List vw_C} {ws wc wr w1 : va_W} {H H1 : Heap} (hP : va_P D cl ws H) (hD : va_D A0 ws) (isC isR : List Nat) (hC : isC.map (fun i => ws[i]?) = wc.map some) (hR : isR.map (fun i => ws[i]?) = wr.map some) (hn : va_nd isR = true) (hdis : ∀ i ∈ isR, i ∉ isC)
    (hk : ∀ q : Nat, q < H.size → ¬ aw wc q → H1[q]? = H[q]?) (hP1 : va_P D cl w1 H1) (hD1 : va_D (aw wc) w1) : va_P D cl (wr ++ w1) H1 ∧ va_D A0 (wr ++ w1) := by
  have at' : ∀ {is : List Nat} {w : va_W}, is.map (fun i => ws[i]?) = w.map some → ∀ (k : Nat) (q : Nat × va_E), w[k]? = some q → ∃ i, is[k]? = some i ∧ ws[i]? = some q := by
    intro is w hs k q hq
    have h1 : (is.map (fun i => ws[i]?))[k]? = some (some q) := by rw [hs, List.getElem?_map, hq]; rfl
    rw [List.getElem?_map] at h1
    cases hi : is[k]? with
    | none => rw [hi] at h1; cases h1
    | some i => rw [hi] at h1; exact ⟨i, rfl, Option.some.inj h1⟩
  have apart : ∀ (k : Nat) (q : Nat × va_E), wr[k]? = some q → q.1 < H.size ∧ ¬ aw wc q.1 := by
    intro k q hq
    obtain ⟨i, h1, h2⟩ := at' hR k q hq
    refine ⟨(hP i q h2).lt, fun h => ?_⟩
    obtain ⟨k2, e, h⟩ := h
    obtain ⟨j, h3, h4⟩ := at' hC k2 (q.1, e) h
    have hij := hD.1 i j q (q.1, e) h2 h4 rfl
    subst hij
    exact hdis i (List.mem_of_getElem? h1) (List.mem_of_getElem? h3)
  refine ⟨va_P.app (fun k q hq => ?_) hP1, va_D.app (hD.sub isR hn hR) (hD1.weaken (fun k q _ h => aw_in hD isC hC q.1 h)) (fun i j x y hx hy hxy => ?_)⟩
  · obtain ⟨i, h1, h2⟩ := at' hR k q hq
    obtain ⟨g1, g2⟩ := apart k q hq
    exact (hP i q h2).kept (hk q.1 g1 g2)
  · exact (apart i x hx).2 (by rw [hxy]; exact hD1.2 j y hy)
section LAY2
variable {p : Program} {l : Launch} {e : Env} {R : Room} {s : State} {m : MethodId} {args : Array Value} {below : List Frame} {meth : Method} {c : Code} {H : Heap} {locs : List Loc} {cells slots : Nat} {Q : State → Prop} {D : va_G} {cA : Nat → ClassId}
variable {y : MethodName} {b : ByteArray} {n : Nat} {ret : Option FieldType} {pc : Nat} {ls : Array Slot} {rest st : List Value}
theorem ro_to {v v' : Value} {g : JFrame} {H0 : Heap} (h : v' = v) (k : W p l e R s m args below meth c H0 [] 0 0 (MQ below (Qro v) args s 0 0 nof) g) : W p l e R s m args below meth c H0 [] 0 0 (MQ below (Qro v') args s 0 0 nof) g := by
  rw [h]; exact k
variable {A : Nat → Prop} {P : Option Value → Heap → Prop}
theorem mu_iret {v : Int32} (F : FX p s m meth c args y b n (some .int)) (hS : va_S A s.heap H locs) (hP : P (some (.int v)) H) (hdg : decode b pc = .ok (.ireturn, 1)) : W p l e R s m args below meth c H locs cells slots (MQ below (Qmu A P) args s cells slots A) (F0 m pc ls [.int v]) :=
  W.iret F.1 F.2.1 F.2.2.2.2.2.1 (fun t ht _ => ⟨⟨_, rfl, by rw [ht]; exact hP⟩, hS.F ht⟩) hS.2.2 hdg F.2.2.2.2.2.2
theorem mu_lret {v : Int64} (F : FX p s m meth c args y b n (some .long)) (hS : va_S A s.heap H locs) (hP : P (some (.long v)) H) (hdg : decode b pc = .ok (.lreturn, 1)) : W p l e R s m args below meth c H locs cells slots (MQ below (Qmu A P) args s cells slots A) (F0 m pc ls [.long v]) :=
  W.lret F.1 F.2.1 F.2.2.2.2.2.1 (fun t ht _ => ⟨⟨_, rfl, by rw [ht]; exact hP⟩, hS.F ht⟩) hS.2.2 hdg F.2.2.2.2.2.2
theorem mu_zret {v : Int32} (v' : Bool) (hv : v = bz v') (F : FX p s m meth c args y b n (some .boolean)) (hS : va_S A s.heap H locs) (hP : P (some (.int (bz v'))) H) (hdg : decode b pc = .ok (.ireturn, 1)) : W p l e R s m args below meth c H locs cells slots (MQ below (Qmu A P) args s cells slots A) (F0 m pc ls [.int v]) := by
  subst hv
  exact W.zret F.1 F.2.1 F.2.2.2.2.2.1 (bz_n v') (fun t ht _ => ⟨⟨_, rfl, by rw [ht]; exact hP⟩, hS.F ht⟩) hS.2.2 hdg F.2.2.2.2.2.2
theorem mu_vret (F : FX p s m meth c args y b n none) (hS : va_S A s.heap H locs) (hP : P none H) (hdg : decode b pc = .ok (.return_, 1)) : W p l e R s m args below meth c H locs cells slots (MQ below (Qmu A P) args s cells slots A) (F0 m pc ls []) :=
  W.vret F.1 F.2.1 F.2.2.2.2.2.1 (fun t ht _ => ⟨⟨_, rfl, by rw [ht]; exact hP⟩, hS.F ht⟩) hS.2.2 hdg F.2.2.2.2.2.2
theorem mu_call {A0 : Nat → Prop} {a : Array Value} {g : JFrame} {H0 : Heap} {mc ms : Nat} {free : Addr → Prop} (hr : CallRun p l e R s m args below meth c H locs cells slots mc ms g rest (Qmu A P a) free) (hS : va_S A0 H0 H locs) (hA : ∀ q, q < H.size → A q → A0 q) (hfr : ∀ q, free q → A0 q)
    (kk : ∀ (v : Option Value) (H1 : Heap) (locs1 : List Loc), P v H1 → H.size ≤ H1.size → (∀ q : Nat, q < H.size → ¬ A q → H1[q]? = H[q]?) → va_S A0 H0 H1 locs1 → W p l e R s m args below meth c H1 locs1 (cells + mc) (slots + ms) Q { g with pc := g.pc + 3, stack := v.toList ++ rest }) : W p l e R s m args below meth c H locs cells slots Q g := by
  intro T hT X
  obtain ⟨v, st₀, t, T', L, h0, X', hL, e1, ⟨⟨v', hv, hp⟩, hz, hk⟩, st⟩ := hr T hT X
  cases hv
  rw [h0] at hz hk
  obtain ⟨t2, a1, b1⟩ := kk v T'.heap (locs ++ L) (by rw [e1]; exact hp) (by rw [e1]; exact hz) (fun q h1 h2 => by rw [e1]; exact hk q h1 h2)
    ⟨Nat.le_trans hS.1 (by rw [e1]; exact hz), fun q h1 h2 => by rw [e1, hk q (Nat.lt_of_lt_of_le h1 hS.1) (fun z => h2 (hA q (Nat.lt_of_lt_of_le h1 hS.1) z))]; exact hS.2.1 q h1 h2, fun q hq => by
      rcases List.mem_append.mp hq with h | h
      · exact hS.2.2 q h
      · exact hfr _ (hL q h)⟩ T' rfl X'
  exact ⟨t2, st t2 a1, b1⟩
variable {y' : MethodName} {b' : ByteArray} {n' d idx kn : Nat} {ret' : Option FieldType} {As : List Value} {host : String} {a : Nat} {ci q0 : Nat} {q : vw_C} {fs : List Value} {ws wc : va_W} {A0 : Nat → Prop} {H0 : Heap}
/-- a method that changes the cells wc of the object's world -/
theorem mu_V (F : FX p s m meth c args y b n ret) (hK : KK D cA s) (hM : Met l y' (.code y' b' n' ret' :: tb) (rmd d) (Pro D cA (.ref a :: As) (fun H0 => va_P D classes wc H0 ∧ va_D (fun _ => True) wc)) (Qmu (aw wc) P) 0 0 (aw wc)) (hPc : va_P D classes wc H) (hDc : va_D A0 wc) (hP : va_P D classes ws H) (he : ws[q0]? = some (a, .inr (ci, fs))) (hcl : classes[ci]? = some q) (hcq : q.1 = y'.cls) (hc : Cond.code y' b' n' ret' ∈ tb) (hl : Cond.methodLink y.cls idx y' ∈ tb) (hi : Cond.initialized y'.cls ∈ tb) (hs : Cond.instanceMethod y' ∈ tb) (hse : Cond.selects y'.cls y' y' ∈ tb) (hkn : As.length = kn) (hd : okd y' kn) (hR : d + 1 ≤ R.frames ∧ 8 + (n' + 11) + 40 * d ≤ R.locals) (hf : cells ≤ R.cells ∧ slots ≤ R.slots) (hsz : ls.size = n) (hst : st = As.reverse ++ .ref a :: rest) (hW : (rest.map fun v => v.category).sum ≤ 8) (hdg : decode b pc = .ok (.invokevirtual idx, 3)) (hS : va_S A0 H0 H locs) (hA : ∀ q, aw wc q → A0 q)
    (kk : ∀ (v : Option Value) (H1 : Heap) (locs1 : List Loc), P v H1 → H.size ≤ H1.size → (∀ q : Nat, q < H.size → ¬ aw wc q → H1[q]? = H[q]?) → va_S A0 H0 H1 locs1 → W p l e R s m args below meth c H1 locs1 cells slots Q (F0 m (pc + 3) ls (v.toList ++ rest))) : W p l e R s m args below meth c H locs cells slots Q (F0 m pc ls st) :=
  mu_call (va_runV (As := As) (rest := rest) (C := y'.cls) ⟨F.1, F.2.1, F.2.2.1, F.2.2.2.1, F.2.2.2.2.1⟩ hM ⟨ro_cB F hc hl hi hkn hd hR, F.2.2.2.2.1 _ hs, F.2.2.2.2.1 _ hse⟩ ⟨Pro.blind, by rw [← hcq]; exact va_recv hK.1 hP hcl he, fun U hU hW => ⟨rfl, hK.warm hW, by rw [hU]; exact ⟨hPc, hDc.weaken (fun _ _ _ _ => trivial)⟩⟩⟩ rfl hkn hsz hst (lv_room hW) hdg hf).run hS (fun q _ h => hA q h) hA kk
theorem mu_VN (F : FX p s m meth c args y b n ret) (hK : KK D cA s) (hM : Met l y' (.code y' b' n' ret' :: tb) (rmd d) (Pro D cA (.ref a :: As) (fun H0 => va_P D classes wc H0 ∧ va_D (fun _ => True) wc)) (Qmu (aw wc) P) 0 0 (aw wc)) (hPc : va_P D classes wc H) (hDc : va_D A0 wc) (hP : va_P D classes ws H) (he : ws[q0]? = some (a, .inr (ci, fs))) (hcl : classes[ci]? = some q) (hcq : q.1 = y'.cls) (hc : Cond.code y' b' n' ret' ∈ tb) (hl : Cond.methodLinkNest y.cls idx y' host ∈ nests) (hi : Cond.initialized y'.cls ∈ tb) (hs : Cond.instanceMethod y' ∈ tb) (hse : Cond.selects y'.cls y' y' ∈ tb) (hkn : As.length = kn) (hd : okd y' kn) (hR : d + 1 ≤ R.frames ∧ 8 + (n' + 11) + 40 * d ≤ R.locals) (hf : cells ≤ R.cells ∧ slots ≤ R.slots) (hsz : ls.size = n) (hst : st = As.reverse ++ .ref a :: rest) (hW : (rest.map fun v => v.category).sum ≤ 8) (hdg : decode b pc = .ok (.invokevirtual idx, 3)) (hS : va_S A0 H0 H locs) (hA : ∀ q, aw wc q → A0 q)
    (kk : ∀ (v : Option Value) (H1 : Heap) (locs1 : List Loc), P v H1 → H.size ≤ H1.size → (∀ q : Nat, q < H.size → ¬ aw wc q → H1[q]? = H[q]?) → va_S A0 H0 H1 locs1 → W p l e R s m args below meth c H1 locs1 cells slots Q (F0 m (pc + 3) ls (v.toList ++ rest))) : W p l e R s m args below meth c H locs cells slots Q (F0 m pc ls st) :=
  mu_call (va_runVN (As := As) (rest := rest) (C := y'.cls) ⟨F.1, F.2.1, F.2.2.1, F.2.2.2.1, F.2.2.2.2.1⟩ hM ⟨ro_cN F hK hc hl hi hkn hd hR, F.2.2.2.2.1 _ hs, F.2.2.2.2.1 _ hse⟩ ⟨Pro.blind, by rw [← hcq]; exact va_recv hK.1 hP hcl he, fun U hU hW => ⟨rfl, hK.warm hW, by rw [hU]; exact ⟨hPc, hDc.weaken (fun _ _ _ _ => trivial)⟩⟩⟩ rfl hkn hsz hst (lv_room hW) hdg hf).run hS (fun q _ h => hA q h) hA kk
end LAY2
theorem k_lt {k B : Nat} {xi b : Int32} (hx : xi = nI k) (hb : b = nI B) (h : ¬ b ≤ xi) (hk : k < 2 ^ 31) : k < B := by
  subst hx; subst hb
  exact Nat.lt_of_not_le (fun q => h (nI_le q hk))
theorem vin {k N : Nat} {xi : Int32} (hx : xi = nI k) (h : k < N) (hN : N < 2 ^ 31) : vp_in xi N := by
  rw [hx]; exact vp_in_nI h hN
theorem in_nI {x : Int32} (h0 : ¬ x < 0) (h : ¬ (40 : Int32) ≤ x) : ∃ j : Nat, j < 40 ∧ x = nI j := by
  obtain ⟨j, hj, e⟩ := nI_of h0
  refine ⟨j, ?_, e⟩
  exact k_lt e (rfl : (40 : Int32) = nI 40) h hj
theorem upd_bz {bh : Nat → Bool} {k : Nat} {b : Bool} : upd (fun i => bz (bh i)) k (vp_nar .boolean (bz b)) = (fun i => bz (va_up bh k b i)) := by
  funext i
  unfold upd va_up
  by_cases h : i = k
  · rw [if_pos h, if_pos h]
    cases b <;> rfl
  · rw [if_neg h, if_neg h]
theorem vlin {a b : Nat} {x y : Int32} (c N : Nat) (hx : x = nI a) (hy : y = nI b) (h : c * a + b < N) (hN : N < 2 ^ 31) : vp_in (nI c * x + y) N := by
  rw [hx, hy, pk_mul, nI_add]
  exact vp_in_nI h hN
theorem vlin0 {a : Nat} {x : Int32} (c N : Nat) (hx : x = nI a) (h : c * a < N) (hN : N < 2 ^ 31) : vp_in (nI c * x) N := by
  rw [hx, pk_mul]
  exact vp_in_nI h hN
def rma (d mc ms : Nat) : Room := { frames := d, cells := mc, slots := ms, locals := 40 * d }
section LAY4
variable {p : Program} {l : Launch} {e : Env} {R : Room} {s : State} {m : MethodId} {args : Array Value} {below : List Frame} {meth : Method} {c : Code} {H : Heap} {locs : List Loc} {cells slots : Nat} {Q : State → Prop} {D : va_G} {cA : Nat → ClassId}
variable {y : MethodName} {b : ByteArray} {n : Nat} {ret : Option FieldType} {pc : Nat} {ls : Array Slot} {rest st : List Value} {P : Option Value → Heap → Prop}
variable {y' : MethodName} {b' : ByteArray} {n' d idx kn mc ms : Nat} {As : List Value} {a : Nat} {wc : va_W} {A0 : Nat → Prop} {H0 : Heap}
/-- a constructor that makes cells: mc of them, with ms slots -/
theorem al_I (F : FX p s m meth c args y b n ret) (hK : KK D cA s) (hM : Met l y' (.code y' b' n' none :: tb) (rma d mc ms) (Pro D cA (.ref a :: As) (fun H0 => H0.size = H.size ∧ va_P D classes wc H0 ∧ va_D (fun _ => True) wc)) (Qmu (va_A wc H.size) P) mc ms (va_A wc H.size)) (hPc : va_P D classes wc H) (hDc : va_D A0 wc) (hc : Cond.code y' b' n' none ∈ tb) (hl : Cond.methodLink y.cls idx y' ∈ tb) (hi : Cond.initialized y'.cls ∈ tb) (hs : Cond.instanceMethod y' ∈ tb) (hy1 : y'.name = "<init>") (hkn : As.length = kn) (hd : okd y' kn) (hR : d + 1 ≤ R.frames ∧ 8 + (n' + 11) + 40 * d ≤ R.locals) (hf : cells + mc ≤ R.cells ∧ slots + ms ≤ R.slots) (hsz : ls.size = n) (hst : st = As.reverse ++ .ref a :: rest) (hW : (rest.map fun v => v.category).sum ≤ 8) (hdg : decode b pc = .ok (.invokespecial idx, 3)) (hS : va_S A0 H0 H locs) (hA : ∀ q, va_A wc H.size q → A0 q)
    (kk : ∀ (v : Option Value) (H1 : Heap) (locs1 : List Loc), P v H1 → H.size ≤ H1.size → (∀ q : Nat, q < H.size → ¬ va_A wc H.size q → H1[q]? = H[q]?) → va_S A0 H0 H1 locs1 → W p l e R s m args below meth c H1 locs1 (cells + mc) (slots + ms) Q (F0 m (pc + 3) ls (v.toList ++ rest))) : W p l e R s m args below meth c H locs cells slots Q (F0 m pc ls st) :=
  mu_call (va_runI (As := As) (rest := rest) ⟨F.1, F.2.1, F.2.2.1, F.2.2.2.1, F.2.2.2.2.1⟩ hM ⟨callB_of kn F.2.2.2.2.1 (tb_goodT hc) rfl rfl rfl (F.2.2.2.2.1 _ hi) (F.2.2.2.2.1 _ hl) hd hR, hy1, F.2.2.2.2.1 _ hs⟩ ⟨Pro.blind, fun U hU hW => ⟨rfl, hK.warm hW, by rw [hU]; exact ⟨rfl, hPc, hDc.weaken (fun _ _ _ _ => trivial)⟩⟩⟩ rfl hkn hsz hst (lv_room hW) hdg hf).run hS (fun q _ h => hA q h) hA kk
theorem arr_same {cL : ClassId} {ty : FieldType} (k : Nat) (hk : (tyz cA)[k]? = some (cA k, ty)) (hK : KK D cA s) (h : va_K D classes (tyz cA ++ [(cL, ty)]) s) (hr : ∀ c c', va_RA s c ty → va_RA s c' ty → c = c') : cL = cA k := by
  have h1 := (hK.1.2 k _ hk).2
  have h2 := (h.2 (tyz cA).length (cL, ty) (by rw [List.getElem?_append_right (Nat.le_refl _), Nat.sub_self]; rfl)).2
  exact hr _ _ h2 h1
theorem ra_prim {ty : FieldType} (hty : ∀ C, ty ≠ .object C) {c c' : ClassId} (h : va_RA s c ty) (h' : va_RA s c' ty) : c = c' := by
  cases ty with
  | object C => exact absurd rfl (hty C)
  | _ => exact Option.some.inj (Eq.trans (Eq.symm h) h')
theorem ra_obj {C : String} {c c' : ClassId} (h : va_RA s c (.object C)) (h' : va_RA s c' (.object C)) : c = c' := by
  obtain ⟨_, _, _, _, _, h1⟩ := h
  obtain ⟨_, _, _, _, _, h2⟩ := h'
  exact Option.some.inj (h1.symm.trans h2)
end LAY4
end
section
theorem n_x : ∀ a, a < 3 → ∀ b, b < 3 → a ≠ b → (F_x a).2.1 ≠ (F_x b).2.1 := by decide +kernel
theorem t_x_ok : ∀ k, k < 3 → parseFieldDescriptor (F_x k).2.2.1 = some (t_x k) := by decide +kernel
set_option maxRecDepth 100000 in
theorem i_x : ∀ w ∈ u_ws R_x F_x 3, w ∈ tb := by decide +kernel
theorem n_g : ∀ a, a < 5 → ∀ b, b < 5 → a ≠ b → (F_g a).2.1 ≠ (F_g b).2.1 := by decide +kernel
theorem t_g_ok : ∀ k, k < 5 → parseFieldDescriptor (F_g k).2.2.1 = some (t_g k) := by decide +kernel
set_option maxRecDepth 100000 in
theorem i_g : ∀ w ∈ u_ws R_g F_g 5, w ∈ tb := by decide +kernel
theorem n_t : ∀ a, a < 11 → ∀ b, b < 11 → a ≠ b → (F_t a).2.1 ≠ (F_t b).2.1 := by decide +kernel
theorem t_t_ok : ∀ k, k < 11 → parseFieldDescriptor (F_t k).2.2.1 = some (t_t k) := by decide +kernel
set_option maxRecDepth 100000 in
theorem i_t : ∀ w ∈ u_ws R_t F_t 11, w ∈ tb := by decide +kernel
theorem n_m : ∀ a, a < 16 → ∀ b, b < 16 → a ≠ b → (F_m a).2.1 ≠ (F_m b).2.1 := by decide +kernel
theorem t_m_ok : ∀ k, k < 16 → parseFieldDescriptor (F_m k).2.2.1 = some (t_m k) := by decide +kernel
set_option maxRecDepth 100000 in
theorem i_m : ∀ w ∈ u_ws R_m F_m 16, w ∈ tb := by decide +kernel
theorem ok_g_init : okd y_g_init 0 := by decide +kernel
theorem ok_t_init : okd y_t_init 1 := by decide +kernel
theorem ok_x_init : okd y_x_init 0 := by decide +kernel
theorem ok_lo_bitCount : okd y_lo_bitCount 1 := by decide +kernel
theorem ok_x_isNumber : okd y_x_isNumber 1 := by decide +kernel
theorem ok_x_only : okd y_x_only 1 := by decide +kernel
theorem ok_x_contains : okd y_x_contains 2 := by decide +kernel
theorem ok_x_isFlake : okd y_x_isFlake 2 := by decide +kernel
theorem ok_x_isSure : okd y_x_isSure 1 := by decide +kernel
theorem ok_g_holds : okd y_g_holds 1 := by decide +kernel
theorem ok_g_mayBeParent : okd y_g_mayBeParent 1 := by decide +kernel
theorem ok_g_reach : okd y_g_reach 1 := by decide +kernel
theorem ok_g_isBuilt : okd y_g_isBuilt 1 := by decide +kernel
theorem ok_g_isSkipped : okd y_g_isSkipped 1 := by decide +kernel
theorem ok_g_builtCount : okd y_g_builtCount 0 := by decide +kernel
theorem ok_g_stepToward : okd y_g_stepToward 2 := by decide +kernel
theorem ok_g_markBuilt : okd y_g_markBuilt 1 := by decide +kernel
theorem ok_g_markSkipped : okd y_g_markSkipped 1 := by decide +kernel
theorem ok_g_add : okd y_g_add 1 := by decide +kernel
theorem ok_t_isSearched : okd y_t_isSearched 0 := by decide +kernel
theorem ok_t_isCleared : okd y_t_isCleared 1 := by decide +kernel
theorem ok_t_weightOf : okd y_t_weightOf 1 := by decide +kernel
theorem ok_t_weightWithin : okd y_t_weightWithin 1 := by decide +kernel
theorem ok_t_weightOfAll : okd y_t_weightOfAll 0 := by decide +kernel
theorem ok_t_culprit : okd y_t_culprit 0 := by decide +kernel
theorem ok_t_mostEven : okd y_t_mostEven 0 := by decide +kernel
theorem ok_t_standing : okd y_t_standing 0 := by decide +kernel
theorem ok_t_asked : okd y_t_asked 0 := by decide +kernel
theorem ok_t_likelihood : okd y_t_likelihood 2 := by decide +kernel
theorem ok_t_rankOf : okd y_t_rankOf 1 := by decide +kernel
theorem ok_t_ranked : okd y_t_ranked 1 := by decide +kernel
theorem ok_t_onWay : okd y_t_onWay 1 := by decide +kernel
theorem ok_t_markGood : okd y_t_markGood 1 := by decide +kernel
theorem ok_t_giveUp : okd y_t_giveUp 0 := by decide +kernel
theorem ok_t_skip : okd y_t_skip 1 := by decide +kernel
theorem ok_t_start : okd y_t_start 4 := by decide +kernel
theorem ok_t_learn : okd y_t_learn 2 := by decide +kernel
theorem ok_x_targetAt : okd y_x_targetAt 1 := by decide +kernel
theorem ok_x_searchAt : okd y_x_searchAt 1 := by decide +kernel
theorem ok_x_has : okd y_x_has 2 := by decide +kernel
theorem ok_x_state : okd y_x_state 1 := by decide +kernel
theorem ok_x_next : okd y_x_next 1 := by decide +kernel
theorem ok_x_weight : okd y_x_weight 2 := by decide +kernel
theorem ok_x_part : okd y_x_part 2 := by decide +kernel
theorem ok_x_total : okd y_x_total 1 := by decide +kernel
theorem ok_x_found : okd y_x_found 1 := by decide +kernel
theorem ok_x_told : okd y_x_told 2 := by decide +kernel
theorem ok_x_way : okd y_x_way 2 := by decide +kernel
theorem ok_x_counted : okd y_x_counted 2 := by decide +kernel
theorem ok_x_change : okd y_x_change 3 := by decide +kernel
theorem ok_x_good : okd y_x_good 2 := by decide +kernel
theorem ok_x_begin : okd y_x_begin 5 := by decide +kernel
theorem ok_x_stop : okd y_x_stop 1 := by decide +kernel
theorem ok_x_answer : okd y_x_answer 2 := by decide +kernel
theorem ok_x_target : okd y_x_target 0 := by decide +kernel
theorem km_g_3 : Cond.methodLink "CulpritSearch$Graph" 3 objectInit ∈ tb := tb_mem 32 (by decide +kernel) (by decide +kernel)
theorem ks_objInit : Cond.instanceMethod objectInit ∈ tb := tb_mem 25 (by decide +kernel) (by decide +kernel)
theorem kc_objInit : Cond.code objectInit ⟨#[0xb1]⟩ 1 none ∈ tb := tb_mem 26 (by decide +kernel) (by decide +kernel)
theorem ka_long : Cond.arrayClass .long ∈ tb := tb_mem 50 (by decide +kernel) (by decide +kernel)
theorem kf_g_9 : Cond.fieldLink "CulpritSearch$Graph" 9 "CulpritSearch$Graph" "parents" "[J" ∈ tb := tb_mem 33 (by decide +kernel) (by decide +kernel)
theorem kf_g_15 : Cond.fieldLink "CulpritSearch$Graph" 15 "CulpritSearch$Graph" "reaches" "[J" ∈ tb := tb_mem 34 (by decide +kernel) (by decide +kernel)
theorem kf_g_18 : Cond.fieldLink "CulpritSearch$Graph" 18 "CulpritSearch$Graph" "size" "I" ∈ tb := tb_mem 35 (by decide +kernel) (by decide +kernel)
theorem kf_g_22 : Cond.fieldLink "CulpritSearch$Graph" 22 "CulpritSearch$Graph" "built" "J" ∈ tb := tb_mem 37 (by decide +kernel) (by decide +kernel)
theorem kf_g_26 : Cond.fieldLink "CulpritSearch$Graph" 26 "CulpritSearch$Graph" "skipped" "J" ∈ tb := tb_mem 38 (by decide +kernel) (by decide +kernel)
theorem km_t_3 : Cond.methodLink "CulpritSearch$Target" 3 objectInit ∈ tb := tb_mem 108 (by decide +kernel) (by decide +kernel)
theorem kf_t_9 : Cond.fieldLink "CulpritSearch$Target" 9 "CulpritSearch$Target" "graph" "LCulpritSearch$Graph;" ∈ tb := tb_mem 109 (by decide +kernel) (by decide +kernel)
theorem kf_t_15 : Cond.fieldLink "CulpritSearch$Target" 15 "CulpritSearch$Target" "weights" "[J" ∈ tb := tb_mem 110 (by decide +kernel) (by decide +kernel)
theorem kf_t_19 : Cond.fieldLink "CulpritSearch$Target" 19 "CulpritSearch$Target" "goodOnes" "J" ∈ tb := tb_mem 111 (by decide +kernel) (by decide +kernel)
theorem kf_t_23 : Cond.fieldLink "CulpritSearch$Target" 23 "CulpritSearch$Target" "cleared" "J" ∈ tb := tb_mem 112 (by decide +kernel) (by decide +kernel)
theorem kf_t_26 : Cond.fieldLink "CulpritSearch$Target" 26 "CulpritSearch$Target" "searched" "Z" ∈ tb := tb_mem 113 (by decide +kernel) (by decide +kernel)
theorem kf_t_30 : Cond.fieldLink "CulpritSearch$Target" 30 "CulpritSearch$Target" "bad" "I" ∈ tb := tb_mem 114 (by decide +kernel) (by decide +kernel)
theorem kf_t_34 : Cond.fieldLink "CulpritSearch$Target" 34 "CulpritSearch$Target" "p" "I" ∈ tb := tb_mem 116 (by decide +kernel) (by decide +kernel)
theorem kf_t_37 : Cond.fieldLink "CulpritSearch$Target" 37 "CulpritSearch$Target" "q" "I" ∈ tb := tb_mem 117 (by decide +kernel) (by decide +kernel)
theorem kf_t_40 : Cond.fieldLink "CulpritSearch$Target" 40 "CulpritSearch$Target" "sure" "I" ∈ tb := tb_mem 118 (by decide +kernel) (by decide +kernel)
theorem kf_t_43 : Cond.fieldLink "CulpritSearch$Target" 43 "CulpritSearch$Target" "answers" "I" ∈ tb := tb_mem 119 (by decide +kernel) (by decide +kernel)
theorem kf_t_46 : Cond.fieldLink "CulpritSearch$Target" 46 "CulpritSearch$Target" "skips" "I" ∈ tb := tb_mem 121 (by decide +kernel) (by decide +kernel)
theorem km_x_1 : Cond.methodLink "CulpritSearch" 1 objectInit ∈ tb := tb_mem 24 (by decide +kernel) (by decide +kernel)
theorem kk_x_7 : Cond.classLink "CulpritSearch" 7 "CulpritSearch$Graph" ∈ tb := tb_mem 27 (by decide +kernel) (by decide +kernel)
theorem kz_g : Cond.instantiable "CulpritSearch$Graph" 5 ∈ tb := tb_mem 28 (by decide +kernel) (by decide +kernel)
theorem ki_g : Cond.initialized "CulpritSearch$Graph" ∈ tb := tb_mem 14 (by decide +kernel) (by decide +kernel)
theorem kc_g_init : Cond.code y_g_init b_g_init 1 none ∈ tb := tb_mem 31 (by decide +kernel) (by decide +kernel)
theorem km_x_9 : Cond.methodLink "CulpritSearch" 9 y_g_init ∈ tb := tb_mem 29 (by decide +kernel) (by decide +kernel)
theorem ks_g_init : Cond.instanceMethod y_g_init ∈ tb := tb_mem 30 (by decide +kernel) (by decide +kernel)
theorem kf_x_10 : Cond.fieldLink "CulpritSearch" 10 "CulpritSearch" "graph" "LCulpritSearch$Graph;" ∈ tb := tb_mem 53 (by decide +kernel) (by decide +kernel)
theorem kk_x_16 : Cond.classLink "CulpritSearch" 16 "CulpritSearch$Target" ∈ tb := tb_mem 51 (by decide +kernel) (by decide +kernel)
theorem kf_x_18 : Cond.fieldLink "CulpritSearch" 18 "CulpritSearch" "targets" "[LCulpritSearch$Target;" ∈ tb := tb_mem 54 (by decide +kernel) (by decide +kernel)
theorem kf_x_22 : Cond.fieldLink "CulpritSearch" 22 "CulpritSearch" "targetCount" "I" ∈ tb := tb_mem 55 (by decide +kernel) (by decide +kernel)
theorem kl_lo_314 : Cond.constantLong "java/lang/Long" 314 (6148914691236517205) ∈ tb := tb_mem 187 (by decide +kernel) (by decide +kernel)
theorem kl_lo_316 : Cond.constantLong "java/lang/Long" 316 (3689348814741910323) ∈ tb := tb_mem 188 (by decide +kernel) (by decide +kernel)
theorem kl_lo_318 : Cond.constantLong "java/lang/Long" 318 (1085102592571150095) ∈ tb := tb_mem 189 (by decide +kernel) (by decide +kernel)
theorem kc_x_isNumber : Cond.code y_x_isNumber b_x_isNumber 1 (some .boolean) ∈ tb := tb_mem 77 (by decide +kernel) (by decide +kernel)
theorem km_x_130 : Cond.methodLink "CulpritSearch" 130 y_x_isNumber ∈ tb := tb_mem 81 (by decide +kernel) (by decide +kernel)
theorem ki_x : Cond.initialized "CulpritSearch" ∈ tb := tb_mem 13 (by decide +kernel) (by decide +kernel)
theorem ks_x_isNumber : Cond.static y_x_isNumber ∈ tb := tb_mem 76 (by decide +kernel) (by decide +kernel)
theorem km_g_29 : Cond.methodLinkNest "CulpritSearch$Graph" 29 y_x_isNumber "CulpritSearch" ∈ nests := ne_mem 75 (by decide +kernel) (by decide +kernel)
theorem kc_g_holds : Cond.code y_g_holds b_g_holds 2 (some .boolean) ∈ tb := tb_mem 74 (by decide +kernel) (by decide +kernel)
theorem km_g_33 : Cond.methodLink "CulpritSearch$Graph" 33 y_g_holds ∈ tb := tb_mem 71 (by decide +kernel) (by decide +kernel)
theorem ks_g_holds : Cond.instanceMethod y_g_holds ∈ tb := tb_mem 72 (by decide +kernel) (by decide +kernel)
theorem ke_g_holds : Cond.selects "CulpritSearch$Graph" y_g_holds y_g_holds ∈ tb := tb_mem 73 (by decide +kernel) (by decide +kernel)
theorem kc_x_contains : Cond.code y_x_contains b_x_contains 3 (some .boolean) ∈ tb := tb_mem 89 (by decide +kernel) (by decide +kernel)
theorem km_g_40 : Cond.methodLinkNest "CulpritSearch$Graph" 40 y_x_contains "CulpritSearch" ∈ nests := ne_mem 87 (by decide +kernel) (by decide +kernel)
theorem ks_x_contains : Cond.static y_x_contains ∈ tb := tb_mem 88 (by decide +kernel) (by decide +kernel)
theorem kc_lo_bitCount : Cond.code y_lo_bitCount b_lo_bitCount 2 (some .int) ∈ tb := tb_mem 186 (by decide +kernel) (by decide +kernel)
theorem km_g_44 : Cond.methodLink "CulpritSearch$Graph" 44 y_lo_bitCount ∈ tb := tb_mem 327 (by decide +kernel) (by decide +kernel)
theorem ki_lo : Cond.initialized "java/lang/Long" ∈ tb := tb_mem 17 (by decide +kernel) (by decide +kernel)
theorem ks_lo_bitCount : Cond.static y_lo_bitCount ∈ tb := tb_mem 185 (by decide +kernel) (by decide +kernel)
theorem kc_x_only : Cond.code y_x_only b_x_only 1 (some .long) ∈ tb := tb_mem 80 (by decide +kernel) (by decide +kernel)
theorem km_g_36 : Cond.methodLinkNest "CulpritSearch$Graph" 36 y_x_only "CulpritSearch" ∈ nests := ne_mem 86 (by decide +kernel) (by decide +kernel)
theorem ks_x_only : Cond.static y_x_only ∈ tb := tb_mem 79 (by decide +kernel) (by decide +kernel)
theorem km_t_49 : Cond.methodLinkNest "CulpritSearch$Target" 49 y_x_contains "CulpritSearch" ∈ nests := ne_mem 162 (by decide +kernel) (by decide +kernel)
theorem kc_t_weightOfAll : Cond.code y_t_weightOfAll b_t_weightOfAll 4 (some .long) ∈ tb := tb_mem 217 (by decide +kernel) (by decide +kernel)
theorem km_t_70 : Cond.methodLink "CulpritSearch$Target" 70 y_t_weightOfAll ∈ tb := tb_mem 214 (by decide +kernel) (by decide +kernel)
theorem ki_t : Cond.initialized "CulpritSearch$Target" ∈ tb := tb_mem 16 (by decide +kernel) (by decide +kernel)
theorem ks_t_weightOfAll : Cond.instanceMethod y_t_weightOfAll ∈ tb := tb_mem 215 (by decide +kernel) (by decide +kernel)
theorem ke_t_weightOfAll : Cond.selects "CulpritSearch$Target" y_t_weightOfAll y_t_weightOfAll ∈ tb := tb_mem 216 (by decide +kernel) (by decide +kernel)
theorem kl_t_74 : Cond.constantLong "CulpritSearch$Target" 74 (100) ∈ tb := tb_mem 218 (by decide +kernel) (by decide +kernel)
theorem kf_t_86 : Cond.fieldLinkNest "CulpritSearch$Target" 86 "CulpritSearch$Graph" "size" "I" "CulpritSearch" ∈ nests := ne_mem 36 (by decide +kernel) (by decide +kernel)
theorem kc_g_isSkipped : Cond.code y_g_isSkipped b_g_isSkipped 2 (some .boolean) ∈ tb := tb_mem 226 (by decide +kernel) (by decide +kernel)
theorem km_t_89 : Cond.methodLink "CulpritSearch$Target" 89 y_g_isSkipped ∈ tb := tb_mem 223 (by decide +kernel) (by decide +kernel)
theorem ks_g_isSkipped : Cond.instanceMethod y_g_isSkipped ∈ tb := tb_mem 224 (by decide +kernel) (by decide +kernel)
theorem ke_g_isSkipped : Cond.selects "CulpritSearch$Graph" y_g_isSkipped y_g_isSkipped ∈ tb := tb_mem 225 (by decide +kernel) (by decide +kernel)
theorem kc_g_reach : Cond.code y_g_reach b_g_reach 2 (some .long) ∈ tb := tb_mem 98 (by decide +kernel) (by decide +kernel)
theorem km_t_57 : Cond.methodLink "CulpritSearch$Target" 57 y_g_reach ∈ tb := tb_mem 164 (by decide +kernel) (by decide +kernel)
theorem ks_g_reach : Cond.instanceMethod y_g_reach ∈ tb := tb_mem 96 (by decide +kernel) (by decide +kernel)
theorem ke_g_reach : Cond.selects "CulpritSearch$Graph" y_g_reach y_g_reach ∈ tb := tb_mem 97 (by decide +kernel) (by decide +kernel)
theorem kc_t_weightWithin : Cond.code y_t_weightWithin b_t_weightWithin 6 (some .long) ∈ tb := tb_mem 230 (by decide +kernel) (by decide +kernel)
theorem km_t_93 : Cond.methodLink "CulpritSearch$Target" 93 y_t_weightWithin ∈ tb := tb_mem 227 (by decide +kernel) (by decide +kernel)
theorem ks_t_weightWithin : Cond.instanceMethod y_t_weightWithin ∈ tb := tb_mem 228 (by decide +kernel) (by decide +kernel)
theorem ke_t_weightWithin : Cond.selects "CulpritSearch$Target" y_t_weightWithin y_t_weightWithin ∈ tb := tb_mem 229 (by decide +kernel) (by decide +kernel)
theorem km_t_97 : Cond.methodLink "CulpritSearch$Target" 97 Lib.MathLoose.abs_long.x ∈ tb := tb_mem 231 (by decide +kernel) (by decide +kernel)
theorem ks_abs_long : Cond.static Lib.MathLoose.abs_long.x ∈ tb := tb_mem 232 (by decide +kernel) (by decide +kernel)
theorem ki_ma : Cond.initialized "java/lang/Math" ∈ tb := tb_mem 18 (by decide +kernel) (by decide +kernel)
theorem kc_abs_long : Cond.code Lib.MathLoose.abs_long.x Lib.MathLoose.abs_long.code 2 (some .long) ∈ tb := tb_mem 233 (by decide +kernel) (by decide +kernel)
theorem kc_g_isBuilt : Cond.code y_g_isBuilt b_g_isBuilt 2 (some .boolean) ∈ tb := tb_mem 237 (by decide +kernel) (by decide +kernel)
theorem km_t_102 : Cond.methodLink "CulpritSearch$Target" 102 y_g_isBuilt ∈ tb := tb_mem 234 (by decide +kernel) (by decide +kernel)
theorem ks_g_isBuilt : Cond.instanceMethod y_g_isBuilt ∈ tb := tb_mem 235 (by decide +kernel) (by decide +kernel)
theorem ke_g_isBuilt : Cond.selects "CulpritSearch$Graph" y_g_isBuilt y_g_isBuilt ∈ tb := tb_mem 236 (by decide +kernel) (by decide +kernel)
theorem kc_t_culprit : Cond.code y_t_culprit b_t_culprit 4 (some .int) ∈ tb := tb_mem 213 (by decide +kernel) (by decide +kernel)
theorem km_t_76 : Cond.methodLink "CulpritSearch$Target" 76 y_t_culprit ∈ tb := tb_mem 210 (by decide +kernel) (by decide +kernel)
theorem ks_t_culprit : Cond.instanceMethod y_t_culprit ∈ tb := tb_mem 211 (by decide +kernel) (by decide +kernel)
theorem ke_t_culprit : Cond.selects "CulpritSearch$Target" y_t_culprit y_t_culprit ∈ tb := tb_mem 212 (by decide +kernel) (by decide +kernel)
theorem kc_t_mostEven : Cond.code y_t_mostEven b_t_mostEven 12 (some .int) ∈ tb := tb_mem 222 (by decide +kernel) (by decide +kernel)
theorem km_t_80 : Cond.methodLink "CulpritSearch$Target" 80 y_t_mostEven ∈ tb := tb_mem 219 (by decide +kernel) (by decide +kernel)
theorem ks_t_mostEven : Cond.instanceMethod y_t_mostEven ∈ tb := tb_mem 221 (by decide +kernel) (by decide +kernel)
theorem ke_t_mostEven : Cond.selects "CulpritSearch$Target" y_t_mostEven y_t_mostEven ∈ tb := tb_mem 2 (by decide +kernel) (by decide +kernel)
theorem kc_t_standing : Cond.code y_t_standing b_t_standing 1 (some .int) ∈ tb := tb_mem 209 (by decide +kernel) (by decide +kernel)
theorem km_t_83 : Cond.methodLink "CulpritSearch$Target" 83 y_t_standing ∈ tb := tb_mem 246 (by decide +kernel) (by decide +kernel)
theorem ks_t_standing : Cond.instanceMethod y_t_standing ∈ tb := tb_mem 207 (by decide +kernel) (by decide +kernel)
theorem ke_t_standing : Cond.selects "CulpritSearch$Target" y_t_standing y_t_standing ∈ tb := tb_mem 208 (by decide +kernel) (by decide +kernel)
theorem kc_t_weightOf : Cond.code y_t_weightOf b_t_weightOf 2 (some .long) ∈ tb := tb_mem 278 (by decide +kernel) (by decide +kernel)
theorem km_t_120 : Cond.methodLink "CulpritSearch$Target" 120 y_t_weightOf ∈ tb := tb_mem 306 (by decide +kernel) (by decide +kernel)
theorem ks_t_weightOf : Cond.instanceMethod y_t_weightOf ∈ tb := tb_mem 276 (by decide +kernel) (by decide +kernel)
theorem ke_t_weightOf : Cond.selects "CulpritSearch$Target" y_t_weightOf y_t_weightOf ∈ tb := tb_mem 277 (by decide +kernel) (by decide +kernel)
theorem kc_t_rankOf : Cond.code y_t_rankOf b_t_rankOf 6 (some .int) ∈ tb := tb_mem 305 (by decide +kernel) (by decide +kernel)
theorem km_t_116 : Cond.methodLink "CulpritSearch$Target" 116 y_t_rankOf ∈ tb := tb_mem 302 (by decide +kernel) (by decide +kernel)
theorem ks_t_rankOf : Cond.instanceMethod y_t_rankOf ∈ tb := tb_mem 304 (by decide +kernel) (by decide +kernel)
theorem ke_t_rankOf : Cond.selects "CulpritSearch$Target" y_t_rankOf y_t_rankOf ∈ tb := tb_mem 4 (by decide +kernel) (by decide +kernel)
theorem kc_g_stepToward : Cond.code y_g_stepToward b_g_stepToward 4 (some .int) ∈ tb := tb_mem 318 (by decide +kernel) (by decide +kernel)
theorem km_t_123 : Cond.methodLink "CulpritSearch$Target" 123 y_g_stepToward ∈ tb := tb_mem 315 (by decide +kernel) (by decide +kernel)
theorem ks_g_stepToward : Cond.instanceMethod y_g_stepToward ∈ tb := tb_mem 316 (by decide +kernel) (by decide +kernel)
theorem ke_g_stepToward : Cond.selects "CulpritSearch$Graph" y_g_stepToward y_g_stepToward ∈ tb := tb_mem 317 (by decide +kernel) (by decide +kernel)
theorem km_t_53 : Cond.methodLinkNest "CulpritSearch$Target" 53 y_x_only "CulpritSearch" ∈ nests := ne_mem 163 (by decide +kernel) (by decide +kernel)
theorem kc_g_markSkipped : Cond.code y_g_markSkipped b_g_markSkipped 2 none ∈ tb := tb_mem 258 (by decide +kernel) (by decide +kernel)
theorem km_t_105 : Cond.methodLink "CulpritSearch$Target" 105 y_g_markSkipped ∈ tb := tb_mem 255 (by decide +kernel) (by decide +kernel)
theorem ks_g_markSkipped : Cond.instanceMethod y_g_markSkipped ∈ tb := tb_mem 256 (by decide +kernel) (by decide +kernel)
theorem ke_g_markSkipped : Cond.selects "CulpritSearch$Graph" y_g_markSkipped y_g_markSkipped ∈ tb := tb_mem 257 (by decide +kernel) (by decide +kernel)
theorem kl_t_62 : Cond.constantLong "CulpritSearch$Target" 62 (-1) ∈ tb := tb_mem 183 (by decide +kernel) (by decide +kernel)
theorem km_t_64 : Cond.methodLink "CulpritSearch$Target" 64 y_lo_bitCount ∈ tb := tb_mem 184 (by decide +kernel) (by decide +kernel)
theorem kc_g_markBuilt : Cond.code y_g_markBuilt b_g_markBuilt 2 none ∈ tb := tb_mem 266 (by decide +kernel) (by decide +kernel)
theorem km_t_109 : Cond.methodLink "CulpritSearch$Target" 109 y_g_markBuilt ∈ tb := tb_mem 263 (by decide +kernel) (by decide +kernel)
theorem ks_g_markBuilt : Cond.instanceMethod y_g_markBuilt ∈ tb := tb_mem 264 (by decide +kernel) (by decide +kernel)
theorem ke_g_markBuilt : Cond.selects "CulpritSearch$Graph" y_g_markBuilt y_g_markBuilt ∈ tb := tb_mem 265 (by decide +kernel) (by decide +kernel)
theorem kc_t_likelihood : Cond.code y_t_likelihood b_t_likelihood 3 (some .long) ∈ tb := tb_mem 270 (by decide +kernel) (by decide +kernel)
theorem km_t_112 : Cond.methodLink "CulpritSearch$Target" 112 y_t_likelihood ∈ tb := tb_mem 267 (by decide +kernel) (by decide +kernel)
theorem ks_t_likelihood : Cond.instanceMethod y_t_likelihood ∈ tb := tb_mem 269 (by decide +kernel) (by decide +kernel)
theorem ke_t_likelihood : Cond.selects "CulpritSearch$Target" y_t_likelihood y_t_likelihood ∈ tb := tb_mem 3 (by decide +kernel) (by decide +kernel)
theorem kc_x_targetAt : Cond.code y_x_targetAt b_x_targetAt 2 (some (.object "CulpritSearch$Target")) ∈ tb := tb_mem 153 (by decide +kernel) (by decide +kernel)
theorem km_x_51 : Cond.methodLink "CulpritSearch" 51 y_x_targetAt ∈ tb := tb_mem 150 (by decide +kernel) (by decide +kernel)
theorem ks_x_targetAt : Cond.instanceMethod y_x_targetAt ∈ tb := tb_mem 152 (by decide +kernel) (by decide +kernel)
theorem ke_x_targetAt : Cond.selects "CulpritSearch" y_x_targetAt y_x_targetAt ∈ tb := tb_mem 0 (by decide +kernel) (by decide +kernel)
theorem kc_t_isSearched : Cond.code y_t_isSearched b_t_isSearched 1 (some .boolean) ∈ tb := tb_mem 157 (by decide +kernel) (by decide +kernel)
theorem km_x_55 : Cond.methodLink "CulpritSearch" 55 y_t_isSearched ∈ tb := tb_mem 154 (by decide +kernel) (by decide +kernel)
theorem ks_t_isSearched : Cond.instanceMethod y_t_isSearched ∈ tb := tb_mem 155 (by decide +kernel) (by decide +kernel)
theorem ke_t_isSearched : Cond.selects "CulpritSearch$Target" y_t_isSearched y_t_isSearched ∈ tb := tb_mem 156 (by decide +kernel) (by decide +kernel)
theorem km_x_38 : Cond.methodLink "CulpritSearch" 38 y_g_holds ∈ tb := tb_mem 94 (by decide +kernel) (by decide +kernel)
theorem km_x_41 : Cond.methodLink "CulpritSearch" 41 y_g_reach ∈ tb := tb_mem 95 (by decide +kernel) (by decide +kernel)
theorem km_x_44 : Cond.methodLink "CulpritSearch" 44 y_x_contains ∈ tb := tb_mem 99 (by decide +kernel) (by decide +kernel)
theorem kc_x_searchAt : Cond.code y_x_searchAt b_x_searchAt 3 (some (.object "CulpritSearch$Target")) ∈ tb := tb_mem 197 (by decide +kernel) (by decide +kernel)
theorem km_x_76 : Cond.methodLink "CulpritSearch" 76 y_x_searchAt ∈ tb := tb_mem 194 (by decide +kernel) (by decide +kernel)
theorem ks_x_searchAt : Cond.instanceMethod y_x_searchAt ∈ tb := tb_mem 196 (by decide +kernel) (by decide +kernel)
theorem ke_x_searchAt : Cond.selects "CulpritSearch" y_x_searchAt y_x_searchAt ∈ tb := tb_mem 1 (by decide +kernel) (by decide +kernel)
theorem km_x_82 : Cond.methodLink "CulpritSearch" 82 y_t_standing ∈ tb := tb_mem 206 (by decide +kernel) (by decide +kernel)
theorem kc_t_asked : Cond.code y_t_asked b_t_asked 1 (some .int) ∈ tb := tb_mem 245 (by decide +kernel) (by decide +kernel)
theorem km_x_86 : Cond.methodLink "CulpritSearch" 86 y_t_asked ∈ tb := tb_mem 242 (by decide +kernel) (by decide +kernel)
theorem ks_t_asked : Cond.instanceMethod y_t_asked ∈ tb := tb_mem 243 (by decide +kernel) (by decide +kernel)
theorem ke_t_asked : Cond.selects "CulpritSearch$Target" y_t_asked y_t_asked ∈ tb := tb_mem 244 (by decide +kernel) (by decide +kernel)
theorem km_x_97 : Cond.methodLink "CulpritSearch" 97 y_t_weightOf ∈ tb := tb_mem 275 (by decide +kernel) (by decide +kernel)
theorem km_x_100 : Cond.methodLink "CulpritSearch" 100 y_t_weightWithin ∈ tb := tb_mem 283 (by decide +kernel) (by decide +kernel)
theorem km_x_104 : Cond.methodLink "CulpritSearch" 104 y_t_weightOfAll ∈ tb := tb_mem 288 (by decide +kernel) (by decide +kernel)
theorem km_x_108 : Cond.methodLink "CulpritSearch" 108 y_t_culprit ∈ tb := tb_mem 293 (by decide +kernel) (by decide +kernel)
theorem kc_t_ranked : Cond.code y_t_ranked b_t_ranked 3 (some .int) ∈ tb := tb_mem 301 (by decide +kernel) (by decide +kernel)
theorem km_x_111 : Cond.methodLink "CulpritSearch" 111 y_t_ranked ∈ tb := tb_mem 298 (by decide +kernel) (by decide +kernel)
theorem ks_t_ranked : Cond.instanceMethod y_t_ranked ∈ tb := tb_mem 299 (by decide +kernel) (by decide +kernel)
theorem ke_t_ranked : Cond.selects "CulpritSearch$Target" y_t_ranked y_t_ranked ∈ tb := tb_mem 300 (by decide +kernel) (by decide +kernel)
theorem kc_t_onWay : Cond.code y_t_onWay b_t_onWay 5 (some .int) ∈ tb := tb_mem 314 (by decide +kernel) (by decide +kernel)
theorem km_x_115 : Cond.methodLink "CulpritSearch" 115 y_t_onWay ∈ tb := tb_mem 311 (by decide +kernel) (by decide +kernel)
theorem ks_t_onWay : Cond.instanceMethod y_t_onWay ∈ tb := tb_mem 312 (by decide +kernel) (by decide +kernel)
theorem ke_t_onWay : Cond.selects "CulpritSearch$Target" y_t_onWay y_t_onWay ∈ tb := tb_mem 313 (by decide +kernel) (by decide +kernel)
theorem kf_x_127 : Cond.fieldLinkNest "CulpritSearch" 127 "CulpritSearch$Target" "bad" "I" "CulpritSearch" ∈ nests := ne_mem 115 (by decide +kernel) (by decide +kernel)
theorem kf_x_124 : Cond.fieldLinkNest "CulpritSearch" 124 "CulpritSearch$Target" "answers" "I" "CulpritSearch" ∈ nests := ne_mem 120 (by decide +kernel) (by decide +kernel)
theorem kf_x_121 : Cond.fieldLinkNest "CulpritSearch" 121 "CulpritSearch$Target" "skips" "I" "CulpritSearch" ∈ nests := ne_mem 122 (by decide +kernel) (by decide +kernel)
theorem kc_g_builtCount : Cond.code y_g_builtCount b_g_builtCount 1 (some .int) ∈ tb := tb_mem 326 (by decide +kernel) (by decide +kernel)
theorem km_x_118 : Cond.methodLink "CulpritSearch" 118 y_g_builtCount ∈ tb := tb_mem 323 (by decide +kernel) (by decide +kernel)
theorem ks_g_builtCount : Cond.instanceMethod y_g_builtCount ∈ tb := tb_mem 324 (by decide +kernel) (by decide +kernel)
theorem ke_g_builtCount : Cond.selects "CulpritSearch$Graph" y_g_builtCount y_g_builtCount ∈ tb := tb_mem 325 (by decide +kernel) (by decide +kernel)
theorem kc_g_mayBeParent : Cond.code y_g_mayBeParent b_g_mayBeParent 2 (some .boolean) ∈ tb := tb_mem 70 (by decide +kernel) (by decide +kernel)
theorem km_x_26 : Cond.methodLink "CulpritSearch" 26 y_g_mayBeParent ∈ tb := tb_mem 67 (by decide +kernel) (by decide +kernel)
theorem ks_g_mayBeParent : Cond.instanceMethod y_g_mayBeParent ∈ tb := tb_mem 68 (by decide +kernel) (by decide +kernel)
theorem ke_g_mayBeParent : Cond.selects "CulpritSearch$Graph" y_g_mayBeParent y_g_mayBeParent ∈ tb := tb_mem 69 (by decide +kernel) (by decide +kernel)
theorem km_x_30 : Cond.methodLink "CulpritSearch" 30 y_x_only ∈ tb := tb_mem 78 (by decide +kernel) (by decide +kernel)
theorem kc_g_add : Cond.code y_g_add b_g_add 7 (some .int) ∈ tb := tb_mem 85 (by decide +kernel) (by decide +kernel)
theorem km_x_34 : Cond.methodLink "CulpritSearch" 34 y_g_add ∈ tb := tb_mem 82 (by decide +kernel) (by decide +kernel)
theorem ks_g_add : Cond.instanceMethod y_g_add ∈ tb := tb_mem 83 (by decide +kernel) (by decide +kernel)
theorem ke_g_add : Cond.selects "CulpritSearch$Graph" y_g_add y_g_add ∈ tb := tb_mem 84 (by decide +kernel) (by decide +kernel)
theorem kc_t_markGood : Cond.code y_t_markGood b_t_markGood 2 (some .boolean) ∈ tb := tb_mem 161 (by decide +kernel) (by decide +kernel)
theorem km_x_59 : Cond.methodLink "CulpritSearch" 59 y_t_markGood ∈ tb := tb_mem 158 (by decide +kernel) (by decide +kernel)
theorem ks_t_markGood : Cond.instanceMethod y_t_markGood ∈ tb := tb_mem 159 (by decide +kernel) (by decide +kernel)
theorem ke_t_markGood : Cond.selects "CulpritSearch$Target" y_t_markGood y_t_markGood ∈ tb := tb_mem 160 (by decide +kernel) (by decide +kernel)
theorem kc_x_isFlake : Cond.code y_x_isFlake b_x_isFlake 2 (some .boolean) ∈ tb := tb_mem 171 (by decide +kernel) (by decide +kernel)
theorem km_x_62 : Cond.methodLink "CulpritSearch" 62 y_x_isFlake ∈ tb := tb_mem 169 (by decide +kernel) (by decide +kernel)
theorem ks_x_isFlake : Cond.static y_x_isFlake ∈ tb := tb_mem 170 (by decide +kernel) (by decide +kernel)
theorem kc_x_isSure : Cond.code y_x_isSure b_x_isSure 1 (some .boolean) ∈ tb := tb_mem 174 (by decide +kernel) (by decide +kernel)
theorem km_x_66 : Cond.methodLink "CulpritSearch" 66 y_x_isSure ∈ tb := tb_mem 172 (by decide +kernel) (by decide +kernel)
theorem ks_x_isSure : Cond.static y_x_isSure ∈ tb := tb_mem 173 (by decide +kernel) (by decide +kernel)
theorem kc_t_isCleared : Cond.code y_t_isCleared b_t_isCleared 2 (some .boolean) ∈ tb := tb_mem 178 (by decide +kernel) (by decide +kernel)
theorem km_x_69 : Cond.methodLink "CulpritSearch" 69 y_t_isCleared ∈ tb := tb_mem 175 (by decide +kernel) (by decide +kernel)
theorem ks_t_isCleared : Cond.instanceMethod y_t_isCleared ∈ tb := tb_mem 176 (by decide +kernel) (by decide +kernel)
theorem ke_t_isCleared : Cond.selects "CulpritSearch$Target" y_t_isCleared y_t_isCleared ∈ tb := tb_mem 177 (by decide +kernel) (by decide +kernel)
theorem kc_t_start : Cond.code y_t_start b_t_start 8 (some .int) ∈ tb := tb_mem 182 (by decide +kernel) (by decide +kernel)
theorem km_x_72 : Cond.methodLink "CulpritSearch" 72 y_t_start ∈ tb := tb_mem 179 (by decide +kernel) (by decide +kernel)
theorem ks_t_start : Cond.instanceMethod y_t_start ∈ tb := tb_mem 180 (by decide +kernel) (by decide +kernel)
theorem ke_t_start : Cond.selects "CulpritSearch$Target" y_t_start y_t_start ∈ tb := tb_mem 181 (by decide +kernel) (by decide +kernel)
theorem kc_t_giveUp : Cond.code y_t_giveUp b_t_giveUp 1 none ∈ tb := tb_mem 201 (by decide +kernel) (by decide +kernel)
theorem km_x_79 : Cond.methodLink "CulpritSearch" 79 y_t_giveUp ∈ tb := tb_mem 198 (by decide +kernel) (by decide +kernel)
theorem ks_t_giveUp : Cond.instanceMethod y_t_giveUp ∈ tb := tb_mem 199 (by decide +kernel) (by decide +kernel)
theorem ke_t_giveUp : Cond.selects "CulpritSearch$Target" y_t_giveUp y_t_giveUp ∈ tb := tb_mem 200 (by decide +kernel) (by decide +kernel)
theorem kc_t_learn : Cond.code y_t_learn b_t_learn 6 none ∈ tb := tb_mem 262 (by decide +kernel) (by decide +kernel)
theorem km_x_93 : Cond.methodLink "CulpritSearch" 93 y_t_learn ∈ tb := tb_mem 259 (by decide +kernel) (by decide +kernel)
theorem ks_t_learn : Cond.instanceMethod y_t_learn ∈ tb := tb_mem 260 (by decide +kernel) (by decide +kernel)
theorem ke_t_learn : Cond.selects "CulpritSearch$Target" y_t_learn y_t_learn ∈ tb := tb_mem 261 (by decide +kernel) (by decide +kernel)
theorem kc_t_skip : Cond.code y_t_skip b_t_skip 2 none ∈ tb := tb_mem 254 (by decide +kernel) (by decide +kernel)
theorem km_x_89 : Cond.methodLink "CulpritSearch" 89 y_t_skip ∈ tb := tb_mem 251 (by decide +kernel) (by decide +kernel)
theorem ks_t_skip : Cond.instanceMethod y_t_skip ∈ tb := tb_mem 252 (by decide +kernel) (by decide +kernel)
theorem ke_t_skip : Cond.selects "CulpritSearch$Target" y_t_skip y_t_skip ∈ tb := tb_mem 253 (by decide +kernel) (by decide +kernel)
theorem kz_t : Cond.instantiable "CulpritSearch$Target" 11 ∈ tb := tb_mem 104 (by decide +kernel) (by decide +kernel)
theorem kc_t_init : Cond.code y_t_init b_t_init 2 none ∈ tb := tb_mem 107 (by decide +kernel) (by decide +kernel)
theorem km_x_48 : Cond.methodLink "CulpritSearch" 48 y_t_init ∈ tb := tb_mem 105 (by decide +kernel) (by decide +kernel)
theorem ks_t_init : Cond.instanceMethod y_t_init ∈ tb := tb_mem 106 (by decide +kernel) (by decide +kernel)
end
section
theorem d_lo_bitCount_0 : decode b_lo_bitCount 0 = .ok (.lload_n 0, 1) := by decide +kernel
theorem d_lo_bitCount_1 : decode b_lo_bitCount 1 = .ok (.lload_n 0, 1) := by decide +kernel
theorem d_lo_bitCount_2 : decode b_lo_bitCount 2 = .ok (.iconst 1, 1) := by decide +kernel
theorem d_lo_bitCount_3 : decode b_lo_bitCount 3 = .ok (.lushr, 1) := by decide +kernel
theorem d_lo_bitCount_4 : decode b_lo_bitCount 4 = .ok (.ldc2_w 314, 3) := by decide +kernel
theorem d_lo_bitCount_7 : decode b_lo_bitCount 7 = .ok (.land, 1) := by decide +kernel
theorem d_lo_bitCount_8 : decode b_lo_bitCount 8 = .ok (.lsub, 1) := by decide +kernel
theorem d_lo_bitCount_9 : decode b_lo_bitCount 9 = .ok (.lstore_n 0, 1) := by decide +kernel
theorem d_lo_bitCount_10 : decode b_lo_bitCount 10 = .ok (.lload_n 0, 1) := by decide +kernel
theorem d_lo_bitCount_11 : decode b_lo_bitCount 11 = .ok (.ldc2_w 316, 3) := by decide +kernel
theorem d_lo_bitCount_14 : decode b_lo_bitCount 14 = .ok (.land, 1) := by decide +kernel
theorem d_lo_bitCount_15 : decode b_lo_bitCount 15 = .ok (.lload_n 0, 1) := by decide +kernel
theorem d_lo_bitCount_16 : decode b_lo_bitCount 16 = .ok (.iconst 2, 1) := by decide +kernel
theorem d_lo_bitCount_17 : decode b_lo_bitCount 17 = .ok (.lushr, 1) := by decide +kernel
theorem d_lo_bitCount_18 : decode b_lo_bitCount 18 = .ok (.ldc2_w 316, 3) := by decide +kernel
theorem d_lo_bitCount_21 : decode b_lo_bitCount 21 = .ok (.land, 1) := by decide +kernel
theorem d_lo_bitCount_22 : decode b_lo_bitCount 22 = .ok (.ladd, 1) := by decide +kernel
theorem d_lo_bitCount_23 : decode b_lo_bitCount 23 = .ok (.lstore_n 0, 1) := by decide +kernel
theorem d_lo_bitCount_24 : decode b_lo_bitCount 24 = .ok (.lload_n 0, 1) := by decide +kernel
theorem d_lo_bitCount_25 : decode b_lo_bitCount 25 = .ok (.lload_n 0, 1) := by decide +kernel
theorem d_lo_bitCount_26 : decode b_lo_bitCount 26 = .ok (.iconst 4, 1) := by decide +kernel
theorem d_lo_bitCount_27 : decode b_lo_bitCount 27 = .ok (.lushr, 1) := by decide +kernel
theorem d_lo_bitCount_28 : decode b_lo_bitCount 28 = .ok (.ladd, 1) := by decide +kernel
theorem d_lo_bitCount_29 : decode b_lo_bitCount 29 = .ok (.ldc2_w 318, 3) := by decide +kernel
theorem d_lo_bitCount_32 : decode b_lo_bitCount 32 = .ok (.land, 1) := by decide +kernel
theorem d_lo_bitCount_33 : decode b_lo_bitCount 33 = .ok (.lstore_n 0, 1) := by decide +kernel
theorem d_lo_bitCount_34 : decode b_lo_bitCount 34 = .ok (.lload_n 0, 1) := by decide +kernel
theorem d_lo_bitCount_35 : decode b_lo_bitCount 35 = .ok (.lload_n 0, 1) := by decide +kernel
theorem d_lo_bitCount_36 : decode b_lo_bitCount 36 = .ok (.bipush 8, 2) := by decide +kernel
theorem d_lo_bitCount_38 : decode b_lo_bitCount 38 = .ok (.lushr, 1) := by decide +kernel
theorem d_lo_bitCount_39 : decode b_lo_bitCount 39 = .ok (.ladd, 1) := by decide +kernel
theorem d_lo_bitCount_40 : decode b_lo_bitCount 40 = .ok (.lstore_n 0, 1) := by decide +kernel
theorem d_lo_bitCount_41 : decode b_lo_bitCount 41 = .ok (.lload_n 0, 1) := by decide +kernel
theorem d_lo_bitCount_42 : decode b_lo_bitCount 42 = .ok (.lload_n 0, 1) := by decide +kernel
theorem d_lo_bitCount_43 : decode b_lo_bitCount 43 = .ok (.bipush 16, 2) := by decide +kernel
theorem d_lo_bitCount_45 : decode b_lo_bitCount 45 = .ok (.lushr, 1) := by decide +kernel
theorem d_lo_bitCount_46 : decode b_lo_bitCount 46 = .ok (.ladd, 1) := by decide +kernel
theorem d_lo_bitCount_47 : decode b_lo_bitCount 47 = .ok (.lstore_n 0, 1) := by decide +kernel
theorem d_lo_bitCount_48 : decode b_lo_bitCount 48 = .ok (.lload_n 0, 1) := by decide +kernel
theorem d_lo_bitCount_49 : decode b_lo_bitCount 49 = .ok (.lload_n 0, 1) := by decide +kernel
theorem d_lo_bitCount_50 : decode b_lo_bitCount 50 = .ok (.bipush 32, 2) := by decide +kernel
theorem d_lo_bitCount_52 : decode b_lo_bitCount 52 = .ok (.lushr, 1) := by decide +kernel
theorem d_lo_bitCount_53 : decode b_lo_bitCount 53 = .ok (.ladd, 1) := by decide +kernel
theorem d_lo_bitCount_54 : decode b_lo_bitCount 54 = .ok (.lstore_n 0, 1) := by decide +kernel
theorem d_lo_bitCount_55 : decode b_lo_bitCount 55 = .ok (.lload_n 0, 1) := by decide +kernel
theorem d_lo_bitCount_56 : decode b_lo_bitCount 56 = .ok (.l2i, 1) := by decide +kernel
theorem d_lo_bitCount_57 : decode b_lo_bitCount 57 = .ok (.bipush 127, 2) := by decide +kernel
theorem d_lo_bitCount_59 : decode b_lo_bitCount 59 = .ok (.iand, 1) := by decide +kernel
theorem d_lo_bitCount_60 : decode b_lo_bitCount 60 = .ok (.ireturn, 1) := by decide +kernel
def f_lo_bitCount (zs : Int64) : Int32 := (((((((((zs - (((zs.toUInt64 >>> ((1 : Int32).toInt64.toUInt64 &&& Int64.toUInt64 63)).toInt64) &&& 6148914691236517205)) &&& 3689348814741910323) + ((((zs - (((zs.toUInt64 >>> ((1 : Int32).toInt64.toUInt64 &&& Int64.toUInt64 63)).toInt64) &&& 6148914691236517205)).toUInt64 >>> ((2 : Int32).toInt64.toUInt64 &&& Int64.toUInt64 63)).toInt64) &&& 3689348814741910323)) + (((((zs - (((zs.toUInt64 >>> ((1 : Int32).toInt64.toUInt64 &&& Int64.toUInt64 63)).toInt64) &&& 6148914691236517205)) &&& 3689348814741910323) + ((((zs - (((zs.toUInt64 >>> ((1 : Int32).toInt64.toUInt64 &&& Int64.toUInt64 63)).toInt64) &&& 6148914691236517205)).toUInt64 >>> ((2 : Int32).toInt64.toUInt64 &&& Int64.toUInt64 63)).toInt64) &&& 3689348814741910323)).toUInt64 >>> ((4 : Int32).toInt64.toUInt64 &&& Int64.toUInt64 63)).toInt64)) &&& 1085102592571150095) + (((((((zs - (((zs.toUInt64 >>> ((1 : Int32).toInt64.toUInt64 &&& Int64.toUInt64 63)).toInt64) &&& 6148914691236517205)) &&& 3689348814741910323) + ((((zs - (((zs.toUInt64 >>> ((1 : Int32).toInt64.toUInt64 &&& Int64.toUInt64 63)).toInt64) &&& 6148914691236517205)).toUInt64 >>> ((2 : Int32).toInt64.toUInt64 &&& Int64.toUInt64 63)).toInt64) &&& 3689348814741910323)) + (((((zs - (((zs.toUInt64 >>> ((1 : Int32).toInt64.toUInt64 &&& Int64.toUInt64 63)).toInt64) &&& 6148914691236517205)) &&& 3689348814741910323) + ((((zs - (((zs.toUInt64 >>> ((1 : Int32).toInt64.toUInt64 &&& Int64.toUInt64 63)).toInt64) &&& 6148914691236517205)).toUInt64 >>> ((2 : Int32).toInt64.toUInt64 &&& Int64.toUInt64 63)).toInt64) &&& 3689348814741910323)).toUInt64 >>> ((4 : Int32).toInt64.toUInt64 &&& Int64.toUInt64 63)).toInt64)) &&& 1085102592571150095).toUInt64 >>> ((8 : Int32).toInt64.toUInt64 &&& Int64.toUInt64 63)).toInt64)) + ((((((((zs - (((zs.toUInt64 >>> ((1 : Int32).toInt64.toUInt64 &&& Int64.toUInt64 63)).toInt64) &&& 6148914691236517205)) &&& 3689348814741910323) + ((((zs - (((zs.toUInt64 >>> ((1 : Int32).toInt64.toUInt64 &&& Int64.toUInt64 63)).toInt64) &&& 6148914691236517205)).toUInt64 >>> ((2 : Int32).toInt64.toUInt64 &&& Int64.toUInt64 63)).toInt64) &&& 3689348814741910323)) + (((((zs - (((zs.toUInt64 >>> ((1 : Int32).toInt64.toUInt64 &&& Int64.toUInt64 63)).toInt64) &&& 6148914691236517205)) &&& 3689348814741910323) + ((((zs - (((zs.toUInt64 >>> ((1 : Int32).toInt64.toUInt64 &&& Int64.toUInt64 63)).toInt64) &&& 6148914691236517205)).toUInt64 >>> ((2 : Int32).toInt64.toUInt64 &&& Int64.toUInt64 63)).toInt64) &&& 3689348814741910323)).toUInt64 >>> ((4 : Int32).toInt64.toUInt64 &&& Int64.toUInt64 63)).toInt64)) &&& 1085102592571150095) + (((((((zs - (((zs.toUInt64 >>> ((1 : Int32).toInt64.toUInt64 &&& Int64.toUInt64 63)).toInt64) &&& 6148914691236517205)) &&& 3689348814741910323) + ((((zs - (((zs.toUInt64 >>> ((1 : Int32).toInt64.toUInt64 &&& Int64.toUInt64 63)).toInt64) &&& 6148914691236517205)).toUInt64 >>> ((2 : Int32).toInt64.toUInt64 &&& Int64.toUInt64 63)).toInt64) &&& 3689348814741910323)) + (((((zs - (((zs.toUInt64 >>> ((1 : Int32).toInt64.toUInt64 &&& Int64.toUInt64 63)).toInt64) &&& 6148914691236517205)) &&& 3689348814741910323) + ((((zs - (((zs.toUInt64 >>> ((1 : Int32).toInt64.toUInt64 &&& Int64.toUInt64 63)).toInt64) &&& 6148914691236517205)).toUInt64 >>> ((2 : Int32).toInt64.toUInt64 &&& Int64.toUInt64 63)).toInt64) &&& 3689348814741910323)).toUInt64 >>> ((4 : Int32).toInt64.toUInt64 &&& Int64.toUInt64 63)).toInt64)) &&& 1085102592571150095).toUInt64 >>> ((8 : Int32).toInt64.toUInt64 &&& Int64.toUInt64 63)).toInt64)).toUInt64 >>> ((16 : Int32).toInt64.toUInt64 &&& Int64.toUInt64 63)).toInt64)) + (((((((((zs - (((zs.toUInt64 >>> ((1 : Int32).toInt64.toUInt64 &&& Int64.toUInt64 63)).toInt64) &&& 6148914691236517205)) &&& 3689348814741910323) + ((((zs - (((zs.toUInt64 >>> ((1 : Int32).toInt64.toUInt64 &&& Int64.toUInt64 63)).toInt64) &&& 6148914691236517205)).toUInt64 >>> ((2 : Int32).toInt64.toUInt64 &&& Int64.toUInt64 63)).toInt64) &&& 3689348814741910323)) + (((((zs - (((zs.toUInt64 >>> ((1 : Int32).toInt64.toUInt64 &&& Int64.toUInt64 63)).toInt64) &&& 6148914691236517205)) &&& 3689348814741910323) + ((((zs - (((zs.toUInt64 >>> ((1 : Int32).toInt64.toUInt64 &&& Int64.toUInt64 63)).toInt64) &&& 6148914691236517205)).toUInt64 >>> ((2 : Int32).toInt64.toUInt64 &&& Int64.toUInt64 63)).toInt64) &&& 3689348814741910323)).toUInt64 >>> ((4 : Int32).toInt64.toUInt64 &&& Int64.toUInt64 63)).toInt64)) &&& 1085102592571150095) + (((((((zs - (((zs.toUInt64 >>> ((1 : Int32).toInt64.toUInt64 &&& Int64.toUInt64 63)).toInt64) &&& 6148914691236517205)) &&& 3689348814741910323) + ((((zs - (((zs.toUInt64 >>> ((1 : Int32).toInt64.toUInt64 &&& Int64.toUInt64 63)).toInt64) &&& 6148914691236517205)).toUInt64 >>> ((2 : Int32).toInt64.toUInt64 &&& Int64.toUInt64 63)).toInt64) &&& 3689348814741910323)) + (((((zs - (((zs.toUInt64 >>> ((1 : Int32).toInt64.toUInt64 &&& Int64.toUInt64 63)).toInt64) &&& 6148914691236517205)) &&& 3689348814741910323) + ((((zs - (((zs.toUInt64 >>> ((1 : Int32).toInt64.toUInt64 &&& Int64.toUInt64 63)).toInt64) &&& 6148914691236517205)).toUInt64 >>> ((2 : Int32).toInt64.toUInt64 &&& Int64.toUInt64 63)).toInt64) &&& 3689348814741910323)).toUInt64 >>> ((4 : Int32).toInt64.toUInt64 &&& Int64.toUInt64 63)).toInt64)) &&& 1085102592571150095).toUInt64 >>> ((8 : Int32).toInt64.toUInt64 &&& Int64.toUInt64 63)).toInt64)) + ((((((((zs - (((zs.toUInt64 >>> ((1 : Int32).toInt64.toUInt64 &&& Int64.toUInt64 63)).toInt64) &&& 6148914691236517205)) &&& 3689348814741910323) + ((((zs - (((zs.toUInt64 >>> ((1 : Int32).toInt64.toUInt64 &&& Int64.toUInt64 63)).toInt64) &&& 6148914691236517205)).toUInt64 >>> ((2 : Int32).toInt64.toUInt64 &&& Int64.toUInt64 63)).toInt64) &&& 3689348814741910323)) + (((((zs - (((zs.toUInt64 >>> ((1 : Int32).toInt64.toUInt64 &&& Int64.toUInt64 63)).toInt64) &&& 6148914691236517205)) &&& 3689348814741910323) + ((((zs - (((zs.toUInt64 >>> ((1 : Int32).toInt64.toUInt64 &&& Int64.toUInt64 63)).toInt64) &&& 6148914691236517205)).toUInt64 >>> ((2 : Int32).toInt64.toUInt64 &&& Int64.toUInt64 63)).toInt64) &&& 3689348814741910323)).toUInt64 >>> ((4 : Int32).toInt64.toUInt64 &&& Int64.toUInt64 63)).toInt64)) &&& 1085102592571150095) + (((((((zs - (((zs.toUInt64 >>> ((1 : Int32).toInt64.toUInt64 &&& Int64.toUInt64 63)).toInt64) &&& 6148914691236517205)) &&& 3689348814741910323) + ((((zs - (((zs.toUInt64 >>> ((1 : Int32).toInt64.toUInt64 &&& Int64.toUInt64 63)).toInt64) &&& 6148914691236517205)).toUInt64 >>> ((2 : Int32).toInt64.toUInt64 &&& Int64.toUInt64 63)).toInt64) &&& 3689348814741910323)) + (((((zs - (((zs.toUInt64 >>> ((1 : Int32).toInt64.toUInt64 &&& Int64.toUInt64 63)).toInt64) &&& 6148914691236517205)) &&& 3689348814741910323) + ((((zs - (((zs.toUInt64 >>> ((1 : Int32).toInt64.toUInt64 &&& Int64.toUInt64 63)).toInt64) &&& 6148914691236517205)).toUInt64 >>> ((2 : Int32).toInt64.toUInt64 &&& Int64.toUInt64 63)).toInt64) &&& 3689348814741910323)).toUInt64 >>> ((4 : Int32).toInt64.toUInt64 &&& Int64.toUInt64 63)).toInt64)) &&& 1085102592571150095).toUInt64 >>> ((8 : Int32).toInt64.toUInt64 &&& Int64.toUInt64 63)).toInt64)).toUInt64 >>> ((16 : Int32).toInt64.toUInt64 &&& Int64.toUInt64 63)).toInt64)).toUInt64 >>> ((32 : Int32).toInt64.toUInt64 &&& Int64.toUInt64 63)).toInt64)).toInt32) &&& 127
set_option maxHeartbeats 4000000 in
set_option maxRecDepth 100000 in
theorem c_lo_bitCount (l : Launch) (D : va_G) (cA : Nat → ClassId) (zs : Int64) : Met l y_lo_bitCount (.code y_lo_bitCount b_lo_bitCount 2 (some .int) :: tb) (rmd 0) (Pro D cA [.long zs] (fun _ => True)) (Qro (.int (f_lo_bitCount zs))) 0 0 nof := by
  refine ro_in (by decide) (Nat.le_of_ble_eq_true rfl) (fun p e s m below meth c ls FX hnm hK hP hl => ?_)
  have hl : lv_has ls 2 [(0, .long zs)] := hl
  generalize ([.long zs] : List Value).toArray = args at FX ⊢
  obtain ⟨hx, hb, hml, hown, hts, hr, hlk⟩ := id FX
  refine lv_lload_n hx hb d_lo_bitCount_0 rfl (lv_at hl 0 rfl) ?_
  refine lv_lload_n hx hb d_lo_bitCount_1 rfl (lv_at hl 0 rfl) ?_
  refine lv_iconst (v := 1) hx hb d_lo_bitCount_2 (by decide) ?_
  refine lv_lushr (v := (zs.toUInt64 >>> ((1 : Int32).toInt64.toUInt64 &&& Int64.toUInt64 63)).toInt64) hx hb d_lo_bitCount_3 rfl ?_
  refine lv_ldc2 (v := 6148914691236517205) hx hb hown (hts _ kl_lo_314) d_lo_bitCount_4 ?_
  refine lv_land hx hb d_lo_bitCount_7 ?_
  refine lv_lsub hx hb d_lo_bitCount_8 ?_
  refine lv_lstore_n (lv' := [(0, .long (zs - (((zs.toUInt64 >>> ((1 : Int32).toInt64.toUInt64 &&& Int64.toUInt64 63)).toInt64) &&& 6148914691236517205)))]) hx hb d_lo_bitCount_9 rfl hl (by decide) rfl (fun ls hl => ?_)
  refine lv_lload_n hx hb d_lo_bitCount_10 rfl (lv_at hl 0 rfl) ?_
  refine lv_ldc2 (v := 3689348814741910323) hx hb hown (hts _ kl_lo_316) d_lo_bitCount_11 ?_
  refine lv_land hx hb d_lo_bitCount_14 ?_
  refine lv_lload_n hx hb d_lo_bitCount_15 rfl (lv_at hl 0 rfl) ?_
  refine lv_iconst (v := 2) hx hb d_lo_bitCount_16 (by decide) ?_
  refine lv_lushr (v := ((zs - (((zs.toUInt64 >>> ((1 : Int32).toInt64.toUInt64 &&& Int64.toUInt64 63)).toInt64) &&& 6148914691236517205)).toUInt64 >>> ((2 : Int32).toInt64.toUInt64 &&& Int64.toUInt64 63)).toInt64) hx hb d_lo_bitCount_17 rfl ?_
  refine lv_ldc2 (v := 3689348814741910323) hx hb hown (hts _ kl_lo_316) d_lo_bitCount_18 ?_
  refine lv_land hx hb d_lo_bitCount_21 ?_
  refine lv_ladd hx hb d_lo_bitCount_22 ?_
  refine lv_lstore_n (lv' := [(0, .long (((zs - (((zs.toUInt64 >>> ((1 : Int32).toInt64.toUInt64 &&& Int64.toUInt64 63)).toInt64) &&& 6148914691236517205)) &&& 3689348814741910323) + ((((zs - (((zs.toUInt64 >>> ((1 : Int32).toInt64.toUInt64 &&& Int64.toUInt64 63)).toInt64) &&& 6148914691236517205)).toUInt64 >>> ((2 : Int32).toInt64.toUInt64 &&& Int64.toUInt64 63)).toInt64) &&& 3689348814741910323)))]) hx hb d_lo_bitCount_23 rfl hl (by decide) rfl (fun ls hl => ?_)
  refine lv_lload_n hx hb d_lo_bitCount_24 rfl (lv_at hl 0 rfl) ?_
  refine lv_lload_n hx hb d_lo_bitCount_25 rfl (lv_at hl 0 rfl) ?_
  refine lv_iconst (v := 4) hx hb d_lo_bitCount_26 (by decide) ?_
  refine lv_lushr (v := ((((zs - (((zs.toUInt64 >>> ((1 : Int32).toInt64.toUInt64 &&& Int64.toUInt64 63)).toInt64) &&& 6148914691236517205)) &&& 3689348814741910323) + ((((zs - (((zs.toUInt64 >>> ((1 : Int32).toInt64.toUInt64 &&& Int64.toUInt64 63)).toInt64) &&& 6148914691236517205)).toUInt64 >>> ((2 : Int32).toInt64.toUInt64 &&& Int64.toUInt64 63)).toInt64) &&& 3689348814741910323)).toUInt64 >>> ((4 : Int32).toInt64.toUInt64 &&& Int64.toUInt64 63)).toInt64) hx hb d_lo_bitCount_27 rfl ?_
  refine lv_ladd hx hb d_lo_bitCount_28 ?_
  refine lv_ldc2 (v := 1085102592571150095) hx hb hown (hts _ kl_lo_318) d_lo_bitCount_29 ?_
  refine lv_land hx hb d_lo_bitCount_32 ?_
  refine lv_lstore_n (lv' := [(0, .long (((((zs - (((zs.toUInt64 >>> ((1 : Int32).toInt64.toUInt64 &&& Int64.toUInt64 63)).toInt64) &&& 6148914691236517205)) &&& 3689348814741910323) + ((((zs - (((zs.toUInt64 >>> ((1 : Int32).toInt64.toUInt64 &&& Int64.toUInt64 63)).toInt64) &&& 6148914691236517205)).toUInt64 >>> ((2 : Int32).toInt64.toUInt64 &&& Int64.toUInt64 63)).toInt64) &&& 3689348814741910323)) + (((((zs - (((zs.toUInt64 >>> ((1 : Int32).toInt64.toUInt64 &&& Int64.toUInt64 63)).toInt64) &&& 6148914691236517205)) &&& 3689348814741910323) + ((((zs - (((zs.toUInt64 >>> ((1 : Int32).toInt64.toUInt64 &&& Int64.toUInt64 63)).toInt64) &&& 6148914691236517205)).toUInt64 >>> ((2 : Int32).toInt64.toUInt64 &&& Int64.toUInt64 63)).toInt64) &&& 3689348814741910323)).toUInt64 >>> ((4 : Int32).toInt64.toUInt64 &&& Int64.toUInt64 63)).toInt64)) &&& 1085102592571150095))]) hx hb d_lo_bitCount_33 rfl hl (by decide) rfl (fun ls hl => ?_)
  refine lv_lload_n hx hb d_lo_bitCount_34 rfl (lv_at hl 0 rfl) ?_
  refine lv_lload_n hx hb d_lo_bitCount_35 rfl (lv_at hl 0 rfl) ?_
  refine lv_bipush (v := 8) hx hb d_lo_bitCount_36 (by decide) ?_
  refine lv_lushr (v := ((((((zs - (((zs.toUInt64 >>> ((1 : Int32).toInt64.toUInt64 &&& Int64.toUInt64 63)).toInt64) &&& 6148914691236517205)) &&& 3689348814741910323) + ((((zs - (((zs.toUInt64 >>> ((1 : Int32).toInt64.toUInt64 &&& Int64.toUInt64 63)).toInt64) &&& 6148914691236517205)).toUInt64 >>> ((2 : Int32).toInt64.toUInt64 &&& Int64.toUInt64 63)).toInt64) &&& 3689348814741910323)) + (((((zs - (((zs.toUInt64 >>> ((1 : Int32).toInt64.toUInt64 &&& Int64.toUInt64 63)).toInt64) &&& 6148914691236517205)) &&& 3689348814741910323) + ((((zs - (((zs.toUInt64 >>> ((1 : Int32).toInt64.toUInt64 &&& Int64.toUInt64 63)).toInt64) &&& 6148914691236517205)).toUInt64 >>> ((2 : Int32).toInt64.toUInt64 &&& Int64.toUInt64 63)).toInt64) &&& 3689348814741910323)).toUInt64 >>> ((4 : Int32).toInt64.toUInt64 &&& Int64.toUInt64 63)).toInt64)) &&& 1085102592571150095).toUInt64 >>> ((8 : Int32).toInt64.toUInt64 &&& Int64.toUInt64 63)).toInt64) hx hb d_lo_bitCount_38 rfl ?_
  refine lv_ladd hx hb d_lo_bitCount_39 ?_
  refine lv_lstore_n (lv' := [(0, .long ((((((zs - (((zs.toUInt64 >>> ((1 : Int32).toInt64.toUInt64 &&& Int64.toUInt64 63)).toInt64) &&& 6148914691236517205)) &&& 3689348814741910323) + ((((zs - (((zs.toUInt64 >>> ((1 : Int32).toInt64.toUInt64 &&& Int64.toUInt64 63)).toInt64) &&& 6148914691236517205)).toUInt64 >>> ((2 : Int32).toInt64.toUInt64 &&& Int64.toUInt64 63)).toInt64) &&& 3689348814741910323)) + (((((zs - (((zs.toUInt64 >>> ((1 : Int32).toInt64.toUInt64 &&& Int64.toUInt64 63)).toInt64) &&& 6148914691236517205)) &&& 3689348814741910323) + ((((zs - (((zs.toUInt64 >>> ((1 : Int32).toInt64.toUInt64 &&& Int64.toUInt64 63)).toInt64) &&& 6148914691236517205)).toUInt64 >>> ((2 : Int32).toInt64.toUInt64 &&& Int64.toUInt64 63)).toInt64) &&& 3689348814741910323)).toUInt64 >>> ((4 : Int32).toInt64.toUInt64 &&& Int64.toUInt64 63)).toInt64)) &&& 1085102592571150095) + (((((((zs - (((zs.toUInt64 >>> ((1 : Int32).toInt64.toUInt64 &&& Int64.toUInt64 63)).toInt64) &&& 6148914691236517205)) &&& 3689348814741910323) + ((((zs - (((zs.toUInt64 >>> ((1 : Int32).toInt64.toUInt64 &&& Int64.toUInt64 63)).toInt64) &&& 6148914691236517205)).toUInt64 >>> ((2 : Int32).toInt64.toUInt64 &&& Int64.toUInt64 63)).toInt64) &&& 3689348814741910323)) + (((((zs - (((zs.toUInt64 >>> ((1 : Int32).toInt64.toUInt64 &&& Int64.toUInt64 63)).toInt64) &&& 6148914691236517205)) &&& 3689348814741910323) + ((((zs - (((zs.toUInt64 >>> ((1 : Int32).toInt64.toUInt64 &&& Int64.toUInt64 63)).toInt64) &&& 6148914691236517205)).toUInt64 >>> ((2 : Int32).toInt64.toUInt64 &&& Int64.toUInt64 63)).toInt64) &&& 3689348814741910323)).toUInt64 >>> ((4 : Int32).toInt64.toUInt64 &&& Int64.toUInt64 63)).toInt64)) &&& 1085102592571150095).toUInt64 >>> ((8 : Int32).toInt64.toUInt64 &&& Int64.toUInt64 63)).toInt64)))]) hx hb d_lo_bitCount_40 rfl hl (by decide) rfl (fun ls hl => ?_)
  refine lv_lload_n hx hb d_lo_bitCount_41 rfl (lv_at hl 0 rfl) ?_
  refine lv_lload_n hx hb d_lo_bitCount_42 rfl (lv_at hl 0 rfl) ?_
  refine lv_bipush (v := 16) hx hb d_lo_bitCount_43 (by decide) ?_
  refine lv_lushr (v := (((((((zs - (((zs.toUInt64 >>> ((1 : Int32).toInt64.toUInt64 &&& Int64.toUInt64 63)).toInt64) &&& 6148914691236517205)) &&& 3689348814741910323) + ((((zs - (((zs.toUInt64 >>> ((1 : Int32).toInt64.toUInt64 &&& Int64.toUInt64 63)).toInt64) &&& 6148914691236517205)).toUInt64 >>> ((2 : Int32).toInt64.toUInt64 &&& Int64.toUInt64 63)).toInt64) &&& 3689348814741910323)) + (((((zs - (((zs.toUInt64 >>> ((1 : Int32).toInt64.toUInt64 &&& Int64.toUInt64 63)).toInt64) &&& 6148914691236517205)) &&& 3689348814741910323) + ((((zs - (((zs.toUInt64 >>> ((1 : Int32).toInt64.toUInt64 &&& Int64.toUInt64 63)).toInt64) &&& 6148914691236517205)).toUInt64 >>> ((2 : Int32).toInt64.toUInt64 &&& Int64.toUInt64 63)).toInt64) &&& 3689348814741910323)).toUInt64 >>> ((4 : Int32).toInt64.toUInt64 &&& Int64.toUInt64 63)).toInt64)) &&& 1085102592571150095) + (((((((zs - (((zs.toUInt64 >>> ((1 : Int32).toInt64.toUInt64 &&& Int64.toUInt64 63)).toInt64) &&& 6148914691236517205)) &&& 3689348814741910323) + ((((zs - (((zs.toUInt64 >>> ((1 : Int32).toInt64.toUInt64 &&& Int64.toUInt64 63)).toInt64) &&& 6148914691236517205)).toUInt64 >>> ((2 : Int32).toInt64.toUInt64 &&& Int64.toUInt64 63)).toInt64) &&& 3689348814741910323)) + (((((zs - (((zs.toUInt64 >>> ((1 : Int32).toInt64.toUInt64 &&& Int64.toUInt64 63)).toInt64) &&& 6148914691236517205)) &&& 3689348814741910323) + ((((zs - (((zs.toUInt64 >>> ((1 : Int32).toInt64.toUInt64 &&& Int64.toUInt64 63)).toInt64) &&& 6148914691236517205)).toUInt64 >>> ((2 : Int32).toInt64.toUInt64 &&& Int64.toUInt64 63)).toInt64) &&& 3689348814741910323)).toUInt64 >>> ((4 : Int32).toInt64.toUInt64 &&& Int64.toUInt64 63)).toInt64)) &&& 1085102592571150095).toUInt64 >>> ((8 : Int32).toInt64.toUInt64 &&& Int64.toUInt64 63)).toInt64)).toUInt64 >>> ((16 : Int32).toInt64.toUInt64 &&& Int64.toUInt64 63)).toInt64) hx hb d_lo_bitCount_45 rfl ?_
  refine lv_ladd hx hb d_lo_bitCount_46 ?_
  refine lv_lstore_n (lv' := [(0, .long (((((((zs - (((zs.toUInt64 >>> ((1 : Int32).toInt64.toUInt64 &&& Int64.toUInt64 63)).toInt64) &&& 6148914691236517205)) &&& 3689348814741910323) + ((((zs - (((zs.toUInt64 >>> ((1 : Int32).toInt64.toUInt64 &&& Int64.toUInt64 63)).toInt64) &&& 6148914691236517205)).toUInt64 >>> ((2 : Int32).toInt64.toUInt64 &&& Int64.toUInt64 63)).toInt64) &&& 3689348814741910323)) + (((((zs - (((zs.toUInt64 >>> ((1 : Int32).toInt64.toUInt64 &&& Int64.toUInt64 63)).toInt64) &&& 6148914691236517205)) &&& 3689348814741910323) + ((((zs - (((zs.toUInt64 >>> ((1 : Int32).toInt64.toUInt64 &&& Int64.toUInt64 63)).toInt64) &&& 6148914691236517205)).toUInt64 >>> ((2 : Int32).toInt64.toUInt64 &&& Int64.toUInt64 63)).toInt64) &&& 3689348814741910323)).toUInt64 >>> ((4 : Int32).toInt64.toUInt64 &&& Int64.toUInt64 63)).toInt64)) &&& 1085102592571150095) + (((((((zs - (((zs.toUInt64 >>> ((1 : Int32).toInt64.toUInt64 &&& Int64.toUInt64 63)).toInt64) &&& 6148914691236517205)) &&& 3689348814741910323) + ((((zs - (((zs.toUInt64 >>> ((1 : Int32).toInt64.toUInt64 &&& Int64.toUInt64 63)).toInt64) &&& 6148914691236517205)).toUInt64 >>> ((2 : Int32).toInt64.toUInt64 &&& Int64.toUInt64 63)).toInt64) &&& 3689348814741910323)) + (((((zs - (((zs.toUInt64 >>> ((1 : Int32).toInt64.toUInt64 &&& Int64.toUInt64 63)).toInt64) &&& 6148914691236517205)) &&& 3689348814741910323) + ((((zs - (((zs.toUInt64 >>> ((1 : Int32).toInt64.toUInt64 &&& Int64.toUInt64 63)).toInt64) &&& 6148914691236517205)).toUInt64 >>> ((2 : Int32).toInt64.toUInt64 &&& Int64.toUInt64 63)).toInt64) &&& 3689348814741910323)).toUInt64 >>> ((4 : Int32).toInt64.toUInt64 &&& Int64.toUInt64 63)).toInt64)) &&& 1085102592571150095).toUInt64 >>> ((8 : Int32).toInt64.toUInt64 &&& Int64.toUInt64 63)).toInt64)) + ((((((((zs - (((zs.toUInt64 >>> ((1 : Int32).toInt64.toUInt64 &&& Int64.toUInt64 63)).toInt64) &&& 6148914691236517205)) &&& 3689348814741910323) + ((((zs - (((zs.toUInt64 >>> ((1 : Int32).toInt64.toUInt64 &&& Int64.toUInt64 63)).toInt64) &&& 6148914691236517205)).toUInt64 >>> ((2 : Int32).toInt64.toUInt64 &&& Int64.toUInt64 63)).toInt64) &&& 3689348814741910323)) + (((((zs - (((zs.toUInt64 >>> ((1 : Int32).toInt64.toUInt64 &&& Int64.toUInt64 63)).toInt64) &&& 6148914691236517205)) &&& 3689348814741910323) + ((((zs - (((zs.toUInt64 >>> ((1 : Int32).toInt64.toUInt64 &&& Int64.toUInt64 63)).toInt64) &&& 6148914691236517205)).toUInt64 >>> ((2 : Int32).toInt64.toUInt64 &&& Int64.toUInt64 63)).toInt64) &&& 3689348814741910323)).toUInt64 >>> ((4 : Int32).toInt64.toUInt64 &&& Int64.toUInt64 63)).toInt64)) &&& 1085102592571150095) + (((((((zs - (((zs.toUInt64 >>> ((1 : Int32).toInt64.toUInt64 &&& Int64.toUInt64 63)).toInt64) &&& 6148914691236517205)) &&& 3689348814741910323) + ((((zs - (((zs.toUInt64 >>> ((1 : Int32).toInt64.toUInt64 &&& Int64.toUInt64 63)).toInt64) &&& 6148914691236517205)).toUInt64 >>> ((2 : Int32).toInt64.toUInt64 &&& Int64.toUInt64 63)).toInt64) &&& 3689348814741910323)) + (((((zs - (((zs.toUInt64 >>> ((1 : Int32).toInt64.toUInt64 &&& Int64.toUInt64 63)).toInt64) &&& 6148914691236517205)) &&& 3689348814741910323) + ((((zs - (((zs.toUInt64 >>> ((1 : Int32).toInt64.toUInt64 &&& Int64.toUInt64 63)).toInt64) &&& 6148914691236517205)).toUInt64 >>> ((2 : Int32).toInt64.toUInt64 &&& Int64.toUInt64 63)).toInt64) &&& 3689348814741910323)).toUInt64 >>> ((4 : Int32).toInt64.toUInt64 &&& Int64.toUInt64 63)).toInt64)) &&& 1085102592571150095).toUInt64 >>> ((8 : Int32).toInt64.toUInt64 &&& Int64.toUInt64 63)).toInt64)).toUInt64 >>> ((16 : Int32).toInt64.toUInt64 &&& Int64.toUInt64 63)).toInt64)))]) hx hb d_lo_bitCount_47 rfl hl (by decide) rfl (fun ls hl => ?_)
  refine lv_lload_n hx hb d_lo_bitCount_48 rfl (lv_at hl 0 rfl) ?_
  refine lv_lload_n hx hb d_lo_bitCount_49 rfl (lv_at hl 0 rfl) ?_
  refine lv_bipush (v := 32) hx hb d_lo_bitCount_50 (by decide) ?_
  refine lv_lushr (v := ((((((((zs - (((zs.toUInt64 >>> ((1 : Int32).toInt64.toUInt64 &&& Int64.toUInt64 63)).toInt64) &&& 6148914691236517205)) &&& 3689348814741910323) + ((((zs - (((zs.toUInt64 >>> ((1 : Int32).toInt64.toUInt64 &&& Int64.toUInt64 63)).toInt64) &&& 6148914691236517205)).toUInt64 >>> ((2 : Int32).toInt64.toUInt64 &&& Int64.toUInt64 63)).toInt64) &&& 3689348814741910323)) + (((((zs - (((zs.toUInt64 >>> ((1 : Int32).toInt64.toUInt64 &&& Int64.toUInt64 63)).toInt64) &&& 6148914691236517205)) &&& 3689348814741910323) + ((((zs - (((zs.toUInt64 >>> ((1 : Int32).toInt64.toUInt64 &&& Int64.toUInt64 63)).toInt64) &&& 6148914691236517205)).toUInt64 >>> ((2 : Int32).toInt64.toUInt64 &&& Int64.toUInt64 63)).toInt64) &&& 3689348814741910323)).toUInt64 >>> ((4 : Int32).toInt64.toUInt64 &&& Int64.toUInt64 63)).toInt64)) &&& 1085102592571150095) + (((((((zs - (((zs.toUInt64 >>> ((1 : Int32).toInt64.toUInt64 &&& Int64.toUInt64 63)).toInt64) &&& 6148914691236517205)) &&& 3689348814741910323) + ((((zs - (((zs.toUInt64 >>> ((1 : Int32).toInt64.toUInt64 &&& Int64.toUInt64 63)).toInt64) &&& 6148914691236517205)).toUInt64 >>> ((2 : Int32).toInt64.toUInt64 &&& Int64.toUInt64 63)).toInt64) &&& 3689348814741910323)) + (((((zs - (((zs.toUInt64 >>> ((1 : Int32).toInt64.toUInt64 &&& Int64.toUInt64 63)).toInt64) &&& 6148914691236517205)) &&& 3689348814741910323) + ((((zs - (((zs.toUInt64 >>> ((1 : Int32).toInt64.toUInt64 &&& Int64.toUInt64 63)).toInt64) &&& 6148914691236517205)).toUInt64 >>> ((2 : Int32).toInt64.toUInt64 &&& Int64.toUInt64 63)).toInt64) &&& 3689348814741910323)).toUInt64 >>> ((4 : Int32).toInt64.toUInt64 &&& Int64.toUInt64 63)).toInt64)) &&& 1085102592571150095).toUInt64 >>> ((8 : Int32).toInt64.toUInt64 &&& Int64.toUInt64 63)).toInt64)) + ((((((((zs - (((zs.toUInt64 >>> ((1 : Int32).toInt64.toUInt64 &&& Int64.toUInt64 63)).toInt64) &&& 6148914691236517205)) &&& 3689348814741910323) + ((((zs - (((zs.toUInt64 >>> ((1 : Int32).toInt64.toUInt64 &&& Int64.toUInt64 63)).toInt64) &&& 6148914691236517205)).toUInt64 >>> ((2 : Int32).toInt64.toUInt64 &&& Int64.toUInt64 63)).toInt64) &&& 3689348814741910323)) + (((((zs - (((zs.toUInt64 >>> ((1 : Int32).toInt64.toUInt64 &&& Int64.toUInt64 63)).toInt64) &&& 6148914691236517205)) &&& 3689348814741910323) + ((((zs - (((zs.toUInt64 >>> ((1 : Int32).toInt64.toUInt64 &&& Int64.toUInt64 63)).toInt64) &&& 6148914691236517205)).toUInt64 >>> ((2 : Int32).toInt64.toUInt64 &&& Int64.toUInt64 63)).toInt64) &&& 3689348814741910323)).toUInt64 >>> ((4 : Int32).toInt64.toUInt64 &&& Int64.toUInt64 63)).toInt64)) &&& 1085102592571150095) + (((((((zs - (((zs.toUInt64 >>> ((1 : Int32).toInt64.toUInt64 &&& Int64.toUInt64 63)).toInt64) &&& 6148914691236517205)) &&& 3689348814741910323) + ((((zs - (((zs.toUInt64 >>> ((1 : Int32).toInt64.toUInt64 &&& Int64.toUInt64 63)).toInt64) &&& 6148914691236517205)).toUInt64 >>> ((2 : Int32).toInt64.toUInt64 &&& Int64.toUInt64 63)).toInt64) &&& 3689348814741910323)) + (((((zs - (((zs.toUInt64 >>> ((1 : Int32).toInt64.toUInt64 &&& Int64.toUInt64 63)).toInt64) &&& 6148914691236517205)) &&& 3689348814741910323) + ((((zs - (((zs.toUInt64 >>> ((1 : Int32).toInt64.toUInt64 &&& Int64.toUInt64 63)).toInt64) &&& 6148914691236517205)).toUInt64 >>> ((2 : Int32).toInt64.toUInt64 &&& Int64.toUInt64 63)).toInt64) &&& 3689348814741910323)).toUInt64 >>> ((4 : Int32).toInt64.toUInt64 &&& Int64.toUInt64 63)).toInt64)) &&& 1085102592571150095).toUInt64 >>> ((8 : Int32).toInt64.toUInt64 &&& Int64.toUInt64 63)).toInt64)).toUInt64 >>> ((16 : Int32).toInt64.toUInt64 &&& Int64.toUInt64 63)).toInt64)).toUInt64 >>> ((32 : Int32).toInt64.toUInt64 &&& Int64.toUInt64 63)).toInt64) hx hb d_lo_bitCount_52 rfl ?_
  refine lv_ladd hx hb d_lo_bitCount_53 ?_
  refine lv_lstore_n (lv' := [(0, .long ((((((((zs - (((zs.toUInt64 >>> ((1 : Int32).toInt64.toUInt64 &&& Int64.toUInt64 63)).toInt64) &&& 6148914691236517205)) &&& 3689348814741910323) + ((((zs - (((zs.toUInt64 >>> ((1 : Int32).toInt64.toUInt64 &&& Int64.toUInt64 63)).toInt64) &&& 6148914691236517205)).toUInt64 >>> ((2 : Int32).toInt64.toUInt64 &&& Int64.toUInt64 63)).toInt64) &&& 3689348814741910323)) + (((((zs - (((zs.toUInt64 >>> ((1 : Int32).toInt64.toUInt64 &&& Int64.toUInt64 63)).toInt64) &&& 6148914691236517205)) &&& 3689348814741910323) + ((((zs - (((zs.toUInt64 >>> ((1 : Int32).toInt64.toUInt64 &&& Int64.toUInt64 63)).toInt64) &&& 6148914691236517205)).toUInt64 >>> ((2 : Int32).toInt64.toUInt64 &&& Int64.toUInt64 63)).toInt64) &&& 3689348814741910323)).toUInt64 >>> ((4 : Int32).toInt64.toUInt64 &&& Int64.toUInt64 63)).toInt64)) &&& 1085102592571150095) + (((((((zs - (((zs.toUInt64 >>> ((1 : Int32).toInt64.toUInt64 &&& Int64.toUInt64 63)).toInt64) &&& 6148914691236517205)) &&& 3689348814741910323) + ((((zs - (((zs.toUInt64 >>> ((1 : Int32).toInt64.toUInt64 &&& Int64.toUInt64 63)).toInt64) &&& 6148914691236517205)).toUInt64 >>> ((2 : Int32).toInt64.toUInt64 &&& Int64.toUInt64 63)).toInt64) &&& 3689348814741910323)) + (((((zs - (((zs.toUInt64 >>> ((1 : Int32).toInt64.toUInt64 &&& Int64.toUInt64 63)).toInt64) &&& 6148914691236517205)) &&& 3689348814741910323) + ((((zs - (((zs.toUInt64 >>> ((1 : Int32).toInt64.toUInt64 &&& Int64.toUInt64 63)).toInt64) &&& 6148914691236517205)).toUInt64 >>> ((2 : Int32).toInt64.toUInt64 &&& Int64.toUInt64 63)).toInt64) &&& 3689348814741910323)).toUInt64 >>> ((4 : Int32).toInt64.toUInt64 &&& Int64.toUInt64 63)).toInt64)) &&& 1085102592571150095).toUInt64 >>> ((8 : Int32).toInt64.toUInt64 &&& Int64.toUInt64 63)).toInt64)) + ((((((((zs - (((zs.toUInt64 >>> ((1 : Int32).toInt64.toUInt64 &&& Int64.toUInt64 63)).toInt64) &&& 6148914691236517205)) &&& 3689348814741910323) + ((((zs - (((zs.toUInt64 >>> ((1 : Int32).toInt64.toUInt64 &&& Int64.toUInt64 63)).toInt64) &&& 6148914691236517205)).toUInt64 >>> ((2 : Int32).toInt64.toUInt64 &&& Int64.toUInt64 63)).toInt64) &&& 3689348814741910323)) + (((((zs - (((zs.toUInt64 >>> ((1 : Int32).toInt64.toUInt64 &&& Int64.toUInt64 63)).toInt64) &&& 6148914691236517205)) &&& 3689348814741910323) + ((((zs - (((zs.toUInt64 >>> ((1 : Int32).toInt64.toUInt64 &&& Int64.toUInt64 63)).toInt64) &&& 6148914691236517205)).toUInt64 >>> ((2 : Int32).toInt64.toUInt64 &&& Int64.toUInt64 63)).toInt64) &&& 3689348814741910323)).toUInt64 >>> ((4 : Int32).toInt64.toUInt64 &&& Int64.toUInt64 63)).toInt64)) &&& 1085102592571150095) + (((((((zs - (((zs.toUInt64 >>> ((1 : Int32).toInt64.toUInt64 &&& Int64.toUInt64 63)).toInt64) &&& 6148914691236517205)) &&& 3689348814741910323) + ((((zs - (((zs.toUInt64 >>> ((1 : Int32).toInt64.toUInt64 &&& Int64.toUInt64 63)).toInt64) &&& 6148914691236517205)).toUInt64 >>> ((2 : Int32).toInt64.toUInt64 &&& Int64.toUInt64 63)).toInt64) &&& 3689348814741910323)) + (((((zs - (((zs.toUInt64 >>> ((1 : Int32).toInt64.toUInt64 &&& Int64.toUInt64 63)).toInt64) &&& 6148914691236517205)) &&& 3689348814741910323) + ((((zs - (((zs.toUInt64 >>> ((1 : Int32).toInt64.toUInt64 &&& Int64.toUInt64 63)).toInt64) &&& 6148914691236517205)).toUInt64 >>> ((2 : Int32).toInt64.toUInt64 &&& Int64.toUInt64 63)).toInt64) &&& 3689348814741910323)).toUInt64 >>> ((4 : Int32).toInt64.toUInt64 &&& Int64.toUInt64 63)).toInt64)) &&& 1085102592571150095).toUInt64 >>> ((8 : Int32).toInt64.toUInt64 &&& Int64.toUInt64 63)).toInt64)).toUInt64 >>> ((16 : Int32).toInt64.toUInt64 &&& Int64.toUInt64 63)).toInt64)) + (((((((((zs - (((zs.toUInt64 >>> ((1 : Int32).toInt64.toUInt64 &&& Int64.toUInt64 63)).toInt64) &&& 6148914691236517205)) &&& 3689348814741910323) + ((((zs - (((zs.toUInt64 >>> ((1 : Int32).toInt64.toUInt64 &&& Int64.toUInt64 63)).toInt64) &&& 6148914691236517205)).toUInt64 >>> ((2 : Int32).toInt64.toUInt64 &&& Int64.toUInt64 63)).toInt64) &&& 3689348814741910323)) + (((((zs - (((zs.toUInt64 >>> ((1 : Int32).toInt64.toUInt64 &&& Int64.toUInt64 63)).toInt64) &&& 6148914691236517205)) &&& 3689348814741910323) + ((((zs - (((zs.toUInt64 >>> ((1 : Int32).toInt64.toUInt64 &&& Int64.toUInt64 63)).toInt64) &&& 6148914691236517205)).toUInt64 >>> ((2 : Int32).toInt64.toUInt64 &&& Int64.toUInt64 63)).toInt64) &&& 3689348814741910323)).toUInt64 >>> ((4 : Int32).toInt64.toUInt64 &&& Int64.toUInt64 63)).toInt64)) &&& 1085102592571150095) + (((((((zs - (((zs.toUInt64 >>> ((1 : Int32).toInt64.toUInt64 &&& Int64.toUInt64 63)).toInt64) &&& 6148914691236517205)) &&& 3689348814741910323) + ((((zs - (((zs.toUInt64 >>> ((1 : Int32).toInt64.toUInt64 &&& Int64.toUInt64 63)).toInt64) &&& 6148914691236517205)).toUInt64 >>> ((2 : Int32).toInt64.toUInt64 &&& Int64.toUInt64 63)).toInt64) &&& 3689348814741910323)) + (((((zs - (((zs.toUInt64 >>> ((1 : Int32).toInt64.toUInt64 &&& Int64.toUInt64 63)).toInt64) &&& 6148914691236517205)) &&& 3689348814741910323) + ((((zs - (((zs.toUInt64 >>> ((1 : Int32).toInt64.toUInt64 &&& Int64.toUInt64 63)).toInt64) &&& 6148914691236517205)).toUInt64 >>> ((2 : Int32).toInt64.toUInt64 &&& Int64.toUInt64 63)).toInt64) &&& 3689348814741910323)).toUInt64 >>> ((4 : Int32).toInt64.toUInt64 &&& Int64.toUInt64 63)).toInt64)) &&& 1085102592571150095).toUInt64 >>> ((8 : Int32).toInt64.toUInt64 &&& Int64.toUInt64 63)).toInt64)) + ((((((((zs - (((zs.toUInt64 >>> ((1 : Int32).toInt64.toUInt64 &&& Int64.toUInt64 63)).toInt64) &&& 6148914691236517205)) &&& 3689348814741910323) + ((((zs - (((zs.toUInt64 >>> ((1 : Int32).toInt64.toUInt64 &&& Int64.toUInt64 63)).toInt64) &&& 6148914691236517205)).toUInt64 >>> ((2 : Int32).toInt64.toUInt64 &&& Int64.toUInt64 63)).toInt64) &&& 3689348814741910323)) + (((((zs - (((zs.toUInt64 >>> ((1 : Int32).toInt64.toUInt64 &&& Int64.toUInt64 63)).toInt64) &&& 6148914691236517205)) &&& 3689348814741910323) + ((((zs - (((zs.toUInt64 >>> ((1 : Int32).toInt64.toUInt64 &&& Int64.toUInt64 63)).toInt64) &&& 6148914691236517205)).toUInt64 >>> ((2 : Int32).toInt64.toUInt64 &&& Int64.toUInt64 63)).toInt64) &&& 3689348814741910323)).toUInt64 >>> ((4 : Int32).toInt64.toUInt64 &&& Int64.toUInt64 63)).toInt64)) &&& 1085102592571150095) + (((((((zs - (((zs.toUInt64 >>> ((1 : Int32).toInt64.toUInt64 &&& Int64.toUInt64 63)).toInt64) &&& 6148914691236517205)) &&& 3689348814741910323) + ((((zs - (((zs.toUInt64 >>> ((1 : Int32).toInt64.toUInt64 &&& Int64.toUInt64 63)).toInt64) &&& 6148914691236517205)).toUInt64 >>> ((2 : Int32).toInt64.toUInt64 &&& Int64.toUInt64 63)).toInt64) &&& 3689348814741910323)) + (((((zs - (((zs.toUInt64 >>> ((1 : Int32).toInt64.toUInt64 &&& Int64.toUInt64 63)).toInt64) &&& 6148914691236517205)) &&& 3689348814741910323) + ((((zs - (((zs.toUInt64 >>> ((1 : Int32).toInt64.toUInt64 &&& Int64.toUInt64 63)).toInt64) &&& 6148914691236517205)).toUInt64 >>> ((2 : Int32).toInt64.toUInt64 &&& Int64.toUInt64 63)).toInt64) &&& 3689348814741910323)).toUInt64 >>> ((4 : Int32).toInt64.toUInt64 &&& Int64.toUInt64 63)).toInt64)) &&& 1085102592571150095).toUInt64 >>> ((8 : Int32).toInt64.toUInt64 &&& Int64.toUInt64 63)).toInt64)).toUInt64 >>> ((16 : Int32).toInt64.toUInt64 &&& Int64.toUInt64 63)).toInt64)).toUInt64 >>> ((32 : Int32).toInt64.toUInt64 &&& Int64.toUInt64 63)).toInt64)))]) hx hb d_lo_bitCount_54 rfl hl (by decide) rfl (fun ls hl => ?_)
  refine lv_lload_n hx hb d_lo_bitCount_55 rfl (lv_at hl 0 rfl) ?_
  refine lv_l2i (v := ((((((((zs - (((zs.toUInt64 >>> ((1 : Int32).toInt64.toUInt64 &&& Int64.toUInt64 63)).toInt64) &&& 6148914691236517205)) &&& 3689348814741910323) + ((((zs - (((zs.toUInt64 >>> ((1 : Int32).toInt64.toUInt64 &&& Int64.toUInt64 63)).toInt64) &&& 6148914691236517205)).toUInt64 >>> ((2 : Int32).toInt64.toUInt64 &&& Int64.toUInt64 63)).toInt64) &&& 3689348814741910323)) + (((((zs - (((zs.toUInt64 >>> ((1 : Int32).toInt64.toUInt64 &&& Int64.toUInt64 63)).toInt64) &&& 6148914691236517205)) &&& 3689348814741910323) + ((((zs - (((zs.toUInt64 >>> ((1 : Int32).toInt64.toUInt64 &&& Int64.toUInt64 63)).toInt64) &&& 6148914691236517205)).toUInt64 >>> ((2 : Int32).toInt64.toUInt64 &&& Int64.toUInt64 63)).toInt64) &&& 3689348814741910323)).toUInt64 >>> ((4 : Int32).toInt64.toUInt64 &&& Int64.toUInt64 63)).toInt64)) &&& 1085102592571150095) + (((((((zs - (((zs.toUInt64 >>> ((1 : Int32).toInt64.toUInt64 &&& Int64.toUInt64 63)).toInt64) &&& 6148914691236517205)) &&& 3689348814741910323) + ((((zs - (((zs.toUInt64 >>> ((1 : Int32).toInt64.toUInt64 &&& Int64.toUInt64 63)).toInt64) &&& 6148914691236517205)).toUInt64 >>> ((2 : Int32).toInt64.toUInt64 &&& Int64.toUInt64 63)).toInt64) &&& 3689348814741910323)) + (((((zs - (((zs.toUInt64 >>> ((1 : Int32).toInt64.toUInt64 &&& Int64.toUInt64 63)).toInt64) &&& 6148914691236517205)) &&& 3689348814741910323) + ((((zs - (((zs.toUInt64 >>> ((1 : Int32).toInt64.toUInt64 &&& Int64.toUInt64 63)).toInt64) &&& 6148914691236517205)).toUInt64 >>> ((2 : Int32).toInt64.toUInt64 &&& Int64.toUInt64 63)).toInt64) &&& 3689348814741910323)).toUInt64 >>> ((4 : Int32).toInt64.toUInt64 &&& Int64.toUInt64 63)).toInt64)) &&& 1085102592571150095).toUInt64 >>> ((8 : Int32).toInt64.toUInt64 &&& Int64.toUInt64 63)).toInt64)) + ((((((((zs - (((zs.toUInt64 >>> ((1 : Int32).toInt64.toUInt64 &&& Int64.toUInt64 63)).toInt64) &&& 6148914691236517205)) &&& 3689348814741910323) + ((((zs - (((zs.toUInt64 >>> ((1 : Int32).toInt64.toUInt64 &&& Int64.toUInt64 63)).toInt64) &&& 6148914691236517205)).toUInt64 >>> ((2 : Int32).toInt64.toUInt64 &&& Int64.toUInt64 63)).toInt64) &&& 3689348814741910323)) + (((((zs - (((zs.toUInt64 >>> ((1 : Int32).toInt64.toUInt64 &&& Int64.toUInt64 63)).toInt64) &&& 6148914691236517205)) &&& 3689348814741910323) + ((((zs - (((zs.toUInt64 >>> ((1 : Int32).toInt64.toUInt64 &&& Int64.toUInt64 63)).toInt64) &&& 6148914691236517205)).toUInt64 >>> ((2 : Int32).toInt64.toUInt64 &&& Int64.toUInt64 63)).toInt64) &&& 3689348814741910323)).toUInt64 >>> ((4 : Int32).toInt64.toUInt64 &&& Int64.toUInt64 63)).toInt64)) &&& 1085102592571150095) + (((((((zs - (((zs.toUInt64 >>> ((1 : Int32).toInt64.toUInt64 &&& Int64.toUInt64 63)).toInt64) &&& 6148914691236517205)) &&& 3689348814741910323) + ((((zs - (((zs.toUInt64 >>> ((1 : Int32).toInt64.toUInt64 &&& Int64.toUInt64 63)).toInt64) &&& 6148914691236517205)).toUInt64 >>> ((2 : Int32).toInt64.toUInt64 &&& Int64.toUInt64 63)).toInt64) &&& 3689348814741910323)) + (((((zs - (((zs.toUInt64 >>> ((1 : Int32).toInt64.toUInt64 &&& Int64.toUInt64 63)).toInt64) &&& 6148914691236517205)) &&& 3689348814741910323) + ((((zs - (((zs.toUInt64 >>> ((1 : Int32).toInt64.toUInt64 &&& Int64.toUInt64 63)).toInt64) &&& 6148914691236517205)).toUInt64 >>> ((2 : Int32).toInt64.toUInt64 &&& Int64.toUInt64 63)).toInt64) &&& 3689348814741910323)).toUInt64 >>> ((4 : Int32).toInt64.toUInt64 &&& Int64.toUInt64 63)).toInt64)) &&& 1085102592571150095).toUInt64 >>> ((8 : Int32).toInt64.toUInt64 &&& Int64.toUInt64 63)).toInt64)).toUInt64 >>> ((16 : Int32).toInt64.toUInt64 &&& Int64.toUInt64 63)).toInt64)) + (((((((((zs - (((zs.toUInt64 >>> ((1 : Int32).toInt64.toUInt64 &&& Int64.toUInt64 63)).toInt64) &&& 6148914691236517205)) &&& 3689348814741910323) + ((((zs - (((zs.toUInt64 >>> ((1 : Int32).toInt64.toUInt64 &&& Int64.toUInt64 63)).toInt64) &&& 6148914691236517205)).toUInt64 >>> ((2 : Int32).toInt64.toUInt64 &&& Int64.toUInt64 63)).toInt64) &&& 3689348814741910323)) + (((((zs - (((zs.toUInt64 >>> ((1 : Int32).toInt64.toUInt64 &&& Int64.toUInt64 63)).toInt64) &&& 6148914691236517205)) &&& 3689348814741910323) + ((((zs - (((zs.toUInt64 >>> ((1 : Int32).toInt64.toUInt64 &&& Int64.toUInt64 63)).toInt64) &&& 6148914691236517205)).toUInt64 >>> ((2 : Int32).toInt64.toUInt64 &&& Int64.toUInt64 63)).toInt64) &&& 3689348814741910323)).toUInt64 >>> ((4 : Int32).toInt64.toUInt64 &&& Int64.toUInt64 63)).toInt64)) &&& 1085102592571150095) + (((((((zs - (((zs.toUInt64 >>> ((1 : Int32).toInt64.toUInt64 &&& Int64.toUInt64 63)).toInt64) &&& 6148914691236517205)) &&& 3689348814741910323) + ((((zs - (((zs.toUInt64 >>> ((1 : Int32).toInt64.toUInt64 &&& Int64.toUInt64 63)).toInt64) &&& 6148914691236517205)).toUInt64 >>> ((2 : Int32).toInt64.toUInt64 &&& Int64.toUInt64 63)).toInt64) &&& 3689348814741910323)) + (((((zs - (((zs.toUInt64 >>> ((1 : Int32).toInt64.toUInt64 &&& Int64.toUInt64 63)).toInt64) &&& 6148914691236517205)) &&& 3689348814741910323) + ((((zs - (((zs.toUInt64 >>> ((1 : Int32).toInt64.toUInt64 &&& Int64.toUInt64 63)).toInt64) &&& 6148914691236517205)).toUInt64 >>> ((2 : Int32).toInt64.toUInt64 &&& Int64.toUInt64 63)).toInt64) &&& 3689348814741910323)).toUInt64 >>> ((4 : Int32).toInt64.toUInt64 &&& Int64.toUInt64 63)).toInt64)) &&& 1085102592571150095).toUInt64 >>> ((8 : Int32).toInt64.toUInt64 &&& Int64.toUInt64 63)).toInt64)) + ((((((((zs - (((zs.toUInt64 >>> ((1 : Int32).toInt64.toUInt64 &&& Int64.toUInt64 63)).toInt64) &&& 6148914691236517205)) &&& 3689348814741910323) + ((((zs - (((zs.toUInt64 >>> ((1 : Int32).toInt64.toUInt64 &&& Int64.toUInt64 63)).toInt64) &&& 6148914691236517205)).toUInt64 >>> ((2 : Int32).toInt64.toUInt64 &&& Int64.toUInt64 63)).toInt64) &&& 3689348814741910323)) + (((((zs - (((zs.toUInt64 >>> ((1 : Int32).toInt64.toUInt64 &&& Int64.toUInt64 63)).toInt64) &&& 6148914691236517205)) &&& 3689348814741910323) + ((((zs - (((zs.toUInt64 >>> ((1 : Int32).toInt64.toUInt64 &&& Int64.toUInt64 63)).toInt64) &&& 6148914691236517205)).toUInt64 >>> ((2 : Int32).toInt64.toUInt64 &&& Int64.toUInt64 63)).toInt64) &&& 3689348814741910323)).toUInt64 >>> ((4 : Int32).toInt64.toUInt64 &&& Int64.toUInt64 63)).toInt64)) &&& 1085102592571150095) + (((((((zs - (((zs.toUInt64 >>> ((1 : Int32).toInt64.toUInt64 &&& Int64.toUInt64 63)).toInt64) &&& 6148914691236517205)) &&& 3689348814741910323) + ((((zs - (((zs.toUInt64 >>> ((1 : Int32).toInt64.toUInt64 &&& Int64.toUInt64 63)).toInt64) &&& 6148914691236517205)).toUInt64 >>> ((2 : Int32).toInt64.toUInt64 &&& Int64.toUInt64 63)).toInt64) &&& 3689348814741910323)) + (((((zs - (((zs.toUInt64 >>> ((1 : Int32).toInt64.toUInt64 &&& Int64.toUInt64 63)).toInt64) &&& 6148914691236517205)) &&& 3689348814741910323) + ((((zs - (((zs.toUInt64 >>> ((1 : Int32).toInt64.toUInt64 &&& Int64.toUInt64 63)).toInt64) &&& 6148914691236517205)).toUInt64 >>> ((2 : Int32).toInt64.toUInt64 &&& Int64.toUInt64 63)).toInt64) &&& 3689348814741910323)).toUInt64 >>> ((4 : Int32).toInt64.toUInt64 &&& Int64.toUInt64 63)).toInt64)) &&& 1085102592571150095).toUInt64 >>> ((8 : Int32).toInt64.toUInt64 &&& Int64.toUInt64 63)).toInt64)).toUInt64 >>> ((16 : Int32).toInt64.toUInt64 &&& Int64.toUInt64 63)).toInt64)).toUInt64 >>> ((32 : Int32).toInt64.toUInt64 &&& Int64.toUInt64 63)).toInt64)).toInt32) hx hb d_lo_bitCount_56 rfl ?_
  refine lv_bipush (v := 127) hx hb d_lo_bitCount_57 (by decide) ?_
  refine lv_iand hx hb d_lo_bitCount_59 ?_
  exact ro_iret FX (by rw [f_lo_bitCount]) d_lo_bitCount_60
theorem d_x_isNumber_0 : decode b_x_isNumber 0 = .ok (.iload_n 0, 1) := by decide +kernel
theorem d_x_isNumber_1 : decode b_x_isNumber 1 = .ok (.ifCond .lt 13, 3) := by decide +kernel
theorem d_x_isNumber_4 : decode b_x_isNumber 4 = .ok (.iload_n 0, 1) := by decide +kernel
theorem d_x_isNumber_5 : decode b_x_isNumber 5 = .ok (.bipush 40, 2) := by decide +kernel
theorem d_x_isNumber_7 : decode b_x_isNumber 7 = .ok (.if_icmp .ge 7, 3) := by decide +kernel
theorem d_x_isNumber_10 : decode b_x_isNumber 10 = .ok (.iconst 1, 1) := by decide +kernel
theorem d_x_isNumber_11 : decode b_x_isNumber 11 = .ok (.goto 4, 3) := by decide +kernel
theorem d_x_isNumber_14 : decode b_x_isNumber 14 = .ok (.iconst 0, 1) := by decide +kernel
theorem d_x_isNumber_15 : decode b_x_isNumber 15 = .ok (.ireturn, 1) := by decide +kernel
def f_x_isNumber (nu : Int32) : Bool := if nu < 0 then
    (false)
  else
    (if 40 ≤ nu then
      (false)
    else
      (true))
set_option maxHeartbeats 4000000 in
set_option maxRecDepth 100000 in
theorem c_x_isNumber (l : Launch) (D : va_G) (cA : Nat → ClassId) (nu : Int32) : Met l y_x_isNumber (.code y_x_isNumber b_x_isNumber 1 (some .boolean) :: tb) (rmd 0) (Pro D cA [.int nu] (fun _ => True)) (Qro (.int (bz (f_x_isNumber nu)))) 0 0 nof := by
  refine ro_in (by decide) (Nat.le_of_ble_eq_true rfl) (fun p e s m below meth c ls FX hnm hK hP hl => ?_)
  have hl : lv_has ls 1 [(0, .int nu)] := hl
  generalize ([.int nu] : List Value).toArray = args at FX ⊢
  obtain ⟨hx, hb, hml, hown, hts, hr, hlk⟩ := id FX
  refine lv_iload_n hx hb d_x_isNumber_0 rfl (lv_at hl 0 rfl) ?_
  refine lv_if_lt (tgt := 14) hx hb d_x_isNumber_1 (by decide) (fun c1 => ?_) (fun c1 => ?_)
  · have c1 := c1
    refine lv_iconst (v := 0) hx hb d_x_isNumber_14 (by decide) ?_
    exact ro_zret FX (by rw [f_x_isNumber, if_pos c1] <;> rfl) d_x_isNumber_15
  · have c1 := c1
    refine lv_iload_n hx hb d_x_isNumber_4 rfl (lv_at hl 0 rfl) ?_
    refine lv_bipush (v := 40) hx hb d_x_isNumber_5 (by decide) ?_
    refine lv_icmp_ge (tgt := 14) hx hb d_x_isNumber_7 (by decide) (fun c2 => ?_) (fun c2 => ?_)
    · have c2 := c2
      refine lv_iconst (v := 0) hx hb d_x_isNumber_14 (by decide) ?_
      exact ro_zret FX (by rw [f_x_isNumber, if_neg c1, if_pos c2] <;> rfl) d_x_isNumber_15
    · have c2 := c2
      refine lv_iconst (v := 1) hx hb d_x_isNumber_10 (by decide) ?_
      refine lv_goto (tgt := 15) hx hb d_x_isNumber_11 (by decide) ?_
      exact ro_zret FX (by rw [f_x_isNumber, if_neg c1, if_neg c2] <;> rfl) d_x_isNumber_15
theorem d_x_only_0 : decode b_x_only 0 = .ok (.iload_n 0, 1) := by decide +kernel
theorem d_x_only_1 : decode b_x_only 1 = .ok (.invokestatic 130, 3) := by decide +kernel
theorem d_x_only_4 : decode b_x_only 4 = .ok (.ifCond .eq 9, 3) := by decide +kernel
theorem d_x_only_7 : decode b_x_only 7 = .ok (.lconst 1, 1) := by decide +kernel
theorem d_x_only_8 : decode b_x_only 8 = .ok (.iload_n 0, 1) := by decide +kernel
theorem d_x_only_9 : decode b_x_only 9 = .ok (.lshl, 1) := by decide +kernel
theorem d_x_only_10 : decode b_x_only 10 = .ok (.goto 4, 3) := by decide +kernel
theorem d_x_only_13 : decode b_x_only 13 = .ok (.lconst 0, 1) := by decide +kernel
theorem d_x_only_14 : decode b_x_only 14 = .ok (.lreturn, 1) := by decide +kernel
def f_x_only (nu : Int32) : Int64 := if (f_x_isNumber nu) = true then
    (1 <<< (nu.toInt64 &&& 63))
  else
    (0)
set_option maxHeartbeats 4000000 in
set_option maxRecDepth 100000 in
theorem c_x_only (l : Launch) (D : va_G) (cA : Nat → ClassId) (nu : Int32) : Met l y_x_only (.code y_x_only b_x_only 1 (some .long) :: tb) (rmd 1) (Pro D cA [.int nu] (fun _ => True)) (Qro (.long (f_x_only nu))) 0 0 nof := by
  refine ro_in (by decide) (Nat.le_of_ble_eq_true rfl) (fun p e s m below meth c ls FX hnm hK hP hl => ?_)
  have hl : lv_has ls 1 [(0, .int nu)] := hl
  generalize ([.int nu] : List Value).toArray = args at FX ⊢
  obtain ⟨hx, hb, hml, hown, hts, hr, hlk⟩ := id FX
  refine lv_iload_n hx hb d_x_only_0 rfl (lv_at hl 0 rfl) ?_
  refine ro_S (v := .int (bz (f_x_isNumber nu))) (As := [.int nu]) (rest := []) FX hK (c_x_isNumber l D cA nu) trivial kc_x_isNumber km_x_130 ki_x ks_x_isNumber rfl ok_x_isNumber ⟨Nat.le_of_ble_eq_true rfl, Nat.le_of_ble_eq_true rfl⟩ ⟨Nat.zero_le _, Nat.zero_le _⟩ hl.1 rfl (Nat.le_of_ble_eq_true rfl) d_x_only_1 ?_
  refine lv_if_eq (tgt := 13) hx hb d_x_only_4 (by decide) (fun c1 => ?_) (fun c1 => ?_)
  · have c1 := bz_f c1
    refine lv_lconst (v := 0) hx hb d_x_only_13 (by decide) ?_
    exact ro_lret FX (by rw [f_x_only, if_neg c1]) d_x_only_14
  · have c1 := bz_t c1
    refine lv_lconst (v := 1) hx hb d_x_only_7 (by decide) ?_
    refine lv_iload_n hx hb d_x_only_8 rfl (lv_at hl 0 rfl) ?_
    refine lv_lshl (v := 1 <<< (nu.toInt64 &&& 63)) hx hb d_x_only_9 rfl ?_
    refine lv_goto (tgt := 14) hx hb d_x_only_10 (by decide) ?_
    exact ro_lret FX (by rw [f_x_only, if_pos c1]) d_x_only_14
theorem d_x_contains_0 : decode b_x_contains 0 = .ok (.iload_n 2, 1) := by decide +kernel
theorem d_x_contains_1 : decode b_x_contains 1 = .ok (.invokestatic 130, 3) := by decide +kernel
theorem d_x_contains_4 : decode b_x_contains 4 = .ok (.ifCond .eq 17, 3) := by decide +kernel
theorem d_x_contains_7 : decode b_x_contains 7 = .ok (.lload_n 0, 1) := by decide +kernel
theorem d_x_contains_8 : decode b_x_contains 8 = .ok (.iload_n 2, 1) := by decide +kernel
theorem d_x_contains_9 : decode b_x_contains 9 = .ok (.lushr, 1) := by decide +kernel
theorem d_x_contains_10 : decode b_x_contains 10 = .ok (.lconst 1, 1) := by decide +kernel
theorem d_x_contains_11 : decode b_x_contains 11 = .ok (.land, 1) := by decide +kernel
theorem d_x_contains_12 : decode b_x_contains 12 = .ok (.lconst 0, 1) := by decide +kernel
theorem d_x_contains_13 : decode b_x_contains 13 = .ok (.lcmp, 1) := by decide +kernel
theorem d_x_contains_14 : decode b_x_contains 14 = .ok (.ifCond .eq 7, 3) := by decide +kernel
theorem d_x_contains_17 : decode b_x_contains 17 = .ok (.iconst 1, 1) := by decide +kernel
theorem d_x_contains_18 : decode b_x_contains 18 = .ok (.goto 4, 3) := by decide +kernel
theorem d_x_contains_21 : decode b_x_contains 21 = .ok (.iconst 0, 1) := by decide +kernel
theorem d_x_contains_22 : decode b_x_contains 22 = .ok (.ireturn, 1) := by decide +kernel
def f_x_contains (zs : Int64) (nu : Int32) : Bool := if (f_x_isNumber nu) = true then
    (if (((zs.toUInt64 >>> (nu.toInt64.toUInt64 &&& Int64.toUInt64 63)).toInt64) &&& 1) = 0 then
      (false)
    else
      (true))
  else
    (false)
set_option maxHeartbeats 4000000 in
set_option maxRecDepth 100000 in
theorem c_x_contains (l : Launch) (D : va_G) (cA : Nat → ClassId) (zs : Int64) (nu : Int32) : Met l y_x_contains (.code y_x_contains b_x_contains 3 (some .boolean) :: tb) (rmd 1) (Pro D cA [.long zs, .int nu] (fun _ => True)) (Qro (.int (bz (f_x_contains zs nu)))) 0 0 nof := by
  refine ro_in (by decide) (Nat.le_of_ble_eq_true rfl) (fun p e s m below meth c ls FX hnm hK hP hl => ?_)
  have hl : lv_has ls 3 [(0, .long zs), (2, .int nu)] := hl
  generalize ([.long zs, .int nu] : List Value).toArray = args at FX ⊢
  obtain ⟨hx, hb, hml, hown, hts, hr, hlk⟩ := id FX
  refine lv_iload_n hx hb d_x_contains_0 rfl (lv_at hl 1 rfl) ?_
  refine ro_S (v := .int (bz (f_x_isNumber nu))) (As := [.int nu]) (rest := []) FX hK (c_x_isNumber l D cA nu) trivial kc_x_isNumber km_x_130 ki_x ks_x_isNumber rfl ok_x_isNumber ⟨Nat.le_of_ble_eq_true rfl, Nat.le_of_ble_eq_true rfl⟩ ⟨Nat.zero_le _, Nat.zero_le _⟩ hl.1 rfl (Nat.le_of_ble_eq_true rfl) d_x_contains_1 ?_
  refine lv_if_eq (tgt := 21) hx hb d_x_contains_4 (by decide) (fun c1 => ?_) (fun c1 => ?_)
  · have c1 := bz_f c1
    refine lv_iconst (v := 0) hx hb d_x_contains_21 (by decide) ?_
    exact ro_zret FX (by rw [f_x_contains, if_neg c1] <;> rfl) d_x_contains_22
  · have c1 := bz_t c1
    refine lv_lload_n hx hb d_x_contains_7 rfl (lv_at hl 0 rfl) ?_
    refine lv_iload_n hx hb d_x_contains_8 rfl (lv_at hl 1 rfl) ?_
    refine lv_lushr (v := (zs.toUInt64 >>> (nu.toInt64.toUInt64 &&& Int64.toUInt64 63)).toInt64) hx hb d_x_contains_9 rfl ?_
    refine lv_lconst (v := 1) hx hb d_x_contains_10 (by decide) ?_
    refine lv_land hx hb d_x_contains_11 ?_
    refine lv_lconst (v := 0) hx hb d_x_contains_12 (by decide) ?_
    refine W.lcmp hx hb d_x_contains_13 ?_
    refine lv_if_eq (tgt := 21) hx hb d_x_contains_14 (by decide) (fun c2 => ?_) (fun c2 => ?_)
    · have c2 := cp_eq c2
      refine lv_iconst (v := 0) hx hb d_x_contains_21 (by decide) ?_
      exact ro_zret FX (by rw [f_x_contains, if_pos c1, if_pos c2] <;> rfl) d_x_contains_22
    · have c2 := cp_ne c2
      refine lv_iconst (v := 1) hx hb d_x_contains_17 (by decide) ?_
      refine lv_goto (tgt := 22) hx hb d_x_contains_18 (by decide) ?_
      exact ro_zret FX (by rw [f_x_contains, if_pos c1, if_neg c2] <;> rfl) d_x_contains_22
theorem d_x_isFlake_0 : decode b_x_isFlake 0 = .ok (.iload_n 1, 1) := by decide +kernel
theorem d_x_isFlake_1 : decode b_x_isFlake 1 = .ok (.iconst 1, 1) := by decide +kernel
theorem d_x_isFlake_2 : decode b_x_isFlake 2 = .ok (.if_icmp .lt 22, 3) := by decide +kernel
theorem d_x_isFlake_5 : decode b_x_isFlake 5 = .ok (.iload_n 1, 1) := by decide +kernel
theorem d_x_isFlake_6 : decode b_x_isFlake 6 = .ok (.bipush 9, 2) := by decide +kernel
theorem d_x_isFlake_8 : decode b_x_isFlake 8 = .ok (.if_icmp .gt 16, 3) := by decide +kernel
theorem d_x_isFlake_11 : decode b_x_isFlake 11 = .ok (.iload_n 0, 1) := by decide +kernel
theorem d_x_isFlake_12 : decode b_x_isFlake 12 = .ok (.ifCond .lt 12, 3) := by decide +kernel
theorem d_x_isFlake_15 : decode b_x_isFlake 15 = .ok (.iload_n 0, 1) := by decide +kernel
theorem d_x_isFlake_16 : decode b_x_isFlake 16 = .ok (.iload_n 1, 1) := by decide +kernel
theorem d_x_isFlake_17 : decode b_x_isFlake 17 = .ok (.if_icmp .ge 7, 3) := by decide +kernel
theorem d_x_isFlake_20 : decode b_x_isFlake 20 = .ok (.iconst 1, 1) := by decide +kernel
theorem d_x_isFlake_21 : decode b_x_isFlake 21 = .ok (.goto 4, 3) := by decide +kernel
theorem d_x_isFlake_24 : decode b_x_isFlake 24 = .ok (.iconst 0, 1) := by decide +kernel
theorem d_x_isFlake_25 : decode b_x_isFlake 25 = .ok (.ireturn, 1) := by decide +kernel
def f_x_isFlake (pp : Int32) (qq : Int32) : Bool := if qq < 1 then
    (false)
  else
    (if 9 < qq then
      (false)
    else
      (if pp < 0 then
        (false)
      else
        (if qq ≤ pp then
          (false)
        else
          (true))))
set_option maxHeartbeats 4000000 in
set_option maxRecDepth 100000 in
theorem c_x_isFlake (l : Launch) (D : va_G) (cA : Nat → ClassId) (pp : Int32) (qq : Int32) : Met l y_x_isFlake (.code y_x_isFlake b_x_isFlake 2 (some .boolean) :: tb) (rmd 0) (Pro D cA [.int pp, .int qq] (fun _ => True)) (Qro (.int (bz (f_x_isFlake pp qq)))) 0 0 nof := by
  refine ro_in (by decide) (Nat.le_of_ble_eq_true rfl) (fun p e s m below meth c ls FX hnm hK hP hl => ?_)
  have hl : lv_has ls 2 [(0, .int pp), (1, .int qq)] := hl
  generalize ([.int pp, .int qq] : List Value).toArray = args at FX ⊢
  obtain ⟨hx, hb, hml, hown, hts, hr, hlk⟩ := id FX
  refine lv_iload_n hx hb d_x_isFlake_0 rfl (lv_at hl 1 rfl) ?_
  refine lv_iconst (v := 1) hx hb d_x_isFlake_1 (by decide) ?_
  refine lv_icmp_lt (tgt := 24) hx hb d_x_isFlake_2 (by decide) (fun c1 => ?_) (fun c1 => ?_)
  · have c1 := c1
    refine lv_iconst (v := 0) hx hb d_x_isFlake_24 (by decide) ?_
    exact ro_zret FX (by rw [f_x_isFlake, if_pos c1] <;> rfl) d_x_isFlake_25
  · have c1 := c1
    refine lv_iload_n hx hb d_x_isFlake_5 rfl (lv_at hl 1 rfl) ?_
    refine lv_bipush (v := 9) hx hb d_x_isFlake_6 (by decide) ?_
    refine lv_icmp_gt (tgt := 24) hx hb d_x_isFlake_8 (by decide) (fun c2 => ?_) (fun c2 => ?_)
    · have c2 := c2
      refine lv_iconst (v := 0) hx hb d_x_isFlake_24 (by decide) ?_
      exact ro_zret FX (by rw [f_x_isFlake, if_neg c1, if_pos c2] <;> rfl) d_x_isFlake_25
    · have c2 := c2
      refine lv_iload_n hx hb d_x_isFlake_11 rfl (lv_at hl 0 rfl) ?_
      refine lv_if_lt (tgt := 24) hx hb d_x_isFlake_12 (by decide) (fun c3 => ?_) (fun c3 => ?_)
      · have c3 := c3
        refine lv_iconst (v := 0) hx hb d_x_isFlake_24 (by decide) ?_
        exact ro_zret FX (by rw [f_x_isFlake, if_neg c1, if_neg c2, if_pos c3] <;> rfl) d_x_isFlake_25
      · have c3 := c3
        refine lv_iload_n hx hb d_x_isFlake_15 rfl (lv_at hl 0 rfl) ?_
        refine lv_iload_n hx hb d_x_isFlake_16 rfl (lv_at hl 1 rfl) ?_
        refine lv_icmp_ge (tgt := 24) hx hb d_x_isFlake_17 (by decide) (fun c4 => ?_) (fun c4 => ?_)
        · have c4 := c4
          refine lv_iconst (v := 0) hx hb d_x_isFlake_24 (by decide) ?_
          exact ro_zret FX (by rw [f_x_isFlake, if_neg c1, if_neg c2, if_neg c3, if_pos c4] <;> rfl) d_x_isFlake_25
        · have c4 := c4
          refine lv_iconst (v := 1) hx hb d_x_isFlake_20 (by decide) ?_
          refine lv_goto (tgt := 25) hx hb d_x_isFlake_21 (by decide) ?_
          exact ro_zret FX (by rw [f_x_isFlake, if_neg c1, if_neg c2, if_neg c3, if_neg c4] <;> rfl) d_x_isFlake_25
theorem d_x_isSure_0 : decode b_x_isSure 0 = .ok (.iload_n 0, 1) := by decide +kernel
theorem d_x_isSure_1 : decode b_x_isSure 1 = .ok (.bipush 51, 2) := by decide +kernel
theorem d_x_isSure_3 : decode b_x_isSure 3 = .ok (.if_icmp .lt 13, 3) := by decide +kernel
theorem d_x_isSure_6 : decode b_x_isSure 6 = .ok (.iload_n 0, 1) := by decide +kernel
theorem d_x_isSure_7 : decode b_x_isSure 7 = .ok (.bipush 100, 2) := by decide +kernel
theorem d_x_isSure_9 : decode b_x_isSure 9 = .ok (.if_icmp .gt 7, 3) := by decide +kernel
theorem d_x_isSure_12 : decode b_x_isSure 12 = .ok (.iconst 1, 1) := by decide +kernel
theorem d_x_isSure_13 : decode b_x_isSure 13 = .ok (.goto 4, 3) := by decide +kernel
theorem d_x_isSure_16 : decode b_x_isSure 16 = .ok (.iconst 0, 1) := by decide +kernel
theorem d_x_isSure_17 : decode b_x_isSure 17 = .ok (.ireturn, 1) := by decide +kernel
def f_x_isSure (nu : Int32) : Bool := if nu < 51 then
    (false)
  else
    (if 100 < nu then
      (false)
    else
      (true))
set_option maxHeartbeats 4000000 in
set_option maxRecDepth 100000 in
theorem c_x_isSure (l : Launch) (D : va_G) (cA : Nat → ClassId) (nu : Int32) : Met l y_x_isSure (.code y_x_isSure b_x_isSure 1 (some .boolean) :: tb) (rmd 0) (Pro D cA [.int nu] (fun _ => True)) (Qro (.int (bz (f_x_isSure nu)))) 0 0 nof := by
  refine ro_in (by decide) (Nat.le_of_ble_eq_true rfl) (fun p e s m below meth c ls FX hnm hK hP hl => ?_)
  have hl : lv_has ls 1 [(0, .int nu)] := hl
  generalize ([.int nu] : List Value).toArray = args at FX ⊢
  obtain ⟨hx, hb, hml, hown, hts, hr, hlk⟩ := id FX
  refine lv_iload_n hx hb d_x_isSure_0 rfl (lv_at hl 0 rfl) ?_
  refine lv_bipush (v := 51) hx hb d_x_isSure_1 (by decide) ?_
  refine lv_icmp_lt (tgt := 16) hx hb d_x_isSure_3 (by decide) (fun c1 => ?_) (fun c1 => ?_)
  · have c1 := c1
    refine lv_iconst (v := 0) hx hb d_x_isSure_16 (by decide) ?_
    exact ro_zret FX (by rw [f_x_isSure, if_pos c1] <;> rfl) d_x_isSure_17
  · have c1 := c1
    refine lv_iload_n hx hb d_x_isSure_6 rfl (lv_at hl 0 rfl) ?_
    refine lv_bipush (v := 100) hx hb d_x_isSure_7 (by decide) ?_
    refine lv_icmp_gt (tgt := 16) hx hb d_x_isSure_9 (by decide) (fun c2 => ?_) (fun c2 => ?_)
    · have c2 := c2
      refine lv_iconst (v := 0) hx hb d_x_isSure_16 (by decide) ?_
      exact ro_zret FX (by rw [f_x_isSure, if_neg c1, if_pos c2] <;> rfl) d_x_isSure_17
    · have c2 := c2
      refine lv_iconst (v := 1) hx hb d_x_isSure_12 (by decide) ?_
      refine lv_goto (tgt := 17) hx hb d_x_isSure_13 (by decide) ?_
      exact ro_zret FX (by rw [f_x_isSure, if_neg c1, if_neg c2] <;> rfl) d_x_isSure_17
/-! the class's own world: the object, its array of targets, the graph and its two arrays, and of each target the object and its weights. The addresses are ad 0 .. ad (4 + 2 nt). -/
abbrev GS : Type := (Nat → Int64) × (Nat → Int64) × Int32 × Int64 × Int64
abbrev TS : Type := Int64 × Int64 × Bool × Int32 × Int32 × Int32 × Int32 × Int32 × Int32 × (Nat → Int64)
def tvf (ad : Nat → Nat) (nt : Nat) : Nat → Option Nat := fun k => if k < nt then some (ad (5 + 2 * k)) else none
abbrev cX (cA : Nat → ClassId) (ad : Nat → Nat) (nt : Nat) (G : GS) : va_W := [(ad 0, .inr (0, [.ref (ad 2), .ref (ad 1), .int (nI nt)])), (ad 1, .inl (cA 1, 4, .inr (.inr (.inr (.inr (tvf ad nt)))))), (ad 2, .inr (1, [.ref (ad 3), .ref (ad 4), .int G.2.2.1, .long G.2.2.2.1, .long G.2.2.2.2])), (ad 3, .inl (cA 0, 40, .inr (.inl G.1))), (ad 4, .inl (cA 0, 40, .inr (.inl G.2.1)))]
abbrev cT (cA : Nat → ClassId) (ad : Nat → Nat) (j : Nat) (T : TS) : va_W := [(ad (5 + 2 * j), .inr (2, [.ref (ad 2), .ref (ad (6 + 2 * j)), .long T.1, .long T.2.1, .int (bz T.2.2.1), .int T.2.2.2.1, .int T.2.2.2.2.1, .int T.2.2.2.2.2.1, .int T.2.2.2.2.2.2.1, .int T.2.2.2.2.2.2.2.1, .int T.2.2.2.2.2.2.2.2.1])), (ad (6 + 2 * j), .inl (cA 0, 40, .inr (.inl T.2.2.2.2.2.2.2.2.2)))]
def WX (D : va_G) (cA : Nat → ClassId) (ad : Nat → Nat) (nt : Nat) (G : GS) (TT : Nat → TS) (H : Heap) : Prop := va_P D classes (cX cA ad nt G) H ∧ ∀ j, j < nt → va_P D classes (cT cA ad j (TT j)) H
/-- the addresses are apart -/
def adX (ad : Nat → Nat) (nt : Nat) : Prop := ∀ i j, i < 5 + 2 * nt → j < 5 + 2 * nt → ad i = ad j → i = j
/-- whose they are -/
def ox (ad : Nat → Nat) (nt : Nat) : Nat → Prop := fun q => ∃ i, i < 5 + 2 * nt ∧ q = ad i
def om {α : Type} (o : Option Nat) (a : α) (b : Nat → α) : α := match o with
  | none => a
  | some j => b j
theorem om_none {α : Type} {o : Option Nat} {a : α} {b : Nat → α} (h : o = none) : om o a b = a := by rw [h]; rfl
theorem om_some {α : Type} {o : Option Nat} {a : α} {b : Nat → α} {j : Nat} (h : o = some j) : om o a b = b j := by rw [h]; rfl
/-- where each cell of a list of addresses stands -/
theorem d_of {ws : va_W} (f : Nat → Nat) (h1 : ∀ (i : Nat) (q : Nat × va_E), ws[i]? = some q → ∀ (j : Nat) (r : Nat × va_E), ws[j]? = some r → q.1 = r.1 → i = j) : va_D (fun _ => True) ws := ⟨fun i j p q hp hq e => h1 i p hp j q hq e, fun _ _ _ => trivial⟩
theorem lst_d {ad : Nat → Nat} {n : Nat} (hinj : ∀ i j, i < n → j < n → ad i = ad j → i = j) {ws : va_W} (is : List Nat) (hl : ws.map Prod.fst = is.map ad) (hn : va_nd is = true) (hb : ∀ i ∈ is, i < n) : va_D (fun _ => True) ws := by
  refine ⟨fun i j p q hp hq e => ?_, fun _ _ _ => trivial⟩
  have hi : (ws.map Prod.fst)[i]? = some p.1 := by rw [List.getElem?_map, hp]; rfl
  have hj : (ws.map Prod.fst)[j]? = some q.1 := by rw [List.getElem?_map, hq]; rfl
  rw [hl, List.getElem?_map] at hi hj
  cases hi1 : is[i]? with
  | none => rw [hi1] at hi; cases hi
  | some a =>
    cases hj1 : is[j]? with
    | none => rw [hj1] at hj; cases hj
    | some b' =>
      rw [hi1] at hi; rw [hj1] at hj
      have ea : ad a = p.1 := Option.some.inj hi
      have eb : ad b' = q.1 := Option.some.inj hj
      have hab : a = b' := hinj a b' (hb a (List.mem_of_getElem? hi1)) (hb b' (List.mem_of_getElem? hj1)) (by rw [ea, eb, e])
      subst hab
      exact va_nd_inj is hn i j a hi1 hj1
theorem aw_iff {ws : va_W} {q : Nat} : aw ws q ↔ q ∈ ws.map Prod.fst := by
  constructor
  · rintro ⟨k, e, h⟩
    exact List.mem_map.mpr ⟨(q, e), List.mem_of_getElem? h, rfl⟩
  · intro h
    obtain ⟨⟨a, e⟩, h1, h2⟩ := List.mem_map.mp h
    obtain ⟨k, hk⟩ := List.getElem?_of_mem h1
    exact ⟨k, e, by rw [hk]; cases h2; rfl⟩
theorem S_mono {A B : Nat → Prop} {H0 H : Heap} {locs : List Loc} (h : va_S A H0 H locs) (hAB : ∀ q, A q → B q) : va_S B H0 H locs := ⟨h.1, fun q h1 h2 => h.2.1 q h1 (fun z => h2 (hAB q z)), fun l hl => hAB _ (h.2.2 l hl)⟩
theorem ox_7 {cA : Nat → ClassId} {ad : Nat → Nat} {nt j : Nat} (hj : j < nt) {T : TS} {G : GS} : ∀ q, aw (cT cA ad j T ++ cX cA ad nt G) q → ox ad nt q := by
  intro q h
  rw [aw_iff] at h
  simp only [List.map_append, List.map_cons, List.map_nil, List.cons_append, List.nil_append, List.mem_cons, List.not_mem_nil, or_false] at h
  rcases h with h | h | h | h | h | h | h
  · exact ⟨5 + 2 * j, by omega, h⟩
  · exact ⟨6 + 2 * j, by omega, h⟩
  · exact ⟨0, by omega, h⟩
  · exact ⟨1, by omega, h⟩
  · exact ⟨2, by omega, h⟩
  · exact ⟨3, by omega, h⟩
  · exact ⟨4, by omega, h⟩
theorem ox_5 {cA : Nat → ClassId} {ad : Nat → Nat} {nt : Nat} {G : GS} : ∀ q, aw (cX cA ad nt G) q → ox ad nt q := by
  intro q h
  rw [aw_iff] at h
  simp only [List.map_cons, List.map_nil, List.mem_cons, List.not_mem_nil, or_false] at h
  rcases h with h | h | h | h | h
  · exact ⟨0, by omega, h⟩
  · exact ⟨1, by omega, h⟩
  · exact ⟨2, by omega, h⟩
  · exact ⟨3, by omega, h⟩
  · exact ⟨4, by omega, h⟩
theorem wx_d7 {cA : Nat → ClassId} {ad : Nat → Nat} {nt j : Nat} (hinj : adX ad nt) (hj : j < nt) {T : TS} {G : GS} : va_D (fun _ => True) (cT cA ad j T ++ cX cA ad nt G) := by
  refine ⟨fun a b' p q hp hq e => ?_, fun _ _ _ => trivial⟩
  have key : ∀ (k : Nat) (r : Nat × va_E), (cT cA ad j T ++ cX cA ad nt G)[k]? = some r → r.1 = ad (if k < 2 then 5 + 2 * j + k else k - 2) ∧ k < 7 := by
    intro k r hr
    match k, hr with
    | 0, hr => cases hr; exact ⟨rfl, by omega⟩
    | 1, hr => cases hr; exact ⟨by simp; congr 1; omega, by omega⟩
    | 2, hr => cases hr; exact ⟨rfl, by omega⟩
    | 3, hr => cases hr; exact ⟨rfl, by omega⟩
    | 4, hr => cases hr; exact ⟨rfl, by omega⟩
    | 5, hr => cases hr; exact ⟨rfl, by omega⟩
    | 6, hr => cases hr; exact ⟨rfl, by omega⟩
    | k + 7, hr => simp at hr
  obtain ⟨e1, h1⟩ := key a p hp
  obtain ⟨e2, h2⟩ := key b' q hq
  rw [e1, e2] at e
  have h3 := hinj _ _ (by split <;> omega) (by split <;> omega) e
  split at h3 <;> split at h3 <;> omega
theorem wx_d5 {cA : Nat → ClassId} {ad : Nat → Nat} {nt : Nat} (hinj : adX ad nt) {G : GS} : va_D (fun _ => True) (cX cA ad nt G) := lst_d hinj [0, 1, 2, 3, 4] rfl rfl (fun i hi => by simp at hi; omega)
/-- behind a method that changed a target's cells, or the graph's -/
theorem wx_put7 {D : va_G} {cA : Nat → ClassId} {ad : Nat → Nat} {nt j : Nat} {G G' : GS} {TT : Nat → TS} {T' : TS} {H0 H : Heap} {locs : List Loc} {A : Nat → Prop} (hW : WX D cA ad nt G TT H0) (hinj : adX ad nt) (hj : j < nt) (hA : A = aw (cT cA ad j (TT j) ++ cX cA ad nt G)) (hS : va_S A H0 H locs) (hP : va_P D classes (cT cA ad j T' ++ cX cA ad nt G') H) : WX D cA ad nt G' (va_up TT j T') H := by
  subst hA
  refine ⟨hP.sub [2, 3, 4, 5, 6] rfl, fun k hk => ?_⟩
  by_cases hkj : k = j
  · subst hkj
    rw [va_up_self]
    exact hP.sub [0, 1] rfl
  · rw [va_up_ne _ _ hkj]
    refine (hW.2 k hk).kept (fun a q hq => ?_)
    have hq0 := (hW.2 k hk a q hq).lt
    refine hS.2.1 q.1 hq0 (fun h => ?_)
    have e : ∃ i, (i = 5 + 2 * k ∨ i = 6 + 2 * k) ∧ q.1 = ad i := by
      match a, hq with
      | 0, hq => cases hq; exact ⟨_, Or.inl rfl, rfl⟩
      | 1, hq => cases hq; exact ⟨_, Or.inr rfl, rfl⟩
      | a + 2, hq => simp at hq
    obtain ⟨i, hi, e⟩ := e
    rw [aw_iff] at h
    simp only [List.map_append, List.map_cons, List.map_nil, List.cons_append, List.nil_append, List.mem_cons, List.not_mem_nil, or_false] at h
    rw [e] at h
    rcases h with h | h | h | h | h | h | h <;> have h2 := hinj _ _ (by omega) (by omega) h <;> omega
theorem wx_put5 {D : va_G} {cA : Nat → ClassId} {ad : Nat → Nat} {nt : Nat} {G G' : GS} {TT : Nat → TS} {H0 H : Heap} {locs : List Loc} {A : Nat → Prop} (hW : WX D cA ad nt G TT H0) (hinj : adX ad nt) (hA : A = aw (cX cA ad nt G)) (hS : va_S A H0 H locs) (hP : va_P D classes (cX cA ad nt G') H) : WX D cA ad nt G' TT H := by
  subst hA
  refine ⟨hP, fun k hk => ?_⟩
  refine (hW.2 k hk).kept (fun a q hq => ?_)
  have hq0 := (hW.2 k hk a q hq).lt
  refine hS.2.1 q.1 hq0 (fun h => ?_)
  have e : ∃ i, (i = 5 + 2 * k ∨ i = 6 + 2 * k) ∧ q.1 = ad i := by
    match a, hq with
    | 0, hq => cases hq; exact ⟨_, Or.inl rfl, rfl⟩
    | 1, hq => cases hq; exact ⟨_, Or.inr rfl, rfl⟩
    | a + 2, hq => simp at hq
  obtain ⟨i, hi, e⟩ := e
  rw [aw_iff] at h
  simp only [List.map_cons, List.map_nil, List.mem_cons, List.not_mem_nil, or_false] at h
  rw [e] at h
  rcases h with h | h | h | h | h <;> have h2 := hinj _ _ (by omega) (by omega) h <;> omega
theorem num_nI {x : Int32} (h : f_x_isNumber x = true) : ∃ j : Nat, j < 40 ∧ x = nI j := by
  unfold f_x_isNumber at h
  by_cases h0 : x < 0
  · rw [if_pos h0] at h; cases h
  · rw [if_neg h0] at h
    by_cases h1 : (40 : Int32) ≤ x
    · rw [if_pos h1] at h; cases h
    · exact in_nI h0 h1
theorem vin2 {x : Int32} (h0 : ¬ x < 0) (h1 : ¬ (40 : Int32) ≤ x) : vp_in x 40 := by
  obtain ⟨j, hj, e⟩ := in_nI h0 h1
  exact vin e hj (by decide)
theorem in_nI2 {x : Int32} (h0 : ¬ x < 0) (h1 : x < 40) : ∃ j : Nat, j < 40 ∧ x = nI j := in_nI h0 (Int32.not_le.mpr h1)
theorem vin3 {x : Int32} (h0 : ¬ x < 0) (h1 : x < 4) : vp_in x 4 := by
  obtain ⟨j, hj, e⟩ := nI_of h0
  have h2 : j < 4 := k_lt e (rfl : (4 : Int32) = nI 4) (Int32.not_le.mpr h1) hj
  exact vin e h2 (by decide)
theorem tvf_at {ad : Nat → Nat} {nt : Nat} {nu : Int32} (hnt : nt ≤ 4) (h0 : ¬ nu < 0) (h1 : ¬ nI nt ≤ nu) : tvf ad nt nu.toNatClampNeg = some (ad (5 + 2 * nu.toNatClampNeg)) := by
  obtain ⟨j, hj, e⟩ := nI_of h0
  have h2 : j < nt := k_lt e rfl h1 hj
  subst e
  rw [nI_clamp hj]
  unfold tvf
  rw [if_pos h2]
end
section
theorem d_g_init_0 : decode b_g_init 0 = .ok (.aload_n 0, 1) := by decide +kernel
theorem d_g_init_1 : decode b_g_init 1 = .ok (.invokespecial 3, 3) := by decide +kernel
theorem d_g_init_4 : decode b_g_init 4 = .ok (.aload_n 0, 1) := by decide +kernel
theorem d_g_init_5 : decode b_g_init 5 = .ok (.bipush 40, 2) := by decide +kernel
theorem d_g_init_7 : decode b_g_init 7 = .ok (.newarray .long, 2) := by decide +kernel
theorem d_g_init_9 : decode b_g_init 9 = .ok (.putfield 9, 3) := by decide +kernel
theorem d_g_init_12 : decode b_g_init 12 = .ok (.aload_n 0, 1) := by decide +kernel
theorem d_g_init_13 : decode b_g_init 13 = .ok (.bipush 40, 2) := by decide +kernel
theorem d_g_init_15 : decode b_g_init 15 = .ok (.newarray .long, 2) := by decide +kernel
theorem d_g_init_17 : decode b_g_init 17 = .ok (.putfield 15, 3) := by decide +kernel
theorem d_g_init_20 : decode b_g_init 20 = .ok (.aload_n 0, 1) := by decide +kernel
theorem d_g_init_21 : decode b_g_init 21 = .ok (.iconst 0, 1) := by decide +kernel
theorem d_g_init_22 : decode b_g_init 22 = .ok (.putfield 18, 3) := by decide +kernel
theorem d_g_init_25 : decode b_g_init 25 = .ok (.aload_n 0, 1) := by decide +kernel
theorem d_g_init_26 : decode b_g_init 26 = .ok (.lconst 0, 1) := by decide +kernel
theorem d_g_init_27 : decode b_g_init 27 = .ok (.putfield 22, 3) := by decide +kernel
theorem d_g_init_30 : decode b_g_init 30 = .ok (.aload_n 0, 1) := by decide +kernel
theorem d_g_init_31 : decode b_g_init 31 = .ok (.lconst 0, 1) := by decide +kernel
theorem d_g_init_32 : decode b_g_init 32 = .ok (.putfield 26, 3) := by decide +kernel
theorem d_g_init_35 : decode b_g_init 35 = .ok (.return_, 1) := by decide +kernel
set_option maxHeartbeats 4000000 in
set_option maxRecDepth 100000 in
theorem c_g_init (l : Launch) (D : va_G) (cA : Nat → ClassId) (g : Nat) (sz : Nat) : Met l y_g_init (.code y_g_init b_g_init 1 none :: tb) (rma 1 2 80) (Pro D cA [.ref g] (fun H0 => H0.size = sz ∧ va_P D classes [(g, .inr (1, [.null, .null, .int 0, .long 0, .long 0]))] H0 ∧ va_D (fun _ => True) [(g, .inr (1, [.null, .null, .int 0, .long 0, .long 0]))])) (Qmu (va_A [(g, .inr (1, [.null, .null, .int 0, .long 0, .long 0]))] sz) (fun v0 H0 => v0 = none ∧ ∃ n0 n1 : Nat, va_P D classes [(g, .inr (1, [.ref n0, .ref n1, .int 0, .long 0, .long 0])), (n0, .inl (cA 0, 40, .inr (.inl (fun _ => 0)))), (n1, .inl (cA 0, 40, .inr (.inl (fun _ => 0))))] H0 ∧ va_D (va_A [(g, .inr (1, [.null, .null, .int 0, .long 0, .long 0]))] sz) [(g, .inr (1, [.ref n0, .ref n1, .int 0, .long 0, .long 0])), (n0, .inl (cA 0, 40, .inr (.inl (fun _ => 0)))), (n1, .inl (cA 0, 40, .inr (.inl (fun _ => 0))))])) 2 80 (va_A [(g, .inr (1, [.null, .null, .int 0, .long 0, .long 0]))] sz) := by
  refine ro_in (by decide) (Nat.le_of_ble_eq_true rfl) (fun p e s m below meth c ls FX hnm hK hP hl => ?_)
  have hl : lv_has ls 1 [(0, .ref g)] := hl
  obtain ⟨hsz, hP, hD0⟩ := hP
  subst hsz
  have hP : va_P D classes [(g, .inr (1, [.null, .null, .int 0, .long 0, .long 0]))] s.heap := hP
  have hD := hD0.self (sz := s.heap.size)
  generalize hAe : va_A [(g, .inr (1, [.null, .null, .int 0, .long 0, .long 0]))] s.heap.size = A at hD ⊢
  have hA : ∀ q : Nat, s.heap.size ≤ q → A q := fun q h => by rw [← hAe]; exact Or.inr h
  have hS : va_S A s.heap s.heap [] := va_S.rf
  generalize ([.ref g] : List Value).toArray = args at FX ⊢
  obtain ⟨hx, hb, hml, hown, hts, hr, hlk⟩ := id FX
  have hin : meth.name = "<init>" := hnm
  refine lv_aload_n hx hb d_g_init_0 rfl (lv_at hl 0 rfl) ?_
  refine W.objInit hx hb hown (hts _ km_g_3) (hts _ ks_objInit) (hts _ kc_objInit) rfl (by rw [hml]; exact hl.1) rfl d_g_init_1 (Nat.le_of_ble_eq_true rfl) (Nat.le_of_ble_eq_true rfl) ?_
  refine W.eq (g2 := F0 m 4 ls []) rfl ?_
  refine lv_aload_n hx hb d_g_init_4 rfl (lv_at hl 0 rfl) ?_
  refine lv_bipush (v := 40) hx hb d_g_init_5 (by decide) ?_
  refine va_newa (atype := .long) (ty := .long) (a0 := (40, .inr (.inl (fun _ => 0)))) hx hb (hts _ ka_long) rfl hK.1 hP hD hS hA (fun _ => rfl) (by decide) rfl (by decide) (Nat.le_of_ble_eq_true rfl) (Nat.le_of_ble_eq_true rfl) d_g_init_7 (fun q1 cL H hKK hP hD hS => ?_)
  obtain rfl := arr_same 0 rfl hK hKK (fun _ _ => ra_prim (fun _ h => by cases h))
  have hP : va_P D classes [(g, .inr (1, [.null, .null, .int 0, .long 0, .long 0])), (q1, .inl (cA 0, 40, .inr (.inl (fun _ => 0))))] H := hP
  have hD : va_D A [(g, .inr (1, [.null, .null, .int 0, .long 0, .long 0])), (q1, .inl (cA 0, 40, .inr (.inl (fun _ => 0))))] := hD
  refine va_putF (D := D) (v := .ref q1) (ty := (.array .long)) hx hb hts i_g t_g t_g_ok n_g hown hK.1 hP hD hS 0 rfl rfl 0 (by decide) (hts _ kf_g_9) (fun _ h9 => h9) rfl hin rfl (by decide +kernel) rfl rfl (Nat.le_of_ble_eq_true rfl) d_g_init_9 (fun H locs hP hD hS => ?_)
  have hP : va_P D classes [(g, .inr (1, [.ref q1, .null, .int 0, .long 0, .long 0])), (q1, .inl (cA 0, 40, .inr (.inl (fun _ => 0))))] H := hP
  have hD : va_D A [(g, .inr (1, [.ref q1, .null, .int 0, .long 0, .long 0])), (q1, .inl (cA 0, 40, .inr (.inl (fun _ => 0))))] := hD
  refine lv_aload_n hx hb d_g_init_12 rfl (lv_at hl 0 rfl) ?_
  refine lv_bipush (v := 40) hx hb d_g_init_13 (by decide) ?_
  refine va_newa (atype := .long) (ty := .long) (a0 := (40, .inr (.inl (fun _ => 0)))) hx hb (hts _ ka_long) rfl hK.1 hP hD hS hA (fun _ => rfl) (by decide) rfl (by decide) (Nat.le_of_ble_eq_true rfl) (Nat.le_of_ble_eq_true rfl) d_g_init_15 (fun q2 cL H hKK hP hD hS => ?_)
  obtain rfl := arr_same 0 rfl hK hKK (fun _ _ => ra_prim (fun _ h => by cases h))
  have hP : va_P D classes [(g, .inr (1, [.ref q1, .null, .int 0, .long 0, .long 0])), (q1, .inl (cA 0, 40, .inr (.inl (fun _ => 0)))), (q2, .inl (cA 0, 40, .inr (.inl (fun _ => 0))))] H := hP
  have hD : va_D A [(g, .inr (1, [.ref q1, .null, .int 0, .long 0, .long 0])), (q1, .inl (cA 0, 40, .inr (.inl (fun _ => 0)))), (q2, .inl (cA 0, 40, .inr (.inl (fun _ => 0))))] := hD
  refine va_putF (D := D) (v := .ref q2) (ty := (.array .long)) hx hb hts i_g t_g t_g_ok n_g hown hK.1 hP hD hS 0 rfl rfl 1 (by decide) (hts _ kf_g_15) (fun _ h9 => h9) rfl hin rfl (by decide +kernel) rfl rfl (Nat.le_of_ble_eq_true rfl) d_g_init_17 (fun H locs hP hD hS => ?_)
  have hP : va_P D classes [(g, .inr (1, [.ref q1, .ref q2, .int 0, .long 0, .long 0])), (q1, .inl (cA 0, 40, .inr (.inl (fun _ => 0)))), (q2, .inl (cA 0, 40, .inr (.inl (fun _ => 0))))] H := hP
  have hD : va_D A [(g, .inr (1, [.ref q1, .ref q2, .int 0, .long 0, .long 0])), (q1, .inl (cA 0, 40, .inr (.inl (fun _ => 0)))), (q2, .inl (cA 0, 40, .inr (.inl (fun _ => 0))))] := hD
  refine lv_aload_n hx hb d_g_init_20 rfl (lv_at hl 0 rfl) ?_
  refine lv_iconst (v := 0) hx hb d_g_init_21 (by decide) ?_
  refine va_put (D := D) (v := .int 0) (ty := .int) hx hb hts i_g t_g t_g_ok n_g hown hK.1 hP hD hS 0 rfl rfl 2 (by decide) (hts _ kf_g_18) (fun _ h9 => h9) rfl (by decide +kernel) rfl rfl (Nat.le_of_ble_eq_true rfl) d_g_init_22 (fun H locs hP hD hS => ?_)
  have hP : va_P D classes [(g, .inr (1, [.ref q1, .ref q2, .int 0, .long 0, .long 0])), (q1, .inl (cA 0, 40, .inr (.inl (fun _ => 0)))), (q2, .inl (cA 0, 40, .inr (.inl (fun _ => 0))))] H := hP
  have hD : va_D A [(g, .inr (1, [.ref q1, .ref q2, .int 0, .long 0, .long 0])), (q1, .inl (cA 0, 40, .inr (.inl (fun _ => 0)))), (q2, .inl (cA 0, 40, .inr (.inl (fun _ => 0))))] := hD
  refine lv_aload_n hx hb d_g_init_25 rfl (lv_at hl 0 rfl) ?_
  refine lv_lconst (v := 0) hx hb d_g_init_26 (by decide) ?_
  refine va_put (D := D) (v := .long 0) (ty := .long) hx hb hts i_g t_g t_g_ok n_g hown hK.1 hP hD hS 0 rfl rfl 3 (by decide) (hts _ kf_g_22) (fun _ h9 => h9) rfl (by decide +kernel) rfl rfl (Nat.le_of_ble_eq_true rfl) d_g_init_27 (fun H locs hP hD hS => ?_)
  have hP : va_P D classes [(g, .inr (1, [.ref q1, .ref q2, .int 0, .long 0, .long 0])), (q1, .inl (cA 0, 40, .inr (.inl (fun _ => 0)))), (q2, .inl (cA 0, 40, .inr (.inl (fun _ => 0))))] H := hP
  have hD : va_D A [(g, .inr (1, [.ref q1, .ref q2, .int 0, .long 0, .long 0])), (q1, .inl (cA 0, 40, .inr (.inl (fun _ => 0)))), (q2, .inl (cA 0, 40, .inr (.inl (fun _ => 0))))] := hD
  refine lv_aload_n hx hb d_g_init_30 rfl (lv_at hl 0 rfl) ?_
  refine lv_lconst (v := 0) hx hb d_g_init_31 (by decide) ?_
  refine va_put (D := D) (v := .long 0) (ty := .long) hx hb hts i_g t_g t_g_ok n_g hown hK.1 hP hD hS 0 rfl rfl 4 (by decide) (hts _ kf_g_26) (fun _ h9 => h9) rfl (by decide +kernel) rfl rfl (Nat.le_of_ble_eq_true rfl) d_g_init_32 (fun H locs hP hD hS => ?_)
  have hP : va_P D classes [(g, .inr (1, [.ref q1, .ref q2, .int 0, .long 0, .long 0])), (q1, .inl (cA 0, 40, .inr (.inl (fun _ => 0)))), (q2, .inl (cA 0, 40, .inr (.inl (fun _ => 0))))] H := hP
  have hD : va_D A [(g, .inr (1, [.ref q1, .ref q2, .int 0, .long 0, .long 0])), (q1, .inl (cA 0, 40, .inr (.inl (fun _ => 0)))), (q2, .inl (cA 0, 40, .inr (.inl (fun _ => 0))))] := hD
  have hP : va_P D classes [(g, .inr (1, [.ref q1, .ref q2, .int 0, .long 0, .long 0])), (q1, .inl (cA 0, 40, .inr (.inl (fun _ => 0)))), (q2, .inl (cA 0, 40, .inr (.inl (fun _ => 0))))] H := hP.sub [0, 1, 2] rfl
  have hD : va_D A [(g, .inr (1, [.ref q1, .ref q2, .int 0, .long 0, .long 0])), (q1, .inl (cA 0, 40, .inr (.inl (fun _ => 0)))), (q2, .inl (cA 0, 40, .inr (.inl (fun _ => 0))))] := hD.sub [0, 1, 2] (by decide) rfl
  exact mu_vret FX hS ⟨rfl, q1, q2, hP, hD⟩ d_g_init_35
theorem d_g_holds_0 : decode b_g_holds 0 = .ok (.iload_n 1, 1) := by decide +kernel
theorem d_g_holds_1 : decode b_g_holds 1 = .ok (.invokestatic 29, 3) := by decide +kernel
theorem d_g_holds_4 : decode b_g_holds 4 = .ok (.ifCond .eq 15, 3) := by decide +kernel
theorem d_g_holds_7 : decode b_g_holds 7 = .ok (.iload_n 1, 1) := by decide +kernel
theorem d_g_holds_8 : decode b_g_holds 8 = .ok (.aload_n 0, 1) := by decide +kernel
theorem d_g_holds_9 : decode b_g_holds 9 = .ok (.getfield 18, 3) := by decide +kernel
theorem d_g_holds_12 : decode b_g_holds 12 = .ok (.if_icmp .ge 7, 3) := by decide +kernel
theorem d_g_holds_15 : decode b_g_holds 15 = .ok (.iconst 1, 1) := by decide +kernel
theorem d_g_holds_16 : decode b_g_holds 16 = .ok (.goto 4, 3) := by decide +kernel
theorem d_g_holds_19 : decode b_g_holds 19 = .ok (.iconst 0, 1) := by decide +kernel
theorem d_g_holds_20 : decode b_g_holds 20 = .ok (.ireturn, 1) := by decide +kernel
def f_g_holds (sz : Int32) (nu : Int32) : Bool := if (f_x_isNumber nu) = true then
    (if sz ≤ nu then
      (false)
    else
      (true))
  else
    (false)
set_option maxHeartbeats 4000000 in
set_option maxRecDepth 100000 in
theorem c_g_holds (l : Launch) (D : va_G) (cA : Nat → ClassId) (g pa re : Nat) (ps rs : Nat → Int64) (sz : Int32) (bu sk : Int64) (nu : Int32) : Met l y_g_holds (.code y_g_holds b_g_holds 2 (some .boolean) :: tb) (rmd 1) (Pro D cA [.ref g, .int nu] (va_P D classes [(g, .inr (1, [.ref pa, .ref re, .int sz, .long bu, .long sk])), (pa, .inl (cA 0, 40, .inr (.inl ps))), (re, .inl (cA 0, 40, .inr (.inl rs)))])) (Qro (.int (bz (f_g_holds sz nu)))) 0 0 nof := by
  refine ro_in (by decide) (Nat.le_of_ble_eq_true rfl) (fun p e s m below meth c ls FX hnm hK hP hl => ?_)
  have hl : lv_has ls 2 [(0, .ref g), (1, .int nu)] := hl
  have hP : va_P D classes [(g, .inr (1, [.ref pa, .ref re, .int sz, .long bu, .long sk])), (pa, .inl (cA 0, 40, .inr (.inl ps))), (re, .inl (cA 0, 40, .inr (.inl rs)))] s.heap := hP
  generalize ([.ref g, .int nu] : List Value).toArray = args at FX ⊢
  obtain ⟨hx, hb, hml, hown, hts, hr, hlk⟩ := id FX
  refine lv_iload_n hx hb d_g_holds_0 rfl (lv_at hl 1 rfl) ?_
  refine ro_SN (v := .int (bz (f_x_isNumber nu))) (As := [.int nu]) (rest := []) FX hK (c_x_isNumber l D cA nu) trivial kc_x_isNumber km_g_29 ki_x ks_x_isNumber rfl ok_x_isNumber ⟨Nat.le_of_ble_eq_true rfl, Nat.le_of_ble_eq_true rfl⟩ ⟨Nat.zero_le _, Nat.zero_le _⟩ hl.1 rfl (Nat.le_of_ble_eq_true rfl) d_g_holds_1 ?_
  refine lv_if_eq (tgt := 19) hx hb d_g_holds_4 (by decide) (fun c1 => ?_) (fun c1 => ?_)
  · have c1 := bz_f c1
    refine lv_iconst (v := 0) hx hb d_g_holds_19 (by decide) ?_
    exact ro_zret FX (by rw [f_g_holds, if_neg c1] <;> rfl) d_g_holds_20
  · have c1 := bz_t c1
    refine lv_iload_n hx hb d_g_holds_7 rfl (lv_at hl 1 rfl) ?_
    refine lv_aload_n hx hb d_g_holds_8 rfl (lv_at hl 0 rfl) ?_
    refine ro_get (v := .int sz) FX hK hP 0 2 rfl rfl rfl i_g (by decide) kf_g_18 d_g_holds_9 ?_
    refine lv_icmp_ge (tgt := 19) hx hb d_g_holds_12 (by decide) (fun c2 => ?_) (fun c2 => ?_)
    · have c2 := c2
      refine lv_iconst (v := 0) hx hb d_g_holds_19 (by decide) ?_
      exact ro_zret FX (by rw [f_g_holds, if_pos c1, if_pos c2] <;> rfl) d_g_holds_20
    · have c2 := c2
      refine lv_iconst (v := 1) hx hb d_g_holds_15 (by decide) ?_
      refine lv_goto (tgt := 20) hx hb d_g_holds_16 (by decide) ?_
      exact ro_zret FX (by rw [f_g_holds, if_pos c1, if_neg c2] <;> rfl) d_g_holds_20
theorem holds_nI {sz nu : Int32} (h : f_g_holds sz nu = true) : ∃ j : Nat, j < 40 ∧ nu = nI j := by
  unfold f_g_holds at h
  by_cases h0 : f_x_isNumber nu = true
  · exact num_nI h0
  · rw [if_neg h0] at h; cases h
theorem holds_in {sz nu : Int32} (h : f_g_holds sz nu = true) : vp_in nu 40 := by
  obtain ⟨j, hj, e⟩ := holds_nI h
  exact vin e hj (by decide)
theorem d_g_mayBeParent_0 : decode b_g_mayBeParent 0 = .ok (.iload_n 1, 1) := by decide +kernel
theorem d_g_mayBeParent_1 : decode b_g_mayBeParent 1 = .ok (.iconst (-1), 1) := by decide +kernel
theorem d_g_mayBeParent_2 : decode b_g_mayBeParent 2 = .ok (.if_icmp .eq 11, 3) := by decide +kernel
theorem d_g_mayBeParent_5 : decode b_g_mayBeParent 5 = .ok (.aload_n 0, 1) := by decide +kernel
theorem d_g_mayBeParent_6 : decode b_g_mayBeParent 6 = .ok (.iload_n 1, 1) := by decide +kernel
theorem d_g_mayBeParent_7 : decode b_g_mayBeParent 7 = .ok (.invokevirtual 33, 3) := by decide +kernel
theorem d_g_mayBeParent_10 : decode b_g_mayBeParent 10 = .ok (.ifCond .eq 7, 3) := by decide +kernel
theorem d_g_mayBeParent_13 : decode b_g_mayBeParent 13 = .ok (.iconst 1, 1) := by decide +kernel
theorem d_g_mayBeParent_14 : decode b_g_mayBeParent 14 = .ok (.goto 4, 3) := by decide +kernel
theorem d_g_mayBeParent_17 : decode b_g_mayBeParent 17 = .ok (.iconst 0, 1) := by decide +kernel
theorem d_g_mayBeParent_18 : decode b_g_mayBeParent 18 = .ok (.ireturn, 1) := by decide +kernel
def f_g_mayBeParent (sz : Int32) (nu : Int32) : Bool := if nu = (-1) then
    (true)
  else
    (if (f_g_holds sz nu) = true then
      (true)
    else
      (false))
set_option maxHeartbeats 4000000 in
set_option maxRecDepth 100000 in
theorem c_g_mayBeParent (l : Launch) (D : va_G) (cA : Nat → ClassId) (g pa re : Nat) (ps rs : Nat → Int64) (sz : Int32) (bu sk : Int64) (nu : Int32) : Met l y_g_mayBeParent (.code y_g_mayBeParent b_g_mayBeParent 2 (some .boolean) :: tb) (rmd 2) (Pro D cA [.ref g, .int nu] (va_P D classes [(g, .inr (1, [.ref pa, .ref re, .int sz, .long bu, .long sk])), (pa, .inl (cA 0, 40, .inr (.inl ps))), (re, .inl (cA 0, 40, .inr (.inl rs)))])) (Qro (.int (bz (f_g_mayBeParent sz nu)))) 0 0 nof := by
  refine ro_in (by decide) (Nat.le_of_ble_eq_true rfl) (fun p e s m below meth c ls FX hnm hK hP hl => ?_)
  have hl : lv_has ls 2 [(0, .ref g), (1, .int nu)] := hl
  have hP : va_P D classes [(g, .inr (1, [.ref pa, .ref re, .int sz, .long bu, .long sk])), (pa, .inl (cA 0, 40, .inr (.inl ps))), (re, .inl (cA 0, 40, .inr (.inl rs)))] s.heap := hP
  generalize ([.ref g, .int nu] : List Value).toArray = args at FX ⊢
  obtain ⟨hx, hb, hml, hown, hts, hr, hlk⟩ := id FX
  refine lv_iload_n hx hb d_g_mayBeParent_0 rfl (lv_at hl 1 rfl) ?_
  refine lv_iconst (v := (-1)) hx hb d_g_mayBeParent_1 (by decide) ?_
  refine lv_icmp_eq (tgt := 13) hx hb d_g_mayBeParent_2 (by decide) (fun c1 => ?_) (fun c1 => ?_)
  · have c1 := c1
    refine lv_iconst (v := 1) hx hb d_g_mayBeParent_13 (by decide) ?_
    refine lv_goto (tgt := 18) hx hb d_g_mayBeParent_14 (by decide) ?_
    exact ro_zret FX (by rw [f_g_mayBeParent, if_pos c1] <;> rfl) d_g_mayBeParent_18
  · have c1 := c1
    refine lv_aload_n hx hb d_g_mayBeParent_5 rfl (lv_at hl 0 rfl) ?_
    refine lv_iload_n hx hb d_g_mayBeParent_6 rfl (lv_at hl 1 rfl) ?_
    refine ro_V (v := .int (bz (f_g_holds sz nu))) (As := [.int nu]) (rest := []) (q0 := 0) FX hK (c_g_holds l D cA g pa re ps rs sz bu sk nu) hP hP rfl rfl rfl kc_g_holds km_g_33 ki_g ks_g_holds ke_g_holds rfl ok_g_holds ⟨Nat.le_of_ble_eq_true rfl, Nat.le_of_ble_eq_true rfl⟩ ⟨Nat.zero_le _, Nat.zero_le _⟩ hl.1 rfl (Nat.le_of_ble_eq_true rfl) d_g_mayBeParent_7 ?_
    refine lv_if_eq (tgt := 17) hx hb d_g_mayBeParent_10 (by decide) (fun c2 => ?_) (fun c2 => ?_)
    · have c2 := bz_f c2
      refine lv_iconst (v := 0) hx hb d_g_mayBeParent_17 (by decide) ?_
      exact ro_zret FX (by rw [f_g_mayBeParent, if_neg c1, if_neg c2] <;> rfl) d_g_mayBeParent_18
    · have c2 := bz_t c2
      refine lv_iconst (v := 1) hx hb d_g_mayBeParent_13 (by decide) ?_
      refine lv_goto (tgt := 18) hx hb d_g_mayBeParent_14 (by decide) ?_
      exact ro_zret FX (by rw [f_g_mayBeParent, if_neg c1, if_pos c2] <;> rfl) d_g_mayBeParent_18
theorem d_g_reach_0 : decode b_g_reach 0 = .ok (.aload_n 0, 1) := by decide +kernel
theorem d_g_reach_1 : decode b_g_reach 1 = .ok (.iload_n 1, 1) := by decide +kernel
theorem d_g_reach_2 : decode b_g_reach 2 = .ok (.invokevirtual 33, 3) := by decide +kernel
theorem d_g_reach_5 : decode b_g_reach 5 = .ok (.ifCond .eq 12, 3) := by decide +kernel
theorem d_g_reach_8 : decode b_g_reach 8 = .ok (.aload_n 0, 1) := by decide +kernel
theorem d_g_reach_9 : decode b_g_reach 9 = .ok (.getfield 15, 3) := by decide +kernel
theorem d_g_reach_12 : decode b_g_reach 12 = .ok (.iload_n 1, 1) := by decide +kernel
theorem d_g_reach_13 : decode b_g_reach 13 = .ok (.laload, 1) := by decide +kernel
theorem d_g_reach_14 : decode b_g_reach 14 = .ok (.goto 4, 3) := by decide +kernel
theorem d_g_reach_17 : decode b_g_reach 17 = .ok (.lconst 0, 1) := by decide +kernel
theorem d_g_reach_18 : decode b_g_reach 18 = .ok (.lreturn, 1) := by decide +kernel
def f_g_reach (rs : Nat → Int64) (sz : Int32) (nu : Int32) : Int64 := if (f_g_holds sz nu) = true then
    (rs nu.toNatClampNeg)
  else
    (0)
set_option maxHeartbeats 4000000 in
set_option maxRecDepth 100000 in
theorem c_g_reach (l : Launch) (D : va_G) (cA : Nat → ClassId) (g pa re : Nat) (ps rs : Nat → Int64) (sz : Int32) (bu sk : Int64) (nu : Int32) : Met l y_g_reach (.code y_g_reach b_g_reach 2 (some .long) :: tb) (rmd 2) (Pro D cA [.ref g, .int nu] (va_P D classes [(g, .inr (1, [.ref pa, .ref re, .int sz, .long bu, .long sk])), (pa, .inl (cA 0, 40, .inr (.inl ps))), (re, .inl (cA 0, 40, .inr (.inl rs)))])) (Qro (.long (f_g_reach rs sz nu))) 0 0 nof := by
  refine ro_in (by decide) (Nat.le_of_ble_eq_true rfl) (fun p e s m below meth c ls FX hnm hK hP hl => ?_)
  have hl : lv_has ls 2 [(0, .ref g), (1, .int nu)] := hl
  have hP : va_P D classes [(g, .inr (1, [.ref pa, .ref re, .int sz, .long bu, .long sk])), (pa, .inl (cA 0, 40, .inr (.inl ps))), (re, .inl (cA 0, 40, .inr (.inl rs)))] s.heap := hP
  generalize ([.ref g, .int nu] : List Value).toArray = args at FX ⊢
  obtain ⟨hx, hb, hml, hown, hts, hr, hlk⟩ := id FX
  refine lv_aload_n hx hb d_g_reach_0 rfl (lv_at hl 0 rfl) ?_
  refine lv_iload_n hx hb d_g_reach_1 rfl (lv_at hl 1 rfl) ?_
  refine ro_V (v := .int (bz (f_g_holds sz nu))) (As := [.int nu]) (rest := []) (q0 := 0) FX hK (c_g_holds l D cA g pa re ps rs sz bu sk nu) hP hP rfl rfl rfl kc_g_holds km_g_33 ki_g ks_g_holds ke_g_holds rfl ok_g_holds ⟨Nat.le_of_ble_eq_true rfl, Nat.le_of_ble_eq_true rfl⟩ ⟨Nat.zero_le _, Nat.zero_le _⟩ hl.1 rfl (Nat.le_of_ble_eq_true rfl) d_g_reach_2 ?_
  refine lv_if_eq (tgt := 17) hx hb d_g_reach_5 (by decide) (fun c1 => ?_) (fun c1 => ?_)
  · have c1 := bz_f c1
    refine lv_lconst (v := 0) hx hb d_g_reach_17 (by decide) ?_
    exact ro_lret FX (by rw [f_g_reach, if_neg c1]) d_g_reach_18
  · have c1 := bz_t c1
    refine lv_aload_n hx hb d_g_reach_8 rfl (lv_at hl 0 rfl) ?_
    refine ro_get (v := .ref re) FX hK hP 0 1 rfl rfl rfl i_g (by decide) kf_g_15 d_g_reach_9 ?_
    refine lv_iload_n hx hb d_g_reach_12 rfl (lv_at hl 1 rfl) ?_
    refine va_lald hx hb hK.1 hP 2 0 rfl rfl (holds_in c1) d_g_reach_13 ?_
    refine lv_goto (tgt := 18) hx hb d_g_reach_14 (by decide) ?_
    exact ro_lret FX (by rw [f_g_reach, if_pos c1]) d_g_reach_18
theorem d_g_isBuilt_0 : decode b_g_isBuilt 0 = .ok (.aload_n 0, 1) := by decide +kernel
theorem d_g_isBuilt_1 : decode b_g_isBuilt 1 = .ok (.getfield 22, 3) := by decide +kernel
theorem d_g_isBuilt_4 : decode b_g_isBuilt 4 = .ok (.iload_n 1, 1) := by decide +kernel
theorem d_g_isBuilt_5 : decode b_g_isBuilt 5 = .ok (.invokestatic 40, 3) := by decide +kernel
theorem d_g_isBuilt_8 : decode b_g_isBuilt 8 = .ok (.ireturn, 1) := by decide +kernel
def f_g_isBuilt (bu : Int64) (nu : Int32) : Bool := (f_x_contains bu nu)
set_option maxHeartbeats 4000000 in
set_option maxRecDepth 100000 in
theorem c_g_isBuilt (l : Launch) (D : va_G) (cA : Nat → ClassId) (g pa re : Nat) (ps rs : Nat → Int64) (sz : Int32) (bu sk : Int64) (nu : Int32) : Met l y_g_isBuilt (.code y_g_isBuilt b_g_isBuilt 2 (some .boolean) :: tb) (rmd 2) (Pro D cA [.ref g, .int nu] (va_P D classes [(g, .inr (1, [.ref pa, .ref re, .int sz, .long bu, .long sk])), (pa, .inl (cA 0, 40, .inr (.inl ps))), (re, .inl (cA 0, 40, .inr (.inl rs)))])) (Qro (.int (bz (f_g_isBuilt bu nu)))) 0 0 nof := by
  refine ro_in (by decide) (Nat.le_of_ble_eq_true rfl) (fun p e s m below meth c ls FX hnm hK hP hl => ?_)
  have hl : lv_has ls 2 [(0, .ref g), (1, .int nu)] := hl
  have hP : va_P D classes [(g, .inr (1, [.ref pa, .ref re, .int sz, .long bu, .long sk])), (pa, .inl (cA 0, 40, .inr (.inl ps))), (re, .inl (cA 0, 40, .inr (.inl rs)))] s.heap := hP
  generalize ([.ref g, .int nu] : List Value).toArray = args at FX ⊢
  obtain ⟨hx, hb, hml, hown, hts, hr, hlk⟩ := id FX
  refine lv_aload_n hx hb d_g_isBuilt_0 rfl (lv_at hl 0 rfl) ?_
  refine ro_get (v := .long bu) FX hK hP 0 3 rfl rfl rfl i_g (by decide) kf_g_22 d_g_isBuilt_1 ?_
  refine lv_iload_n hx hb d_g_isBuilt_4 rfl (lv_at hl 1 rfl) ?_
  refine ro_SN (v := .int (bz (f_x_contains bu nu))) (As := [.long bu, .int nu]) (rest := []) FX hK (c_x_contains l D cA bu nu) trivial kc_x_contains km_g_40 ki_x ks_x_contains rfl ok_x_contains ⟨Nat.le_of_ble_eq_true rfl, Nat.le_of_ble_eq_true rfl⟩ ⟨Nat.zero_le _, Nat.zero_le _⟩ hl.1 rfl (Nat.le_of_ble_eq_true rfl) d_g_isBuilt_5 ?_
  exact ro_zret FX (by rw [f_g_isBuilt] <;> rfl) d_g_isBuilt_8
theorem d_g_isSkipped_0 : decode b_g_isSkipped 0 = .ok (.aload_n 0, 1) := by decide +kernel
theorem d_g_isSkipped_1 : decode b_g_isSkipped 1 = .ok (.getfield 26, 3) := by decide +kernel
theorem d_g_isSkipped_4 : decode b_g_isSkipped 4 = .ok (.iload_n 1, 1) := by decide +kernel
theorem d_g_isSkipped_5 : decode b_g_isSkipped 5 = .ok (.invokestatic 40, 3) := by decide +kernel
theorem d_g_isSkipped_8 : decode b_g_isSkipped 8 = .ok (.ireturn, 1) := by decide +kernel
def f_g_isSkipped (sk : Int64) (nu : Int32) : Bool := (f_x_contains sk nu)
set_option maxHeartbeats 4000000 in
set_option maxRecDepth 100000 in
theorem c_g_isSkipped (l : Launch) (D : va_G) (cA : Nat → ClassId) (g pa re : Nat) (ps rs : Nat → Int64) (sz : Int32) (bu sk : Int64) (nu : Int32) : Met l y_g_isSkipped (.code y_g_isSkipped b_g_isSkipped 2 (some .boolean) :: tb) (rmd 2) (Pro D cA [.ref g, .int nu] (va_P D classes [(g, .inr (1, [.ref pa, .ref re, .int sz, .long bu, .long sk])), (pa, .inl (cA 0, 40, .inr (.inl ps))), (re, .inl (cA 0, 40, .inr (.inl rs)))])) (Qro (.int (bz (f_g_isSkipped sk nu)))) 0 0 nof := by
  refine ro_in (by decide) (Nat.le_of_ble_eq_true rfl) (fun p e s m below meth c ls FX hnm hK hP hl => ?_)
  have hl : lv_has ls 2 [(0, .ref g), (1, .int nu)] := hl
  have hP : va_P D classes [(g, .inr (1, [.ref pa, .ref re, .int sz, .long bu, .long sk])), (pa, .inl (cA 0, 40, .inr (.inl ps))), (re, .inl (cA 0, 40, .inr (.inl rs)))] s.heap := hP
  generalize ([.ref g, .int nu] : List Value).toArray = args at FX ⊢
  obtain ⟨hx, hb, hml, hown, hts, hr, hlk⟩ := id FX
  refine lv_aload_n hx hb d_g_isSkipped_0 rfl (lv_at hl 0 rfl) ?_
  refine ro_get (v := .long sk) FX hK hP 0 4 rfl rfl rfl i_g (by decide) kf_g_26 d_g_isSkipped_1 ?_
  refine lv_iload_n hx hb d_g_isSkipped_4 rfl (lv_at hl 1 rfl) ?_
  refine ro_SN (v := .int (bz (f_x_contains sk nu))) (As := [.long sk, .int nu]) (rest := []) FX hK (c_x_contains l D cA sk nu) trivial kc_x_contains km_g_40 ki_x ks_x_contains rfl ok_x_contains ⟨Nat.le_of_ble_eq_true rfl, Nat.le_of_ble_eq_true rfl⟩ ⟨Nat.zero_le _, Nat.zero_le _⟩ hl.1 rfl (Nat.le_of_ble_eq_true rfl) d_g_isSkipped_5 ?_
  exact ro_zret FX (by rw [f_g_isSkipped] <;> rfl) d_g_isSkipped_8
theorem d_g_builtCount_0 : decode b_g_builtCount 0 = .ok (.aload_n 0, 1) := by decide +kernel
theorem d_g_builtCount_1 : decode b_g_builtCount 1 = .ok (.getfield 22, 3) := by decide +kernel
theorem d_g_builtCount_4 : decode b_g_builtCount 4 = .ok (.invokestatic 44, 3) := by decide +kernel
theorem d_g_builtCount_7 : decode b_g_builtCount 7 = .ok (.ireturn, 1) := by decide +kernel
def f_g_builtCount (bu : Int64) : Int32 := f_lo_bitCount bu
set_option maxHeartbeats 4000000 in
set_option maxRecDepth 100000 in
theorem c_g_builtCount (l : Launch) (D : va_G) (cA : Nat → ClassId) (g pa re : Nat) (ps rs : Nat → Int64) (sz : Int32) (bu sk : Int64) : Met l y_g_builtCount (.code y_g_builtCount b_g_builtCount 1 (some .int) :: tb) (rmd 1) (Pro D cA [.ref g] (va_P D classes [(g, .inr (1, [.ref pa, .ref re, .int sz, .long bu, .long sk])), (pa, .inl (cA 0, 40, .inr (.inl ps))), (re, .inl (cA 0, 40, .inr (.inl rs)))])) (Qro (.int (f_g_builtCount bu))) 0 0 nof := by
  refine ro_in (by decide) (Nat.le_of_ble_eq_true rfl) (fun p e s m below meth c ls FX hnm hK hP hl => ?_)
  have hl : lv_has ls 1 [(0, .ref g)] := hl
  have hP : va_P D classes [(g, .inr (1, [.ref pa, .ref re, .int sz, .long bu, .long sk])), (pa, .inl (cA 0, 40, .inr (.inl ps))), (re, .inl (cA 0, 40, .inr (.inl rs)))] s.heap := hP
  generalize ([.ref g] : List Value).toArray = args at FX ⊢
  obtain ⟨hx, hb, hml, hown, hts, hr, hlk⟩ := id FX
  refine lv_aload_n hx hb d_g_builtCount_0 rfl (lv_at hl 0 rfl) ?_
  refine ro_get (v := .long bu) FX hK hP 0 3 rfl rfl rfl i_g (by decide) kf_g_22 d_g_builtCount_1 ?_
  refine ro_S (v := .int (f_lo_bitCount bu)) (As := [.long bu]) (rest := []) FX hK (c_lo_bitCount l D cA bu) trivial kc_lo_bitCount km_g_44 ki_lo ks_lo_bitCount rfl ok_lo_bitCount ⟨Nat.le_of_ble_eq_true rfl, Nat.le_of_ble_eq_true rfl⟩ ⟨Nat.zero_le _, Nat.zero_le _⟩ hl.1 rfl (Nat.le_of_ble_eq_true rfl) d_g_builtCount_4 ?_
  exact ro_iret FX (by rw [f_g_builtCount]) d_g_builtCount_7
theorem d_g_stepToward_0 : decode b_g_stepToward 0 = .ok (.aload_n 0, 1) := by decide +kernel
theorem d_g_stepToward_1 : decode b_g_stepToward 1 = .ok (.iload_n 1, 1) := by decide +kernel
theorem d_g_stepToward_2 : decode b_g_stepToward 2 = .ok (.invokevirtual 33, 3) := by decide +kernel
theorem d_g_stepToward_5 : decode b_g_stepToward 5 = .ok (.ifCond .ne 5, 3) := by decide +kernel
theorem d_g_stepToward_8 : decode b_g_stepToward 8 = .ok (.iconst (-1), 1) := by decide +kernel
theorem d_g_stepToward_9 : decode b_g_stepToward 9 = .ok (.ireturn, 1) := by decide +kernel
theorem d_g_stepToward_10 : decode b_g_stepToward 10 = .ok (.iconst 0, 1) := by decide +kernel
theorem d_g_stepToward_11 : decode b_g_stepToward 11 = .ok (.istore_n 3, 1) := by decide +kernel
theorem d_g_stepToward_12 : decode b_g_stepToward 12 = .ok (.iload_n 3, 1) := by decide +kernel
theorem d_g_stepToward_13 : decode b_g_stepToward 13 = .ok (.iload_n 1, 1) := by decide +kernel
theorem d_g_stepToward_14 : decode b_g_stepToward 14 = .ok (.if_icmp .ge 37, 3) := by decide +kernel
theorem d_g_stepToward_17 : decode b_g_stepToward 17 = .ok (.aload_n 0, 1) := by decide +kernel
theorem d_g_stepToward_18 : decode b_g_stepToward 18 = .ok (.getfield 9, 3) := by decide +kernel
theorem d_g_stepToward_21 : decode b_g_stepToward 21 = .ok (.iload_n 1, 1) := by decide +kernel
theorem d_g_stepToward_22 : decode b_g_stepToward 22 = .ok (.laload, 1) := by decide +kernel
theorem d_g_stepToward_23 : decode b_g_stepToward 23 = .ok (.iload_n 3, 1) := by decide +kernel
theorem d_g_stepToward_24 : decode b_g_stepToward 24 = .ok (.invokestatic 40, 3) := by decide +kernel
theorem d_g_stepToward_27 : decode b_g_stepToward 27 = .ok (.ifCond .eq 18, 3) := by decide +kernel
theorem d_g_stepToward_30 : decode b_g_stepToward 30 = .ok (.aload_n 0, 1) := by decide +kernel
theorem d_g_stepToward_31 : decode b_g_stepToward 31 = .ok (.getfield 15, 3) := by decide +kernel
theorem d_g_stepToward_34 : decode b_g_stepToward 34 = .ok (.iload_n 3, 1) := by decide +kernel
theorem d_g_stepToward_35 : decode b_g_stepToward 35 = .ok (.laload, 1) := by decide +kernel
theorem d_g_stepToward_36 : decode b_g_stepToward 36 = .ok (.iload_n 2, 1) := by decide +kernel
theorem d_g_stepToward_37 : decode b_g_stepToward 37 = .ok (.invokestatic 40, 3) := by decide +kernel
theorem d_g_stepToward_40 : decode b_g_stepToward 40 = .ok (.ifCond .eq 5, 3) := by decide +kernel
theorem d_g_stepToward_43 : decode b_g_stepToward 43 = .ok (.iload_n 3, 1) := by decide +kernel
theorem d_g_stepToward_44 : decode b_g_stepToward 44 = .ok (.ireturn, 1) := by decide +kernel
theorem d_g_stepToward_45 : decode b_g_stepToward 45 = .ok (.iinc 3 1, 3) := by decide +kernel
theorem d_g_stepToward_48 : decode b_g_stepToward 48 = .ok (.goto (-36), 3) := by decide +kernel
theorem d_g_stepToward_51 : decode b_g_stepToward 51 = .ok (.iconst (-1), 1) := by decide +kernel
theorem d_g_stepToward_52 : decode b_g_stepToward 52 = .ok (.ireturn, 1) := by decide +kernel
def L_g_stepToward_12 (ps : Nat → Int64) (rs : Nat → Int64) (sz : Int32) (nu : Int32) (cu : Int32) : Nat → Int32 → Int32
  | 0, _ => 0
  | n + 1, xi => if nu ≤ xi then
    ((-1))
  else
    (if (f_x_contains (ps nu.toNatClampNeg) xi) = true then
      (if (f_x_contains (rs xi.toNatClampNeg) cu) = true then
        (xi)
      else
        (L_g_stepToward_12 ps rs sz nu cu n (xi + 1)))
    else
      (L_g_stepToward_12 ps rs sz nu cu n (xi + 1)))
theorem L_g_stepToward_12_s (ps : Nat → Int64) (rs : Nat → Int64) (sz : Int32) (nu : Int32) (cu : Int32) (n : Nat) (xi : Int32) : L_g_stepToward_12 ps rs sz nu cu (n + 1) xi = if nu ≤ xi then
    ((-1))
  else
    (if (f_x_contains (ps nu.toNatClampNeg) xi) = true then
      (if (f_x_contains (rs xi.toNatClampNeg) cu) = true then
        (xi)
      else
        (L_g_stepToward_12 ps rs sz nu cu n (xi + 1)))
    else
      (L_g_stepToward_12 ps rs sz nu cu n (xi + 1))) := rfl
def f_g_stepToward (ps : Nat → Int64) (rs : Nat → Int64) (sz : Int32) (nu : Int32) (cu : Int32) : Int32 := if (f_g_holds sz nu) = true then
    (L_g_stepToward_12 ps rs sz nu cu 41 0)
  else
    ((-1))
set_option maxHeartbeats 4000000 in
set_option maxRecDepth 100000 in
theorem c_g_stepToward (l : Launch) (D : va_G) (cA : Nat → ClassId) (g pa re : Nat) (ps rs : Nat → Int64) (sz : Int32) (bu sk : Int64) (nu : Int32) (cu : Int32) : Met l y_g_stepToward (.code y_g_stepToward b_g_stepToward 4 (some .int) :: tb) (rmd 2) (Pro D cA [.ref g, .int nu, .int cu] (va_P D classes [(g, .inr (1, [.ref pa, .ref re, .int sz, .long bu, .long sk])), (pa, .inl (cA 0, 40, .inr (.inl ps))), (re, .inl (cA 0, 40, .inr (.inl rs)))])) (Qro (.int (f_g_stepToward ps rs sz nu cu))) 0 0 nof := by
  refine ro_in (by decide) (Nat.le_of_ble_eq_true rfl) (fun p e s m below meth c ls FX hnm hK hP hl => ?_)
  have hl : lv_has ls 4 [(0, .ref g), (1, .int nu), (2, .int cu)] := hl
  have hP : va_P D classes [(g, .inr (1, [.ref pa, .ref re, .int sz, .long bu, .long sk])), (pa, .inl (cA 0, 40, .inr (.inl ps))), (re, .inl (cA 0, 40, .inr (.inl rs)))] s.heap := hP
  generalize ([.ref g, .int nu, .int cu] : List Value).toArray = args at FX ⊢
  obtain ⟨hx, hb, hml, hown, hts, hr, hlk⟩ := id FX
  refine lv_aload_n hx hb d_g_stepToward_0 rfl (lv_at hl 0 rfl) ?_
  refine lv_iload_n hx hb d_g_stepToward_1 rfl (lv_at hl 1 rfl) ?_
  refine ro_V (v := .int (bz (f_g_holds sz nu))) (As := [.int nu]) (rest := []) (q0 := 0) FX hK (c_g_holds l D cA g pa re ps rs sz bu sk nu) hP hP rfl rfl rfl kc_g_holds km_g_33 ki_g ks_g_holds ke_g_holds rfl ok_g_holds ⟨Nat.le_of_ble_eq_true rfl, Nat.le_of_ble_eq_true rfl⟩ ⟨Nat.zero_le _, Nat.zero_le _⟩ hl.1 rfl (Nat.le_of_ble_eq_true rfl) d_g_stepToward_2 ?_
  refine lv_if_ne (tgt := 10) hx hb d_g_stepToward_5 (by decide) (fun c1 => ?_) (fun c1 => ?_)
  · have c1 := bz_t c1
    obtain ⟨j, hj, hjs⟩ := holds_nI c1
    refine lv_iconst (v := 0) hx hb d_g_stepToward_10 (by decide) ?_
    refine lv_istore_n (lv' := [(3, .int 0), (0, .ref g), (1, .int nu), (2, .int cu)]) hx hb d_g_stepToward_11 rfl hl (by decide) rfl (fun ls hl => ?_)
    have loop : ∀ (n k : Nat) (xi : Int32) (ls : Array Slot), k + n = 41 → k ≤ 40 → xi = nI k → lv_has ls 4 [(0, .ref g), (1, .int nu), (2, .int cu), (3, .int xi)] → W p l e (rmd 2) s m args below meth c s.heap [] 0 0 (MQ below (Qro (.int (L_g_stepToward_12 ps rs sz nu cu n xi))) args s 0 0 nof) (F0 m 12 ls []) := by
      intro n
      induction n with
      | zero =>
        intro k xi ls h1 h2
        exact absurd h1 (by omega)
      | succ n ih =>
        intro k xi ls hkn hk hxi hl
        refine lv_iload_n hx hb d_g_stepToward_12 rfl (lv_at hl 3 rfl) ?_
        refine lv_iload_n hx hb d_g_stepToward_13 rfl (lv_at hl 1 rfl) ?_
        refine lv_icmp_ge (tgt := 51) hx hb d_g_stepToward_14 (by decide) (fun c2 => ?_) (fun c2 => ?_)
        · have c2 := c2
          refine lv_iconst (v := (-1)) hx hb d_g_stepToward_51 (by decide) ?_
          exact ro_iret FX (by rw [L_g_stepToward_12_s, if_pos c2]) d_g_stepToward_52
        · have c2 := c2
          have hk1 : k < j := k_lt hxi hjs c2 (by omega)
          refine lv_aload_n hx hb d_g_stepToward_17 rfl (lv_at hl 0 rfl) ?_
          refine ro_get (v := .ref pa) FX hK hP 0 0 rfl rfl rfl i_g (by decide) kf_g_9 d_g_stepToward_18 ?_
          refine lv_iload_n hx hb d_g_stepToward_21 rfl (lv_at hl 1 rfl) ?_
          refine va_lald hx hb hK.1 hP 1 0 rfl rfl (vin hjs hj (by decide)) d_g_stepToward_22 ?_
          refine lv_iload_n hx hb d_g_stepToward_23 rfl (lv_at hl 3 rfl) ?_
          refine ro_SN (v := .int (bz (f_x_contains (ps nu.toNatClampNeg) xi))) (As := [.long (ps nu.toNatClampNeg), .int xi]) (rest := []) FX hK (c_x_contains l D cA (ps nu.toNatClampNeg) xi) trivial kc_x_contains km_g_40 ki_x ks_x_contains rfl ok_x_contains ⟨Nat.le_of_ble_eq_true rfl, Nat.le_of_ble_eq_true rfl⟩ ⟨Nat.zero_le _, Nat.zero_le _⟩ hl.1 rfl (Nat.le_of_ble_eq_true rfl) d_g_stepToward_24 ?_
          refine lv_if_eq (tgt := 45) hx hb d_g_stepToward_27 (by decide) (fun c3 => ?_) (fun c3 => ?_)
          · have c3 := bz_f c3
            refine lv_iinc (v := xi + 1) (lv' := [(3, .int (xi + 1)), (0, .ref g), (1, .int nu), (2, .int cu)]) hx hb d_g_stepToward_45 hl (k := 3) rfl rfl (by decide) rfl (fun ls hl => ?_)
            refine lv_goto (tgt := 12) hx hb d_g_stepToward_48 (by decide) ?_
            refine ro_to (by rw [L_g_stepToward_12_s, if_neg c2, if_neg c3]) ?_
            exact ih (k + 1) (xi + 1) ls (by omega) (by omega) (by rw [hxi]; exact nI_1 _)  (lv_sub hl [1, 2, 3, 0] rfl)
          · have c3 := bz_t c3
            refine lv_aload_n hx hb d_g_stepToward_30 rfl (lv_at hl 0 rfl) ?_
            refine ro_get (v := .ref re) FX hK hP 0 1 rfl rfl rfl i_g (by decide) kf_g_15 d_g_stepToward_31 ?_
            refine lv_iload_n hx hb d_g_stepToward_34 rfl (lv_at hl 3 rfl) ?_
            refine va_lald hx hb hK.1 hP 2 0 rfl rfl (vin hxi (Nat.lt_of_lt_of_le hk1 (by omega)) (by decide)) d_g_stepToward_35 ?_
            refine lv_iload_n hx hb d_g_stepToward_36 rfl (lv_at hl 2 rfl) ?_
            refine ro_SN (v := .int (bz (f_x_contains (rs xi.toNatClampNeg) cu))) (As := [.long (rs xi.toNatClampNeg), .int cu]) (rest := []) FX hK (c_x_contains l D cA (rs xi.toNatClampNeg) cu) trivial kc_x_contains km_g_40 ki_x ks_x_contains rfl ok_x_contains ⟨Nat.le_of_ble_eq_true rfl, Nat.le_of_ble_eq_true rfl⟩ ⟨Nat.zero_le _, Nat.zero_le _⟩ hl.1 rfl (Nat.le_of_ble_eq_true rfl) d_g_stepToward_37 ?_
            refine lv_if_eq (tgt := 45) hx hb d_g_stepToward_40 (by decide) (fun c4 => ?_) (fun c4 => ?_)
            · have c4 := bz_f c4
              refine lv_iinc (v := xi + 1) (lv' := [(3, .int (xi + 1)), (0, .ref g), (1, .int nu), (2, .int cu)]) hx hb d_g_stepToward_45 hl (k := 3) rfl rfl (by decide) rfl (fun ls hl => ?_)
              refine lv_goto (tgt := 12) hx hb d_g_stepToward_48 (by decide) ?_
              refine ro_to (by rw [L_g_stepToward_12_s, if_neg c2, if_pos c3, if_neg c4]) ?_
              exact ih (k + 1) (xi + 1) ls (by omega) (by omega) (by rw [hxi]; exact nI_1 _)  (lv_sub hl [1, 2, 3, 0] rfl)
            · have c4 := bz_t c4
              refine lv_iload_n hx hb d_g_stepToward_43 rfl (lv_at hl 3 rfl) ?_
              exact ro_iret FX (by rw [L_g_stepToward_12_s, if_neg c2, if_pos c3, if_pos c4]) d_g_stepToward_44
    refine ro_to (by rw [f_g_stepToward, if_pos c1]) ?_
    exact loop 41 0 0 ls rfl (Nat.zero_le _) rfl  (lv_sub hl [1, 2, 3, 0] rfl)
  · have c1 := bz_f c1
    refine lv_iconst (v := (-1)) hx hb d_g_stepToward_8 (by decide) ?_
    exact ro_iret FX (by rw [f_g_stepToward, if_neg c1]) d_g_stepToward_9
theorem d_g_markBuilt_0 : decode b_g_markBuilt 0 = .ok (.aload_n 0, 1) := by decide +kernel
theorem d_g_markBuilt_1 : decode b_g_markBuilt 1 = .ok (.dup, 1) := by decide +kernel
theorem d_g_markBuilt_2 : decode b_g_markBuilt 2 = .ok (.getfield 22, 3) := by decide +kernel
theorem d_g_markBuilt_5 : decode b_g_markBuilt 5 = .ok (.iload_n 1, 1) := by decide +kernel
theorem d_g_markBuilt_6 : decode b_g_markBuilt 6 = .ok (.invokestatic 36, 3) := by decide +kernel
theorem d_g_markBuilt_9 : decode b_g_markBuilt 9 = .ok (.lor, 1) := by decide +kernel
theorem d_g_markBuilt_10 : decode b_g_markBuilt 10 = .ok (.putfield 22, 3) := by decide +kernel
theorem d_g_markBuilt_13 : decode b_g_markBuilt 13 = .ok (.return_, 1) := by decide +kernel
def f_g_markBuilt (bu : Int64) (nu : Int32) : Int64 := bu ||| (f_x_only nu)
set_option maxHeartbeats 4000000 in
set_option maxRecDepth 100000 in
theorem c_g_markBuilt (l : Launch) (D : va_G) (cA : Nat → ClassId) (g pa re : Nat) (ps rs : Nat → Int64) (sz : Int32) (bu sk : Int64) (nu : Int32) : Met l y_g_markBuilt (.code y_g_markBuilt b_g_markBuilt 2 none :: tb) (rmd 2) (Pro D cA [.ref g, .int nu] (fun H0 => va_P D classes [(g, .inr (1, [.ref pa, .ref re, .int sz, .long bu, .long sk])), (pa, .inl (cA 0, 40, .inr (.inl ps))), (re, .inl (cA 0, 40, .inr (.inl rs)))] H0 ∧ va_D (fun _ => True) [(g, .inr (1, [.ref pa, .ref re, .int sz, .long bu, .long sk])), (pa, .inl (cA 0, 40, .inr (.inl ps))), (re, .inl (cA 0, 40, .inr (.inl rs)))])) (Qmu (aw [(g, .inr (1, [.ref pa, .ref re, .int sz, .long bu, .long sk])), (pa, .inl (cA 0, 40, .inr (.inl ps))), (re, .inl (cA 0, 40, .inr (.inl rs)))]) (fun v0 H0 => v0 = none ∧ va_P D classes [(g, .inr (1, [.ref pa, .ref re, .int sz, .long (f_g_markBuilt bu nu), .long sk])), (pa, .inl (cA 0, 40, .inr (.inl ps))), (re, .inl (cA 0, 40, .inr (.inl rs)))] H0 ∧ va_D (aw [(g, .inr (1, [.ref pa, .ref re, .int sz, .long bu, .long sk])), (pa, .inl (cA 0, 40, .inr (.inl ps))), (re, .inl (cA 0, 40, .inr (.inl rs)))]) [(g, .inr (1, [.ref pa, .ref re, .int sz, .long (f_g_markBuilt bu nu), .long sk])), (pa, .inl (cA 0, 40, .inr (.inl ps))), (re, .inl (cA 0, 40, .inr (.inl rs)))])) 0 0 (aw [(g, .inr (1, [.ref pa, .ref re, .int sz, .long bu, .long sk])), (pa, .inl (cA 0, 40, .inr (.inl ps))), (re, .inl (cA 0, 40, .inr (.inl rs)))]) := by
  refine ro_in (by decide) (Nat.le_of_ble_eq_true rfl) (fun p e s m below meth c ls FX hnm hK hP hl => ?_)
  have hl : lv_has ls 2 [(0, .ref g), (1, .int nu)] := hl
  obtain ⟨hP, hD0⟩ := hP
  have hP : va_P D classes [(g, .inr (1, [.ref pa, .ref re, .int sz, .long bu, .long sk])), (pa, .inl (cA 0, 40, .inr (.inl ps))), (re, .inl (cA 0, 40, .inr (.inl rs)))] s.heap := hP
  have hD : va_D (aw [(g, .inr (1, [.ref pa, .ref re, .int sz, .long bu, .long sk])), (pa, .inl (cA 0, 40, .inr (.inl ps))), (re, .inl (cA 0, 40, .inr (.inl rs)))]) [(g, .inr (1, [.ref pa, .ref re, .int sz, .long bu, .long sk])), (pa, .inl (cA 0, 40, .inr (.inl ps))), (re, .inl (cA 0, 40, .inr (.inl rs)))] := aw_self hD0
  generalize (aw [(g, .inr (1, [.ref pa, .ref re, .int sz, .long bu, .long sk])), (pa, .inl (cA 0, 40, .inr (.inl ps))), (re, .inl (cA 0, 40, .inr (.inl rs)))]) = A at hD ⊢
  have hS : va_S A s.heap s.heap [] := va_S.rf
  generalize ([.ref g, .int nu] : List Value).toArray = args at FX ⊢
  obtain ⟨hx, hb, hml, hown, hts, hr, hlk⟩ := id FX
  refine lv_aload_n hx hb d_g_markBuilt_0 rfl (lv_at hl 0 rfl) ?_
  refine lv_dup hx hb d_g_markBuilt_1 rfl ?_
  refine ro_get (v := .long bu) FX hK hP 0 3 rfl rfl rfl i_g (by decide) kf_g_22 d_g_markBuilt_2 ?_
  refine lv_iload_n hx hb d_g_markBuilt_5 rfl (lv_at hl 1 rfl) ?_
  refine ro_SN (v := .long (f_x_only nu)) (As := [.int nu]) (rest := [.long bu, .ref g]) FX hK (c_x_only l D cA nu) trivial kc_x_only km_g_36 ki_x ks_x_only rfl ok_x_only ⟨Nat.le_of_ble_eq_true rfl, Nat.le_of_ble_eq_true rfl⟩ ⟨Nat.zero_le _, Nat.zero_le _⟩ hl.1 rfl (Nat.le_of_ble_eq_true rfl) d_g_markBuilt_6 ?_
  refine lv_lor hx hb d_g_markBuilt_9 ?_
  refine va_put (D := D) (v := .long (bu ||| (f_x_only nu))) (ty := .long) hx hb hts i_g t_g t_g_ok n_g hown hK.1 hP hD hS 0 rfl rfl 3 (by decide) (hts _ kf_g_22) (fun _ h9 => h9) rfl (by decide +kernel) rfl rfl (Nat.le_of_ble_eq_true rfl) d_g_markBuilt_10 (fun H locs hP hD hS => ?_)
  have hP : va_P D classes [(g, .inr (1, [.ref pa, .ref re, .int sz, .long (bu ||| (f_x_only nu)), .long sk])), (pa, .inl (cA 0, 40, .inr (.inl ps))), (re, .inl (cA 0, 40, .inr (.inl rs)))] H := hP
  have hD : va_D A [(g, .inr (1, [.ref pa, .ref re, .int sz, .long (bu ||| (f_x_only nu)), .long sk])), (pa, .inl (cA 0, 40, .inr (.inl ps))), (re, .inl (cA 0, 40, .inr (.inl rs)))] := hD
  exact mu_vret FX hS (by rw [show (f_g_markBuilt bu nu) = bu ||| (f_x_only nu) from (by rw [f_g_markBuilt])]; exact ⟨rfl, hP, hD⟩) d_g_markBuilt_13
theorem d_g_markSkipped_0 : decode b_g_markSkipped 0 = .ok (.aload_n 0, 1) := by decide +kernel
theorem d_g_markSkipped_1 : decode b_g_markSkipped 1 = .ok (.dup, 1) := by decide +kernel
theorem d_g_markSkipped_2 : decode b_g_markSkipped 2 = .ok (.getfield 26, 3) := by decide +kernel
theorem d_g_markSkipped_5 : decode b_g_markSkipped 5 = .ok (.iload_n 1, 1) := by decide +kernel
theorem d_g_markSkipped_6 : decode b_g_markSkipped 6 = .ok (.invokestatic 36, 3) := by decide +kernel
theorem d_g_markSkipped_9 : decode b_g_markSkipped 9 = .ok (.lor, 1) := by decide +kernel
theorem d_g_markSkipped_10 : decode b_g_markSkipped 10 = .ok (.putfield 26, 3) := by decide +kernel
theorem d_g_markSkipped_13 : decode b_g_markSkipped 13 = .ok (.return_, 1) := by decide +kernel
def f_g_markSkipped (sk : Int64) (nu : Int32) : Int64 := sk ||| (f_x_only nu)
set_option maxHeartbeats 4000000 in
set_option maxRecDepth 100000 in
theorem c_g_markSkipped (l : Launch) (D : va_G) (cA : Nat → ClassId) (g pa re : Nat) (ps rs : Nat → Int64) (sz : Int32) (bu sk : Int64) (nu : Int32) : Met l y_g_markSkipped (.code y_g_markSkipped b_g_markSkipped 2 none :: tb) (rmd 2) (Pro D cA [.ref g, .int nu] (fun H0 => va_P D classes [(g, .inr (1, [.ref pa, .ref re, .int sz, .long bu, .long sk])), (pa, .inl (cA 0, 40, .inr (.inl ps))), (re, .inl (cA 0, 40, .inr (.inl rs)))] H0 ∧ va_D (fun _ => True) [(g, .inr (1, [.ref pa, .ref re, .int sz, .long bu, .long sk])), (pa, .inl (cA 0, 40, .inr (.inl ps))), (re, .inl (cA 0, 40, .inr (.inl rs)))])) (Qmu (aw [(g, .inr (1, [.ref pa, .ref re, .int sz, .long bu, .long sk])), (pa, .inl (cA 0, 40, .inr (.inl ps))), (re, .inl (cA 0, 40, .inr (.inl rs)))]) (fun v0 H0 => v0 = none ∧ va_P D classes [(g, .inr (1, [.ref pa, .ref re, .int sz, .long bu, .long (f_g_markSkipped sk nu)])), (pa, .inl (cA 0, 40, .inr (.inl ps))), (re, .inl (cA 0, 40, .inr (.inl rs)))] H0 ∧ va_D (aw [(g, .inr (1, [.ref pa, .ref re, .int sz, .long bu, .long sk])), (pa, .inl (cA 0, 40, .inr (.inl ps))), (re, .inl (cA 0, 40, .inr (.inl rs)))]) [(g, .inr (1, [.ref pa, .ref re, .int sz, .long bu, .long (f_g_markSkipped sk nu)])), (pa, .inl (cA 0, 40, .inr (.inl ps))), (re, .inl (cA 0, 40, .inr (.inl rs)))])) 0 0 (aw [(g, .inr (1, [.ref pa, .ref re, .int sz, .long bu, .long sk])), (pa, .inl (cA 0, 40, .inr (.inl ps))), (re, .inl (cA 0, 40, .inr (.inl rs)))]) := by
  refine ro_in (by decide) (Nat.le_of_ble_eq_true rfl) (fun p e s m below meth c ls FX hnm hK hP hl => ?_)
  have hl : lv_has ls 2 [(0, .ref g), (1, .int nu)] := hl
  obtain ⟨hP, hD0⟩ := hP
  have hP : va_P D classes [(g, .inr (1, [.ref pa, .ref re, .int sz, .long bu, .long sk])), (pa, .inl (cA 0, 40, .inr (.inl ps))), (re, .inl (cA 0, 40, .inr (.inl rs)))] s.heap := hP
  have hD : va_D (aw [(g, .inr (1, [.ref pa, .ref re, .int sz, .long bu, .long sk])), (pa, .inl (cA 0, 40, .inr (.inl ps))), (re, .inl (cA 0, 40, .inr (.inl rs)))]) [(g, .inr (1, [.ref pa, .ref re, .int sz, .long bu, .long sk])), (pa, .inl (cA 0, 40, .inr (.inl ps))), (re, .inl (cA 0, 40, .inr (.inl rs)))] := aw_self hD0
  generalize (aw [(g, .inr (1, [.ref pa, .ref re, .int sz, .long bu, .long sk])), (pa, .inl (cA 0, 40, .inr (.inl ps))), (re, .inl (cA 0, 40, .inr (.inl rs)))]) = A at hD ⊢
  have hS : va_S A s.heap s.heap [] := va_S.rf
  generalize ([.ref g, .int nu] : List Value).toArray = args at FX ⊢
  obtain ⟨hx, hb, hml, hown, hts, hr, hlk⟩ := id FX
  refine lv_aload_n hx hb d_g_markSkipped_0 rfl (lv_at hl 0 rfl) ?_
  refine lv_dup hx hb d_g_markSkipped_1 rfl ?_
  refine ro_get (v := .long sk) FX hK hP 0 4 rfl rfl rfl i_g (by decide) kf_g_26 d_g_markSkipped_2 ?_
  refine lv_iload_n hx hb d_g_markSkipped_5 rfl (lv_at hl 1 rfl) ?_
  refine ro_SN (v := .long (f_x_only nu)) (As := [.int nu]) (rest := [.long sk, .ref g]) FX hK (c_x_only l D cA nu) trivial kc_x_only km_g_36 ki_x ks_x_only rfl ok_x_only ⟨Nat.le_of_ble_eq_true rfl, Nat.le_of_ble_eq_true rfl⟩ ⟨Nat.zero_le _, Nat.zero_le _⟩ hl.1 rfl (Nat.le_of_ble_eq_true rfl) d_g_markSkipped_6 ?_
  refine lv_lor hx hb d_g_markSkipped_9 ?_
  refine va_put (D := D) (v := .long (sk ||| (f_x_only nu))) (ty := .long) hx hb hts i_g t_g t_g_ok n_g hown hK.1 hP hD hS 0 rfl rfl 4 (by decide) (hts _ kf_g_26) (fun _ h9 => h9) rfl (by decide +kernel) rfl rfl (Nat.le_of_ble_eq_true rfl) d_g_markSkipped_10 (fun H locs hP hD hS => ?_)
  have hP : va_P D classes [(g, .inr (1, [.ref pa, .ref re, .int sz, .long bu, .long (sk ||| (f_x_only nu))])), (pa, .inl (cA 0, 40, .inr (.inl ps))), (re, .inl (cA 0, 40, .inr (.inl rs)))] H := hP
  have hD : va_D A [(g, .inr (1, [.ref pa, .ref re, .int sz, .long bu, .long (sk ||| (f_x_only nu))])), (pa, .inl (cA 0, 40, .inr (.inl ps))), (re, .inl (cA 0, 40, .inr (.inl rs)))] := hD
  exact mu_vret FX hS (by rw [show (f_g_markSkipped sk nu) = sk ||| (f_x_only nu) from (by rw [f_g_markSkipped])]; exact ⟨rfl, hP, hD⟩) d_g_markSkipped_13
theorem d_g_add_0 : decode b_g_add 0 = .ok (.aload_n 0, 1) := by decide +kernel
theorem d_g_add_1 : decode b_g_add 1 = .ok (.getfield 18, 3) := by decide +kernel
theorem d_g_add_4 : decode b_g_add 4 = .ok (.invokestatic 29, 3) := by decide +kernel
theorem d_g_add_7 : decode b_g_add 7 = .ok (.ifCond .ne 5, 3) := by decide +kernel
theorem d_g_add_10 : decode b_g_add 10 = .ok (.iconst (-1), 1) := by decide +kernel
theorem d_g_add_11 : decode b_g_add 11 = .ok (.ireturn, 1) := by decide +kernel
theorem d_g_add_12 : decode b_g_add 12 = .ok (.aload_n 0, 1) := by decide +kernel
theorem d_g_add_13 : decode b_g_add 13 = .ok (.getfield 18, 3) := by decide +kernel
theorem d_g_add_16 : decode b_g_add 16 = .ok (.istore_n 3, 1) := by decide +kernel
theorem d_g_add_17 : decode b_g_add 17 = .ok (.iload_n 3, 1) := by decide +kernel
theorem d_g_add_18 : decode b_g_add 18 = .ok (.invokestatic 36, 3) := by decide +kernel
theorem d_g_add_21 : decode b_g_add 21 = .ok (.lstore 4, 2) := by decide +kernel
theorem d_g_add_23 : decode b_g_add 23 = .ok (.iconst 0, 1) := by decide +kernel
theorem d_g_add_24 : decode b_g_add 24 = .ok (.istore 6, 2) := by decide +kernel
theorem d_g_add_26 : decode b_g_add 26 = .ok (.iload 6, 2) := by decide +kernel
theorem d_g_add_28 : decode b_g_add 28 = .ok (.iload_n 3, 1) := by decide +kernel
theorem d_g_add_29 : decode b_g_add 29 = .ok (.if_icmp .ge 30, 3) := by decide +kernel
theorem d_g_add_32 : decode b_g_add 32 = .ok (.lload_n 1, 1) := by decide +kernel
theorem d_g_add_33 : decode b_g_add 33 = .ok (.iload 6, 2) := by decide +kernel
theorem d_g_add_35 : decode b_g_add 35 = .ok (.invokestatic 40, 3) := by decide +kernel
theorem d_g_add_38 : decode b_g_add 38 = .ok (.ifCond .eq 15, 3) := by decide +kernel
theorem d_g_add_41 : decode b_g_add 41 = .ok (.lload 4, 2) := by decide +kernel
theorem d_g_add_43 : decode b_g_add 43 = .ok (.aload_n 0, 1) := by decide +kernel
theorem d_g_add_44 : decode b_g_add 44 = .ok (.getfield 15, 3) := by decide +kernel
theorem d_g_add_47 : decode b_g_add 47 = .ok (.iload 6, 2) := by decide +kernel
theorem d_g_add_49 : decode b_g_add 49 = .ok (.laload, 1) := by decide +kernel
theorem d_g_add_50 : decode b_g_add 50 = .ok (.lor, 1) := by decide +kernel
theorem d_g_add_51 : decode b_g_add 51 = .ok (.lstore 4, 2) := by decide +kernel
theorem d_g_add_53 : decode b_g_add 53 = .ok (.iinc 6 1, 3) := by decide +kernel
theorem d_g_add_56 : decode b_g_add 56 = .ok (.goto (-30), 3) := by decide +kernel
theorem d_g_add_59 : decode b_g_add 59 = .ok (.aload_n 0, 1) := by decide +kernel
theorem d_g_add_60 : decode b_g_add 60 = .ok (.getfield 9, 3) := by decide +kernel
theorem d_g_add_63 : decode b_g_add 63 = .ok (.iload_n 3, 1) := by decide +kernel
theorem d_g_add_64 : decode b_g_add 64 = .ok (.lload_n 1, 1) := by decide +kernel
theorem d_g_add_65 : decode b_g_add 65 = .ok (.lastore, 1) := by decide +kernel
theorem d_g_add_66 : decode b_g_add 66 = .ok (.aload_n 0, 1) := by decide +kernel
theorem d_g_add_67 : decode b_g_add 67 = .ok (.getfield 15, 3) := by decide +kernel
theorem d_g_add_70 : decode b_g_add 70 = .ok (.iload_n 3, 1) := by decide +kernel
theorem d_g_add_71 : decode b_g_add 71 = .ok (.lload 4, 2) := by decide +kernel
theorem d_g_add_73 : decode b_g_add 73 = .ok (.lastore, 1) := by decide +kernel
theorem d_g_add_74 : decode b_g_add 74 = .ok (.aload_n 0, 1) := by decide +kernel
theorem d_g_add_75 : decode b_g_add 75 = .ok (.dup, 1) := by decide +kernel
theorem d_g_add_76 : decode b_g_add 76 = .ok (.getfield 18, 3) := by decide +kernel
theorem d_g_add_79 : decode b_g_add 79 = .ok (.iconst 1, 1) := by decide +kernel
theorem d_g_add_80 : decode b_g_add 80 = .ok (.iadd, 1) := by decide +kernel
theorem d_g_add_81 : decode b_g_add 81 = .ok (.putfield 18, 3) := by decide +kernel
theorem d_g_add_84 : decode b_g_add 84 = .ok (.iload_n 3, 1) := by decide +kernel
theorem d_g_add_85 : decode b_g_add 85 = .ok (.ireturn, 1) := by decide +kernel
def L_g_add_26 (ps : Nat → Int64) (rs : Nat → Int64) (sz : Int32) (zs : Int64) : Nat → Int64 → Int32 → Int32 × (Nat → Int64) × (Nat → Int64) × Int32
  | 0, _, _ => (0, ps, rs, 0)
  | n + 1, ac, xi => if sz ≤ xi then
    ((sz, vp_updL ps sz.toNatClampNeg zs, vp_updL rs sz.toNatClampNeg ac, sz + 1))
  else
    (if (f_x_contains zs xi) = true then
      (L_g_add_26 ps rs sz zs n (ac ||| (rs xi.toNatClampNeg)) (xi + 1))
    else
      (L_g_add_26 ps rs sz zs n ac (xi + 1)))
theorem L_g_add_26_s (ps : Nat → Int64) (rs : Nat → Int64) (sz : Int32) (zs : Int64) (n : Nat) (ac : Int64) (xi : Int32) : L_g_add_26 ps rs sz zs (n + 1) ac xi = if sz ≤ xi then
    ((sz, vp_updL ps sz.toNatClampNeg zs, vp_updL rs sz.toNatClampNeg ac, sz + 1))
  else
    (if (f_x_contains zs xi) = true then
      (L_g_add_26 ps rs sz zs n (ac ||| (rs xi.toNatClampNeg)) (xi + 1))
    else
      (L_g_add_26 ps rs sz zs n ac (xi + 1))) := rfl
def f_g_add (ps : Nat → Int64) (rs : Nat → Int64) (sz : Int32) (zs : Int64) : Int32 × (Nat → Int64) × (Nat → Int64) × Int32 := if (f_x_isNumber sz) = true then
    (L_g_add_26 ps rs sz zs 41 (f_x_only sz) 0)
  else
    (((-1), ps, rs, sz))
set_option maxHeartbeats 4000000 in
set_option maxRecDepth 100000 in
theorem c_g_add (l : Launch) (D : va_G) (cA : Nat → ClassId) (g pa re : Nat) (ps rs : Nat → Int64) (sz : Int32) (bu sk : Int64) (zs : Int64) : Met l y_g_add (.code y_g_add b_g_add 7 (some .int) :: tb) (rmd 2) (Pro D cA [.ref g, .long zs] (fun H0 => va_P D classes [(g, .inr (1, [.ref pa, .ref re, .int sz, .long bu, .long sk])), (pa, .inl (cA 0, 40, .inr (.inl ps))), (re, .inl (cA 0, 40, .inr (.inl rs)))] H0 ∧ va_D (fun _ => True) [(g, .inr (1, [.ref pa, .ref re, .int sz, .long bu, .long sk])), (pa, .inl (cA 0, 40, .inr (.inl ps))), (re, .inl (cA 0, 40, .inr (.inl rs)))])) (Qmu (aw [(g, .inr (1, [.ref pa, .ref re, .int sz, .long bu, .long sk])), (pa, .inl (cA 0, 40, .inr (.inl ps))), (re, .inl (cA 0, 40, .inr (.inl rs)))]) (fun v0 H0 => v0 = some (.int ((f_g_add ps rs sz zs).1)) ∧ va_P D classes [(g, .inr (1, [.ref pa, .ref re, .int ((f_g_add ps rs sz zs).2.2.2), .long bu, .long sk])), (pa, .inl (cA 0, 40, .inr (.inl ((f_g_add ps rs sz zs).2.1)))), (re, .inl (cA 0, 40, .inr (.inl ((f_g_add ps rs sz zs).2.2.1))))] H0 ∧ va_D (aw [(g, .inr (1, [.ref pa, .ref re, .int sz, .long bu, .long sk])), (pa, .inl (cA 0, 40, .inr (.inl ps))), (re, .inl (cA 0, 40, .inr (.inl rs)))]) [(g, .inr (1, [.ref pa, .ref re, .int ((f_g_add ps rs sz zs).2.2.2), .long bu, .long sk])), (pa, .inl (cA 0, 40, .inr (.inl ((f_g_add ps rs sz zs).2.1)))), (re, .inl (cA 0, 40, .inr (.inl ((f_g_add ps rs sz zs).2.2.1))))])) 0 0 (aw [(g, .inr (1, [.ref pa, .ref re, .int sz, .long bu, .long sk])), (pa, .inl (cA 0, 40, .inr (.inl ps))), (re, .inl (cA 0, 40, .inr (.inl rs)))]) := by
  refine ro_in (by decide) (Nat.le_of_ble_eq_true rfl) (fun p e s m below meth c ls FX hnm hK hP hl => ?_)
  have hl : lv_has ls 7 [(0, .ref g), (1, .long zs)] := hl
  obtain ⟨hP, hD0⟩ := hP
  have hP : va_P D classes [(g, .inr (1, [.ref pa, .ref re, .int sz, .long bu, .long sk])), (pa, .inl (cA 0, 40, .inr (.inl ps))), (re, .inl (cA 0, 40, .inr (.inl rs)))] s.heap := hP
  have hD : va_D (aw [(g, .inr (1, [.ref pa, .ref re, .int sz, .long bu, .long sk])), (pa, .inl (cA 0, 40, .inr (.inl ps))), (re, .inl (cA 0, 40, .inr (.inl rs)))]) [(g, .inr (1, [.ref pa, .ref re, .int sz, .long bu, .long sk])), (pa, .inl (cA 0, 40, .inr (.inl ps))), (re, .inl (cA 0, 40, .inr (.inl rs)))] := aw_self hD0
  generalize (aw [(g, .inr (1, [.ref pa, .ref re, .int sz, .long bu, .long sk])), (pa, .inl (cA 0, 40, .inr (.inl ps))), (re, .inl (cA 0, 40, .inr (.inl rs)))]) = A at hD ⊢
  have hS : va_S A s.heap s.heap [] := va_S.rf
  generalize ([.ref g, .long zs] : List Value).toArray = args at FX ⊢
  obtain ⟨hx, hb, hml, hown, hts, hr, hlk⟩ := id FX
  refine lv_aload_n hx hb d_g_add_0 rfl (lv_at hl 0 rfl) ?_
  refine ro_get (v := .int sz) FX hK hP 0 2 rfl rfl rfl i_g (by decide) kf_g_18 d_g_add_1 ?_
  refine ro_SN (v := .int (bz (f_x_isNumber sz))) (As := [.int sz]) (rest := []) FX hK (c_x_isNumber l D cA sz) trivial kc_x_isNumber km_g_29 ki_x ks_x_isNumber rfl ok_x_isNumber ⟨Nat.le_of_ble_eq_true rfl, Nat.le_of_ble_eq_true rfl⟩ ⟨Nat.zero_le _, Nat.zero_le _⟩ hl.1 rfl (Nat.le_of_ble_eq_true rfl) d_g_add_4 ?_
  refine lv_if_ne (tgt := 12) hx hb d_g_add_7 (by decide) (fun c1 => ?_) (fun c1 => ?_)
  · have c1 := bz_t c1
    obtain ⟨j, hj, hjs⟩ := num_nI c1
    refine lv_aload_n hx hb d_g_add_12 rfl (lv_at hl 0 rfl) ?_
    refine ro_get (v := .int sz) FX hK hP 0 2 rfl rfl rfl i_g (by decide) kf_g_18 d_g_add_13 ?_
    refine lv_istore_n (lv' := [(3, .int sz), (0, .ref g), (1, .long zs)]) hx hb d_g_add_16 rfl hl (by decide) rfl (fun ls hl => ?_)
    refine lv_iload_n hx hb d_g_add_17 rfl (lv_at hl 0 rfl) ?_
    refine ro_SN (v := .long (f_x_only sz)) (As := [.int sz]) (rest := []) FX hK (c_x_only l D cA sz) trivial kc_x_only km_g_36 ki_x ks_x_only rfl ok_x_only ⟨Nat.le_of_ble_eq_true rfl, Nat.le_of_ble_eq_true rfl⟩ ⟨Nat.zero_le _, Nat.zero_le _⟩ hl.1 rfl (Nat.le_of_ble_eq_true rfl) d_g_add_18 ?_
    refine lv_lstore (lv' := [(4, .long (f_x_only sz)), (3, .int sz), (0, .ref g), (1, .long zs)]) hx hb d_g_add_21 hl (by decide) rfl (fun ls hl => ?_)
    refine lv_iconst (v := 0) hx hb d_g_add_23 (by decide) ?_
    refine lv_istore (lv' := [(6, .int 0), (4, .long (f_x_only sz)), (3, .int sz), (0, .ref g), (1, .long zs)]) hx hb d_g_add_24 hl (by decide) rfl (fun ls hl => ?_)
    have loop : ∀ (n k : Nat) (ac : Int64) (xi : Int32) (ls : Array Slot), k + n = 41 → k ≤ 40 → xi = nI k → lv_has ls 7 [(0, .ref g), (1, .long zs), (3, .int sz), (4, .long ac), (6, .int xi)] → W p l e (rmd 2) s m args below meth c s.heap [] 0 0 (MQ below (Qmu A (fun v0 H0 => v0 = some (.int ((L_g_add_26 ps rs sz zs n ac xi).1)) ∧ va_P D classes [(g, .inr (1, [.ref pa, .ref re, .int ((L_g_add_26 ps rs sz zs n ac xi).2.2.2), .long bu, .long sk])), (pa, .inl (cA 0, 40, .inr (.inl ((L_g_add_26 ps rs sz zs n ac xi).2.1)))), (re, .inl (cA 0, 40, .inr (.inl ((L_g_add_26 ps rs sz zs n ac xi).2.2.1))))] H0 ∧ va_D A [(g, .inr (1, [.ref pa, .ref re, .int ((L_g_add_26 ps rs sz zs n ac xi).2.2.2), .long bu, .long sk])), (pa, .inl (cA 0, 40, .inr (.inl ((L_g_add_26 ps rs sz zs n ac xi).2.1)))), (re, .inl (cA 0, 40, .inr (.inl ((L_g_add_26 ps rs sz zs n ac xi).2.2.1))))])) args s 0 0 A) (F0 m 26 ls []) := by
      intro n
      induction n with
      | zero =>
        intro k ac xi ls h1 h2
        exact absurd h1 (by omega)
      | succ n ih =>
        intro k ac xi ls hkn hk hxi hl
        refine lv_iload hx hb d_g_add_26 (lv_at hl 4 rfl) ?_
        refine lv_iload_n hx hb d_g_add_28 rfl (lv_at hl 2 rfl) ?_
        refine lv_icmp_ge (tgt := 59) hx hb d_g_add_29 (by decide) (fun c2 => ?_) (fun c2 => ?_)
        · have c2 := c2
          refine lv_aload_n hx hb d_g_add_59 rfl (lv_at hl 0 rfl) ?_
          refine ro_get (v := .ref pa) FX hK hP 0 0 rfl rfl rfl i_g (by decide) kf_g_9 d_g_add_60 ?_
          refine lv_iload_n hx hb d_g_add_63 rfl (lv_at hl 2 rfl) ?_
          refine lv_lload_n hx hb d_g_add_64 rfl (lv_at hl 1 rfl) ?_
          refine va_last (x := zs) hx hb hK.1 hP hD hS 1 0 rfl rfl (vin hjs hj (by decide)) d_g_add_65 (fun H locs hP hD hS => ?_)
          have hP : va_P D classes [(g, .inr (1, [.ref pa, .ref re, .int sz, .long bu, .long sk])), (pa, .inl (cA 0, 40, .inr (.inl (vp_updL ps sz.toNatClampNeg zs)))), (re, .inl (cA 0, 40, .inr (.inl rs)))] H := hP
          have hD : va_D A [(g, .inr (1, [.ref pa, .ref re, .int sz, .long bu, .long sk])), (pa, .inl (cA 0, 40, .inr (.inl (vp_updL ps sz.toNatClampNeg zs)))), (re, .inl (cA 0, 40, .inr (.inl rs)))] := hD
          refine lv_aload_n hx hb d_g_add_66 rfl (lv_at hl 0 rfl) ?_
          refine ro_get (v := .ref re) FX hK hP 0 1 rfl rfl rfl i_g (by decide) kf_g_15 d_g_add_67 ?_
          refine lv_iload_n hx hb d_g_add_70 rfl (lv_at hl 2 rfl) ?_
          refine lv_lload hx hb d_g_add_71 (lv_at hl 3 rfl) ?_
          refine va_last (x := ac) hx hb hK.1 hP hD hS 2 0 rfl rfl (vin hjs hj (by decide)) d_g_add_73 (fun H locs hP hD hS => ?_)
          have hP : va_P D classes [(g, .inr (1, [.ref pa, .ref re, .int sz, .long bu, .long sk])), (pa, .inl (cA 0, 40, .inr (.inl (vp_updL ps sz.toNatClampNeg zs)))), (re, .inl (cA 0, 40, .inr (.inl (vp_updL rs sz.toNatClampNeg ac))))] H := hP
          have hD : va_D A [(g, .inr (1, [.ref pa, .ref re, .int sz, .long bu, .long sk])), (pa, .inl (cA 0, 40, .inr (.inl (vp_updL ps sz.toNatClampNeg zs)))), (re, .inl (cA 0, 40, .inr (.inl (vp_updL rs sz.toNatClampNeg ac))))] := hD
          refine lv_aload_n hx hb d_g_add_74 rfl (lv_at hl 0 rfl) ?_
          refine lv_dup hx hb d_g_add_75 rfl ?_
          refine ro_get (v := .int sz) FX hK hP 0 2 rfl rfl rfl i_g (by decide) kf_g_18 d_g_add_76 ?_
          refine lv_iconst (v := 1) hx hb d_g_add_79 (by decide) ?_
          refine lv_iadd hx hb d_g_add_80 ?_
          refine va_put (D := D) (v := .int (sz + 1)) (ty := .int) hx hb hts i_g t_g t_g_ok n_g hown hK.1 hP hD hS 0 rfl rfl 2 (by decide) (hts _ kf_g_18) (fun _ h9 => h9) rfl (by decide +kernel) rfl rfl (Nat.le_of_ble_eq_true rfl) d_g_add_81 (fun H locs hP hD hS => ?_)
          have hP : va_P D classes [(g, .inr (1, [.ref pa, .ref re, .int (sz + 1), .long bu, .long sk])), (pa, .inl (cA 0, 40, .inr (.inl (vp_updL ps sz.toNatClampNeg zs)))), (re, .inl (cA 0, 40, .inr (.inl (vp_updL rs sz.toNatClampNeg ac))))] H := hP
          have hD : va_D A [(g, .inr (1, [.ref pa, .ref re, .int (sz + 1), .long bu, .long sk])), (pa, .inl (cA 0, 40, .inr (.inl (vp_updL ps sz.toNatClampNeg zs)))), (re, .inl (cA 0, 40, .inr (.inl (vp_updL rs sz.toNatClampNeg ac))))] := hD
          refine lv_iload_n hx hb d_g_add_84 rfl (lv_at hl 2 rfl) ?_
          exact mu_iret FX hS (by rw [show (L_g_add_26 ps rs sz zs (n + 1) ac xi) = (sz, vp_updL ps sz.toNatClampNeg zs, vp_updL rs sz.toNatClampNeg ac, sz + 1) from (by rw [L_g_add_26_s, if_pos c2])]; exact ⟨rfl, hP, hD⟩) d_g_add_85
        · have c2 := c2
          have hk1 : k < j := k_lt hxi hjs c2 (by omega)
          refine lv_lload_n hx hb d_g_add_32 rfl (lv_at hl 1 rfl) ?_
          refine lv_iload hx hb d_g_add_33 (lv_at hl 4 rfl) ?_
          refine ro_SN (v := .int (bz (f_x_contains zs xi))) (As := [.long zs, .int xi]) (rest := []) FX hK (c_x_contains l D cA zs xi) trivial kc_x_contains km_g_40 ki_x ks_x_contains rfl ok_x_contains ⟨Nat.le_of_ble_eq_true rfl, Nat.le_of_ble_eq_true rfl⟩ ⟨Nat.zero_le _, Nat.zero_le _⟩ hl.1 rfl (Nat.le_of_ble_eq_true rfl) d_g_add_35 ?_
          refine lv_if_eq (tgt := 53) hx hb d_g_add_38 (by decide) (fun c3 => ?_) (fun c3 => ?_)
          · have c3 := bz_f c3
            refine lv_iinc (v := xi + 1) (lv' := [(6, .int (xi + 1)), (0, .ref g), (1, .long zs), (3, .int sz), (4, .long ac)]) hx hb d_g_add_53 hl (k := 4) rfl rfl (by decide) rfl (fun ls hl => ?_)
            refine lv_goto (tgt := 26) hx hb d_g_add_56 (by decide) ?_
            rw [show (L_g_add_26 ps rs sz zs (n + 1) ac xi) = L_g_add_26 ps rs sz zs n ac (xi + 1) from (by rw [L_g_add_26_s, if_neg c2, if_neg c3])]
            exact ih (k + 1) ac (xi + 1) ls (by omega) (by omega) (by rw [hxi]; exact nI_1 _)  (lv_sub hl [1, 2, 3, 4, 0] rfl)
          · have c3 := bz_t c3
            refine lv_lload hx hb d_g_add_41 (lv_at hl 3 rfl) ?_
            refine lv_aload_n hx hb d_g_add_43 rfl (lv_at hl 0 rfl) ?_
            refine ro_get (v := .ref re) FX hK hP 0 1 rfl rfl rfl i_g (by decide) kf_g_15 d_g_add_44 ?_
            refine lv_iload hx hb d_g_add_47 (lv_at hl 4 rfl) ?_
            refine va_lald hx hb hK.1 hP 2 0 rfl rfl (vin hxi (Nat.lt_of_lt_of_le hk1 (by omega)) (by decide)) d_g_add_49 ?_
            refine lv_lor hx hb d_g_add_50 ?_
            refine lv_lstore (lv' := [(4, .long (ac ||| (rs xi.toNatClampNeg))), (0, .ref g), (1, .long zs), (3, .int sz), (6, .int xi)]) hx hb d_g_add_51 hl (by decide) rfl (fun ls hl => ?_)
            refine lv_iinc (v := xi + 1) (lv' := [(6, .int (xi + 1)), (4, .long (ac ||| (rs xi.toNatClampNeg))), (0, .ref g), (1, .long zs), (3, .int sz)]) hx hb d_g_add_53 hl (k := 4) rfl rfl (by decide) rfl (fun ls hl => ?_)
            refine lv_goto (tgt := 26) hx hb d_g_add_56 (by decide) ?_
            rw [show (L_g_add_26 ps rs sz zs (n + 1) ac xi) = L_g_add_26 ps rs sz zs n (ac ||| (rs xi.toNatClampNeg)) (xi + 1) from (by rw [L_g_add_26_s, if_neg c2, if_pos c3])]
            exact ih (k + 1) (ac ||| (rs xi.toNatClampNeg)) (xi + 1) ls (by omega) (by omega) (by rw [hxi]; exact nI_1 _)  (lv_sub hl [2, 3, 4, 1, 0] rfl)
    rw [show (f_g_add ps rs sz zs) = L_g_add_26 ps rs sz zs 41 (f_x_only sz) 0 from (by rw [f_g_add, if_pos c1])]
    exact loop 41 0 (f_x_only sz) 0 ls rfl (Nat.zero_le _) rfl  (lv_sub hl [3, 4, 2, 1, 0] rfl)
  · have c1 := bz_f c1
    refine lv_iconst (v := (-1)) hx hb d_g_add_10 (by decide) ?_
    exact mu_iret FX hS (by rw [show (f_g_add ps rs sz zs) = ((-1), ps, rs, sz) from (by rw [f_g_add, if_neg c1])]; exact ⟨rfl, hP, hD⟩) d_g_add_11
end
section
theorem d_t_init_0 : decode b_t_init 0 = .ok (.aload_n 0, 1) := by decide +kernel
theorem d_t_init_1 : decode b_t_init 1 = .ok (.invokespecial 3, 3) := by decide +kernel
theorem d_t_init_4 : decode b_t_init 4 = .ok (.aload_n 0, 1) := by decide +kernel
theorem d_t_init_5 : decode b_t_init 5 = .ok (.aload_n 1, 1) := by decide +kernel
theorem d_t_init_6 : decode b_t_init 6 = .ok (.putfield 9, 3) := by decide +kernel
theorem d_t_init_9 : decode b_t_init 9 = .ok (.aload_n 0, 1) := by decide +kernel
theorem d_t_init_10 : decode b_t_init 10 = .ok (.bipush 40, 2) := by decide +kernel
theorem d_t_init_12 : decode b_t_init 12 = .ok (.newarray .long, 2) := by decide +kernel
theorem d_t_init_14 : decode b_t_init 14 = .ok (.putfield 15, 3) := by decide +kernel
theorem d_t_init_17 : decode b_t_init 17 = .ok (.aload_n 0, 1) := by decide +kernel
theorem d_t_init_18 : decode b_t_init 18 = .ok (.lconst 0, 1) := by decide +kernel
theorem d_t_init_19 : decode b_t_init 19 = .ok (.putfield 19, 3) := by decide +kernel
theorem d_t_init_22 : decode b_t_init 22 = .ok (.aload_n 0, 1) := by decide +kernel
theorem d_t_init_23 : decode b_t_init 23 = .ok (.lconst 0, 1) := by decide +kernel
theorem d_t_init_24 : decode b_t_init 24 = .ok (.putfield 23, 3) := by decide +kernel
theorem d_t_init_27 : decode b_t_init 27 = .ok (.aload_n 0, 1) := by decide +kernel
theorem d_t_init_28 : decode b_t_init 28 = .ok (.iconst 0, 1) := by decide +kernel
theorem d_t_init_29 : decode b_t_init 29 = .ok (.putfield 26, 3) := by decide +kernel
theorem d_t_init_32 : decode b_t_init 32 = .ok (.aload_n 0, 1) := by decide +kernel
theorem d_t_init_33 : decode b_t_init 33 = .ok (.iconst (-1), 1) := by decide +kernel
theorem d_t_init_34 : decode b_t_init 34 = .ok (.putfield 30, 3) := by decide +kernel
theorem d_t_init_37 : decode b_t_init 37 = .ok (.aload_n 0, 1) := by decide +kernel
theorem d_t_init_38 : decode b_t_init 38 = .ok (.iconst 0, 1) := by decide +kernel
theorem d_t_init_39 : decode b_t_init 39 = .ok (.putfield 34, 3) := by decide +kernel
theorem d_t_init_42 : decode b_t_init 42 = .ok (.aload_n 0, 1) := by decide +kernel
theorem d_t_init_43 : decode b_t_init 43 = .ok (.iconst 1, 1) := by decide +kernel
theorem d_t_init_44 : decode b_t_init 44 = .ok (.putfield 37, 3) := by decide +kernel
theorem d_t_init_47 : decode b_t_init 47 = .ok (.aload_n 0, 1) := by decide +kernel
theorem d_t_init_48 : decode b_t_init 48 = .ok (.bipush 100, 2) := by decide +kernel
theorem d_t_init_50 : decode b_t_init 50 = .ok (.putfield 40, 3) := by decide +kernel
theorem d_t_init_53 : decode b_t_init 53 = .ok (.aload_n 0, 1) := by decide +kernel
theorem d_t_init_54 : decode b_t_init 54 = .ok (.iconst 0, 1) := by decide +kernel
theorem d_t_init_55 : decode b_t_init 55 = .ok (.putfield 43, 3) := by decide +kernel
theorem d_t_init_58 : decode b_t_init 58 = .ok (.aload_n 0, 1) := by decide +kernel
theorem d_t_init_59 : decode b_t_init 59 = .ok (.iconst 0, 1) := by decide +kernel
theorem d_t_init_60 : decode b_t_init 60 = .ok (.putfield 46, 3) := by decide +kernel
theorem d_t_init_63 : decode b_t_init 63 = .ok (.return_, 1) := by decide +kernel
set_option maxHeartbeats 4000000 in
set_option maxRecDepth 100000 in
theorem c_t_init (l : Launch) (D : va_G) (cA : Nat → ClassId) (t : Nat) (gg : Nat) (sz : Nat) : Met l y_t_init (.code y_t_init b_t_init 2 none :: tb) (rma 1 1 40) (Pro D cA [.ref t, .ref gg] (fun H0 => H0.size = sz ∧ va_P D classes [(t, .inr (2, [.null, .null, .long 0, .long 0, .int (bz false), .int 0, .int 0, .int 0, .int 0, .int 0, .int 0]))] H0 ∧ va_D (fun _ => True) [(t, .inr (2, [.null, .null, .long 0, .long 0, .int (bz false), .int 0, .int 0, .int 0, .int 0, .int 0, .int 0]))])) (Qmu (va_A [(t, .inr (2, [.null, .null, .long 0, .long 0, .int (bz false), .int 0, .int 0, .int 0, .int 0, .int 0, .int 0]))] sz) (fun v0 H0 => v0 = none ∧ ∃ n0 : Nat, va_P D classes [(t, .inr (2, [.ref gg, .ref n0, .long 0, .long 0, .int (bz false), .int (-1), .int 0, .int 1, .int 100, .int 0, .int 0])), (n0, .inl (cA 0, 40, .inr (.inl (fun _ => 0))))] H0 ∧ va_D (va_A [(t, .inr (2, [.null, .null, .long 0, .long 0, .int (bz false), .int 0, .int 0, .int 0, .int 0, .int 0, .int 0]))] sz) [(t, .inr (2, [.ref gg, .ref n0, .long 0, .long 0, .int (bz false), .int (-1), .int 0, .int 1, .int 100, .int 0, .int 0])), (n0, .inl (cA 0, 40, .inr (.inl (fun _ => 0))))])) 1 40 (va_A [(t, .inr (2, [.null, .null, .long 0, .long 0, .int (bz false), .int 0, .int 0, .int 0, .int 0, .int 0, .int 0]))] sz) := by
  refine ro_in (by decide) (Nat.le_of_ble_eq_true rfl) (fun p e s m below meth c ls FX hnm hK hP hl => ?_)
  have hl : lv_has ls 2 [(0, .ref t), (1, .ref gg)] := hl
  obtain ⟨hsz, hP, hD0⟩ := hP
  subst hsz
  have hP : va_P D classes [(t, .inr (2, [.null, .null, .long 0, .long 0, .int (bz false), .int 0, .int 0, .int 0, .int 0, .int 0, .int 0]))] s.heap := hP
  have hD := hD0.self (sz := s.heap.size)
  generalize hAe : va_A [(t, .inr (2, [.null, .null, .long 0, .long 0, .int (bz false), .int 0, .int 0, .int 0, .int 0, .int 0, .int 0]))] s.heap.size = A at hD ⊢
  have hA : ∀ q : Nat, s.heap.size ≤ q → A q := fun q h => by rw [← hAe]; exact Or.inr h
  have hS : va_S A s.heap s.heap [] := va_S.rf
  generalize ([.ref t, .ref gg] : List Value).toArray = args at FX ⊢
  obtain ⟨hx, hb, hml, hown, hts, hr, hlk⟩ := id FX
  have hin : meth.name = "<init>" := hnm
  refine lv_aload_n hx hb d_t_init_0 rfl (lv_at hl 0 rfl) ?_
  refine W.objInit hx hb hown (hts _ km_t_3) (hts _ ks_objInit) (hts _ kc_objInit) rfl (by rw [hml]; exact hl.1) rfl d_t_init_1 (Nat.le_of_ble_eq_true rfl) (Nat.le_of_ble_eq_true rfl) ?_
  refine W.eq (g2 := F0 m 4 ls []) rfl ?_
  refine lv_aload_n hx hb d_t_init_4 rfl (lv_at hl 0 rfl) ?_
  refine lv_aload_n hx hb d_t_init_5 rfl (lv_at hl 1 rfl) ?_
  refine va_putF (D := D) (v := .ref gg) (ty := (.object "CulpritSearch$Graph")) hx hb hts i_t t_t t_t_ok n_t hown hK.1 hP hD hS 0 rfl rfl 0 (by decide) (hts _ kf_t_9) (fun _ h9 => h9) rfl hin rfl (by decide +kernel) rfl rfl (Nat.le_of_ble_eq_true rfl) d_t_init_6 (fun H locs hP hD hS => ?_)
  have hP : va_P D classes [(t, .inr (2, [.ref gg, .null, .long 0, .long 0, .int (bz false), .int 0, .int 0, .int 0, .int 0, .int 0, .int 0]))] H := hP
  have hD : va_D A [(t, .inr (2, [.ref gg, .null, .long 0, .long 0, .int (bz false), .int 0, .int 0, .int 0, .int 0, .int 0, .int 0]))] := hD
  refine lv_aload_n hx hb d_t_init_9 rfl (lv_at hl 0 rfl) ?_
  refine lv_bipush (v := 40) hx hb d_t_init_10 (by decide) ?_
  refine va_newa (atype := .long) (ty := .long) (a0 := (40, .inr (.inl (fun _ => 0)))) hx hb (hts _ ka_long) rfl hK.1 hP hD hS hA (fun _ => rfl) (by decide) rfl (by decide) (Nat.le_of_ble_eq_true rfl) (Nat.le_of_ble_eq_true rfl) d_t_init_12 (fun q1 cL H hKK hP hD hS => ?_)
  obtain rfl := arr_same 0 rfl hK hKK (fun _ _ => ra_prim (fun _ h => by cases h))
  have hP : va_P D classes [(t, .inr (2, [.ref gg, .null, .long 0, .long 0, .int (bz false), .int 0, .int 0, .int 0, .int 0, .int 0, .int 0])), (q1, .inl (cA 0, 40, .inr (.inl (fun _ => 0))))] H := hP
  have hD : va_D A [(t, .inr (2, [.ref gg, .null, .long 0, .long 0, .int (bz false), .int 0, .int 0, .int 0, .int 0, .int 0, .int 0])), (q1, .inl (cA 0, 40, .inr (.inl (fun _ => 0))))] := hD
  refine va_putF (D := D) (v := .ref q1) (ty := (.array .long)) hx hb hts i_t t_t t_t_ok n_t hown hK.1 hP hD hS 0 rfl rfl 1 (by decide) (hts _ kf_t_15) (fun _ h9 => h9) rfl hin rfl (by decide +kernel) rfl rfl (Nat.le_of_ble_eq_true rfl) d_t_init_14 (fun H locs hP hD hS => ?_)
  have hP : va_P D classes [(t, .inr (2, [.ref gg, .ref q1, .long 0, .long 0, .int (bz false), .int 0, .int 0, .int 0, .int 0, .int 0, .int 0])), (q1, .inl (cA 0, 40, .inr (.inl (fun _ => 0))))] H := hP
  have hD : va_D A [(t, .inr (2, [.ref gg, .ref q1, .long 0, .long 0, .int (bz false), .int 0, .int 0, .int 0, .int 0, .int 0, .int 0])), (q1, .inl (cA 0, 40, .inr (.inl (fun _ => 0))))] := hD
  refine lv_aload_n hx hb d_t_init_17 rfl (lv_at hl 0 rfl) ?_
  refine lv_lconst (v := 0) hx hb d_t_init_18 (by decide) ?_
  refine va_put (D := D) (v := .long 0) (ty := .long) hx hb hts i_t t_t t_t_ok n_t hown hK.1 hP hD hS 0 rfl rfl 2 (by decide) (hts _ kf_t_19) (fun _ h9 => h9) rfl (by decide +kernel) rfl rfl (Nat.le_of_ble_eq_true rfl) d_t_init_19 (fun H locs hP hD hS => ?_)
  have hP : va_P D classes [(t, .inr (2, [.ref gg, .ref q1, .long 0, .long 0, .int (bz false), .int 0, .int 0, .int 0, .int 0, .int 0, .int 0])), (q1, .inl (cA 0, 40, .inr (.inl (fun _ => 0))))] H := hP
  have hD : va_D A [(t, .inr (2, [.ref gg, .ref q1, .long 0, .long 0, .int (bz false), .int 0, .int 0, .int 0, .int 0, .int 0, .int 0])), (q1, .inl (cA 0, 40, .inr (.inl (fun _ => 0))))] := hD
  refine lv_aload_n hx hb d_t_init_22 rfl (lv_at hl 0 rfl) ?_
  refine lv_lconst (v := 0) hx hb d_t_init_23 (by decide) ?_
  refine va_put (D := D) (v := .long 0) (ty := .long) hx hb hts i_t t_t t_t_ok n_t hown hK.1 hP hD hS 0 rfl rfl 3 (by decide) (hts _ kf_t_23) (fun _ h9 => h9) rfl (by decide +kernel) rfl rfl (Nat.le_of_ble_eq_true rfl) d_t_init_24 (fun H locs hP hD hS => ?_)
  have hP : va_P D classes [(t, .inr (2, [.ref gg, .ref q1, .long 0, .long 0, .int (bz false), .int 0, .int 0, .int 0, .int 0, .int 0, .int 0])), (q1, .inl (cA 0, 40, .inr (.inl (fun _ => 0))))] H := hP
  have hD : va_D A [(t, .inr (2, [.ref gg, .ref q1, .long 0, .long 0, .int (bz false), .int 0, .int 0, .int 0, .int 0, .int 0, .int 0])), (q1, .inl (cA 0, 40, .inr (.inl (fun _ => 0))))] := hD
  refine lv_aload_n hx hb d_t_init_27 rfl (lv_at hl 0 rfl) ?_
  refine lv_iconst (v := 0) hx hb d_t_init_28 (by decide) ?_
  refine W.eq (g2 := F0 m 29 ls [.int (bz false), .ref t]) rfl ?_
  refine va_put (D := D) (v := .int (bz false)) (ty := .boolean) hx hb hts i_t t_t t_t_ok n_t hown hK.1 hP hD hS 0 rfl rfl 4 (by decide) (hts _ kf_t_26) (fun _ h9 => h9) rfl (by decide +kernel) (bz_n _) (bz_ft _) (Nat.le_of_ble_eq_true rfl) d_t_init_29 (fun H locs hP hD hS => ?_)
  have hP : va_P D classes [(t, .inr (2, [.ref gg, .ref q1, .long 0, .long 0, .int (bz false), .int 0, .int 0, .int 0, .int 0, .int 0, .int 0])), (q1, .inl (cA 0, 40, .inr (.inl (fun _ => 0))))] H := hP
  have hD : va_D A [(t, .inr (2, [.ref gg, .ref q1, .long 0, .long 0, .int (bz false), .int 0, .int 0, .int 0, .int 0, .int 0, .int 0])), (q1, .inl (cA 0, 40, .inr (.inl (fun _ => 0))))] := hD
  refine lv_aload_n hx hb d_t_init_32 rfl (lv_at hl 0 rfl) ?_
  refine lv_iconst (v := (-1)) hx hb d_t_init_33 (by decide) ?_
  refine va_put (D := D) (v := .int (-1)) (ty := .int) hx hb hts i_t t_t t_t_ok n_t hown hK.1 hP hD hS 0 rfl rfl 5 (by decide) (hts _ kf_t_30) (fun _ h9 => h9) rfl (by decide +kernel) rfl rfl (Nat.le_of_ble_eq_true rfl) d_t_init_34 (fun H locs hP hD hS => ?_)
  have hP : va_P D classes [(t, .inr (2, [.ref gg, .ref q1, .long 0, .long 0, .int (bz false), .int (-1), .int 0, .int 0, .int 0, .int 0, .int 0])), (q1, .inl (cA 0, 40, .inr (.inl (fun _ => 0))))] H := hP
  have hD : va_D A [(t, .inr (2, [.ref gg, .ref q1, .long 0, .long 0, .int (bz false), .int (-1), .int 0, .int 0, .int 0, .int 0, .int 0])), (q1, .inl (cA 0, 40, .inr (.inl (fun _ => 0))))] := hD
  refine lv_aload_n hx hb d_t_init_37 rfl (lv_at hl 0 rfl) ?_
  refine lv_iconst (v := 0) hx hb d_t_init_38 (by decide) ?_
  refine va_put (D := D) (v := .int 0) (ty := .int) hx hb hts i_t t_t t_t_ok n_t hown hK.1 hP hD hS 0 rfl rfl 6 (by decide) (hts _ kf_t_34) (fun _ h9 => h9) rfl (by decide +kernel) rfl rfl (Nat.le_of_ble_eq_true rfl) d_t_init_39 (fun H locs hP hD hS => ?_)
  have hP : va_P D classes [(t, .inr (2, [.ref gg, .ref q1, .long 0, .long 0, .int (bz false), .int (-1), .int 0, .int 0, .int 0, .int 0, .int 0])), (q1, .inl (cA 0, 40, .inr (.inl (fun _ => 0))))] H := hP
  have hD : va_D A [(t, .inr (2, [.ref gg, .ref q1, .long 0, .long 0, .int (bz false), .int (-1), .int 0, .int 0, .int 0, .int 0, .int 0])), (q1, .inl (cA 0, 40, .inr (.inl (fun _ => 0))))] := hD
  refine lv_aload_n hx hb d_t_init_42 rfl (lv_at hl 0 rfl) ?_
  refine lv_iconst (v := 1) hx hb d_t_init_43 (by decide) ?_
  refine va_put (D := D) (v := .int 1) (ty := .int) hx hb hts i_t t_t t_t_ok n_t hown hK.1 hP hD hS 0 rfl rfl 7 (by decide) (hts _ kf_t_37) (fun _ h9 => h9) rfl (by decide +kernel) rfl rfl (Nat.le_of_ble_eq_true rfl) d_t_init_44 (fun H locs hP hD hS => ?_)
  have hP : va_P D classes [(t, .inr (2, [.ref gg, .ref q1, .long 0, .long 0, .int (bz false), .int (-1), .int 0, .int 1, .int 0, .int 0, .int 0])), (q1, .inl (cA 0, 40, .inr (.inl (fun _ => 0))))] H := hP
  have hD : va_D A [(t, .inr (2, [.ref gg, .ref q1, .long 0, .long 0, .int (bz false), .int (-1), .int 0, .int 1, .int 0, .int 0, .int 0])), (q1, .inl (cA 0, 40, .inr (.inl (fun _ => 0))))] := hD
  refine lv_aload_n hx hb d_t_init_47 rfl (lv_at hl 0 rfl) ?_
  refine lv_bipush (v := 100) hx hb d_t_init_48 (by decide) ?_
  refine va_put (D := D) (v := .int 100) (ty := .int) hx hb hts i_t t_t t_t_ok n_t hown hK.1 hP hD hS 0 rfl rfl 8 (by decide) (hts _ kf_t_40) (fun _ h9 => h9) rfl (by decide +kernel) rfl rfl (Nat.le_of_ble_eq_true rfl) d_t_init_50 (fun H locs hP hD hS => ?_)
  have hP : va_P D classes [(t, .inr (2, [.ref gg, .ref q1, .long 0, .long 0, .int (bz false), .int (-1), .int 0, .int 1, .int 100, .int 0, .int 0])), (q1, .inl (cA 0, 40, .inr (.inl (fun _ => 0))))] H := hP
  have hD : va_D A [(t, .inr (2, [.ref gg, .ref q1, .long 0, .long 0, .int (bz false), .int (-1), .int 0, .int 1, .int 100, .int 0, .int 0])), (q1, .inl (cA 0, 40, .inr (.inl (fun _ => 0))))] := hD
  refine lv_aload_n hx hb d_t_init_53 rfl (lv_at hl 0 rfl) ?_
  refine lv_iconst (v := 0) hx hb d_t_init_54 (by decide) ?_
  refine va_put (D := D) (v := .int 0) (ty := .int) hx hb hts i_t t_t t_t_ok n_t hown hK.1 hP hD hS 0 rfl rfl 9 (by decide) (hts _ kf_t_43) (fun _ h9 => h9) rfl (by decide +kernel) rfl rfl (Nat.le_of_ble_eq_true rfl) d_t_init_55 (fun H locs hP hD hS => ?_)
  have hP : va_P D classes [(t, .inr (2, [.ref gg, .ref q1, .long 0, .long 0, .int (bz false), .int (-1), .int 0, .int 1, .int 100, .int 0, .int 0])), (q1, .inl (cA 0, 40, .inr (.inl (fun _ => 0))))] H := hP
  have hD : va_D A [(t, .inr (2, [.ref gg, .ref q1, .long 0, .long 0, .int (bz false), .int (-1), .int 0, .int 1, .int 100, .int 0, .int 0])), (q1, .inl (cA 0, 40, .inr (.inl (fun _ => 0))))] := hD
  refine lv_aload_n hx hb d_t_init_58 rfl (lv_at hl 0 rfl) ?_
  refine lv_iconst (v := 0) hx hb d_t_init_59 (by decide) ?_
  refine va_put (D := D) (v := .int 0) (ty := .int) hx hb hts i_t t_t t_t_ok n_t hown hK.1 hP hD hS 0 rfl rfl 10 (by decide) (hts _ kf_t_46) (fun _ h9 => h9) rfl (by decide +kernel) rfl rfl (Nat.le_of_ble_eq_true rfl) d_t_init_60 (fun H locs hP hD hS => ?_)
  have hP : va_P D classes [(t, .inr (2, [.ref gg, .ref q1, .long 0, .long 0, .int (bz false), .int (-1), .int 0, .int 1, .int 100, .int 0, .int 0])), (q1, .inl (cA 0, 40, .inr (.inl (fun _ => 0))))] H := hP
  have hD : va_D A [(t, .inr (2, [.ref gg, .ref q1, .long 0, .long 0, .int (bz false), .int (-1), .int 0, .int 1, .int 100, .int 0, .int 0])), (q1, .inl (cA 0, 40, .inr (.inl (fun _ => 0))))] := hD
  have hP : va_P D classes [(t, .inr (2, [.ref gg, .ref q1, .long 0, .long 0, .int (bz false), .int (-1), .int 0, .int 1, .int 100, .int 0, .int 0])), (q1, .inl (cA 0, 40, .inr (.inl (fun _ => 0))))] H := hP.sub [0, 1] rfl
  have hD : va_D A [(t, .inr (2, [.ref gg, .ref q1, .long 0, .long 0, .int (bz false), .int (-1), .int 0, .int 1, .int 100, .int 0, .int 0])), (q1, .inl (cA 0, 40, .inr (.inl (fun _ => 0))))] := hD.sub [0, 1] (by decide) rfl
  exact mu_vret FX hS ⟨rfl, q1, hP, hD⟩ d_t_init_63
theorem d_t_isSearched_0 : decode b_t_isSearched 0 = .ok (.aload_n 0, 1) := by decide +kernel
theorem d_t_isSearched_1 : decode b_t_isSearched 1 = .ok (.getfield 26, 3) := by decide +kernel
theorem d_t_isSearched_4 : decode b_t_isSearched 4 = .ok (.ireturn, 1) := by decide +kernel
def f_t_isSearched (se : Bool) : Bool := se
set_option maxHeartbeats 4000000 in
set_option maxRecDepth 100000 in
theorem c_t_isSearched (l : Launch) (D : va_G) (cA : Nat → ClassId) (t wa : Nat) (go cl : Int64) (se : Bool) (bad fp fq su an sks : Int32) (wt : Nat → Int64) (g pa re : Nat) (ps rs : Nat → Int64) (sz : Int32) (bu sk : Int64) : Met l y_t_isSearched (.code y_t_isSearched b_t_isSearched 1 (some .boolean) :: tb) (rmd 0) (Pro D cA [.ref t] (va_P D classes [(t, .inr (2, [.ref g, .ref wa, .long go, .long cl, .int (bz se), .int bad, .int fp, .int fq, .int su, .int an, .int sks])), (wa, .inl (cA 0, 40, .inr (.inl wt))), (g, .inr (1, [.ref pa, .ref re, .int sz, .long bu, .long sk])), (pa, .inl (cA 0, 40, .inr (.inl ps))), (re, .inl (cA 0, 40, .inr (.inl rs)))])) (Qro (.int (bz (f_t_isSearched se)))) 0 0 nof := by
  refine ro_in (by decide) (Nat.le_of_ble_eq_true rfl) (fun p e s m below meth c ls FX hnm hK hP hl => ?_)
  have hl : lv_has ls 1 [(0, .ref t)] := hl
  have hP : va_P D classes [(t, .inr (2, [.ref g, .ref wa, .long go, .long cl, .int (bz se), .int bad, .int fp, .int fq, .int su, .int an, .int sks])), (wa, .inl (cA 0, 40, .inr (.inl wt))), (g, .inr (1, [.ref pa, .ref re, .int sz, .long bu, .long sk])), (pa, .inl (cA 0, 40, .inr (.inl ps))), (re, .inl (cA 0, 40, .inr (.inl rs)))] s.heap := hP
  generalize ([.ref t] : List Value).toArray = args at FX ⊢
  obtain ⟨hx, hb, hml, hown, hts, hr, hlk⟩ := id FX
  refine lv_aload_n hx hb d_t_isSearched_0 rfl (lv_at hl 0 rfl) ?_
  refine ro_get (v := .int (bz se)) FX hK hP 0 4 rfl rfl rfl i_t (by decide) kf_t_26 d_t_isSearched_1 ?_
  exact ro_zret FX (by rw [f_t_isSearched] <;> rfl) d_t_isSearched_4
theorem d_t_isCleared_0 : decode b_t_isCleared 0 = .ok (.aload_n 0, 1) := by decide +kernel
theorem d_t_isCleared_1 : decode b_t_isCleared 1 = .ok (.getfield 23, 3) := by decide +kernel
theorem d_t_isCleared_4 : decode b_t_isCleared 4 = .ok (.iload_n 1, 1) := by decide +kernel
theorem d_t_isCleared_5 : decode b_t_isCleared 5 = .ok (.invokestatic 49, 3) := by decide +kernel
theorem d_t_isCleared_8 : decode b_t_isCleared 8 = .ok (.ireturn, 1) := by decide +kernel
def f_t_isCleared (cl : Int64) (nu : Int32) : Bool := (f_x_contains cl nu)
set_option maxHeartbeats 4000000 in
set_option maxRecDepth 100000 in
theorem c_t_isCleared (l : Launch) (D : va_G) (cA : Nat → ClassId) (t wa : Nat) (go cl : Int64) (se : Bool) (bad fp fq su an sks : Int32) (wt : Nat → Int64) (g pa re : Nat) (ps rs : Nat → Int64) (sz : Int32) (bu sk : Int64) (nu : Int32) : Met l y_t_isCleared (.code y_t_isCleared b_t_isCleared 2 (some .boolean) :: tb) (rmd 2) (Pro D cA [.ref t, .int nu] (va_P D classes [(t, .inr (2, [.ref g, .ref wa, .long go, .long cl, .int (bz se), .int bad, .int fp, .int fq, .int su, .int an, .int sks])), (wa, .inl (cA 0, 40, .inr (.inl wt))), (g, .inr (1, [.ref pa, .ref re, .int sz, .long bu, .long sk])), (pa, .inl (cA 0, 40, .inr (.inl ps))), (re, .inl (cA 0, 40, .inr (.inl rs)))])) (Qro (.int (bz (f_t_isCleared cl nu)))) 0 0 nof := by
  refine ro_in (by decide) (Nat.le_of_ble_eq_true rfl) (fun p e s m below meth c ls FX hnm hK hP hl => ?_)
  have hl : lv_has ls 2 [(0, .ref t), (1, .int nu)] := hl
  have hP : va_P D classes [(t, .inr (2, [.ref g, .ref wa, .long go, .long cl, .int (bz se), .int bad, .int fp, .int fq, .int su, .int an, .int sks])), (wa, .inl (cA 0, 40, .inr (.inl wt))), (g, .inr (1, [.ref pa, .ref re, .int sz, .long bu, .long sk])), (pa, .inl (cA 0, 40, .inr (.inl ps))), (re, .inl (cA 0, 40, .inr (.inl rs)))] s.heap := hP
  generalize ([.ref t, .int nu] : List Value).toArray = args at FX ⊢
  obtain ⟨hx, hb, hml, hown, hts, hr, hlk⟩ := id FX
  refine lv_aload_n hx hb d_t_isCleared_0 rfl (lv_at hl 0 rfl) ?_
  refine ro_get (v := .long cl) FX hK hP 0 3 rfl rfl rfl i_t (by decide) kf_t_23 d_t_isCleared_1 ?_
  refine lv_iload_n hx hb d_t_isCleared_4 rfl (lv_at hl 1 rfl) ?_
  refine ro_SN (v := .int (bz (f_x_contains cl nu))) (As := [.long cl, .int nu]) (rest := []) FX hK (c_x_contains l D cA cl nu) trivial kc_x_contains km_t_49 ki_x ks_x_contains rfl ok_x_contains ⟨Nat.le_of_ble_eq_true rfl, Nat.le_of_ble_eq_true rfl⟩ ⟨Nat.zero_le _, Nat.zero_le _⟩ hl.1 rfl (Nat.le_of_ble_eq_true rfl) d_t_isCleared_5 ?_
  exact ro_zret FX (by rw [f_t_isCleared] <;> rfl) d_t_isCleared_8
theorem d_t_weightOf_0 : decode b_t_weightOf 0 = .ok (.iload_n 1, 1) := by decide +kernel
theorem d_t_weightOf_1 : decode b_t_weightOf 1 = .ok (.ifCond .lt 21, 3) := by decide +kernel
theorem d_t_weightOf_4 : decode b_t_weightOf 4 = .ok (.iload_n 1, 1) := by decide +kernel
theorem d_t_weightOf_5 : decode b_t_weightOf 5 = .ok (.aload_n 0, 1) := by decide +kernel
theorem d_t_weightOf_6 : decode b_t_weightOf 6 = .ok (.getfield 15, 3) := by decide +kernel
theorem d_t_weightOf_9 : decode b_t_weightOf 9 = .ok (.arraylength, 1) := by decide +kernel
theorem d_t_weightOf_10 : decode b_t_weightOf 10 = .ok (.if_icmp .ge 12, 3) := by decide +kernel
theorem d_t_weightOf_13 : decode b_t_weightOf 13 = .ok (.aload_n 0, 1) := by decide +kernel
theorem d_t_weightOf_14 : decode b_t_weightOf 14 = .ok (.getfield 15, 3) := by decide +kernel
theorem d_t_weightOf_17 : decode b_t_weightOf 17 = .ok (.iload_n 1, 1) := by decide +kernel
theorem d_t_weightOf_18 : decode b_t_weightOf 18 = .ok (.laload, 1) := by decide +kernel
theorem d_t_weightOf_19 : decode b_t_weightOf 19 = .ok (.goto 4, 3) := by decide +kernel
theorem d_t_weightOf_22 : decode b_t_weightOf 22 = .ok (.lconst 0, 1) := by decide +kernel
theorem d_t_weightOf_23 : decode b_t_weightOf 23 = .ok (.lreturn, 1) := by decide +kernel
def f_t_weightOf (wt : Nat → Int64) (nu : Int32) : Int64 := if nu < 0 then
    (0)
  else
    (if 40 ≤ nu then
      (0)
    else
      (wt nu.toNatClampNeg))
set_option maxHeartbeats 4000000 in
set_option maxRecDepth 100000 in
theorem c_t_weightOf (l : Launch) (D : va_G) (cA : Nat → ClassId) (t wa : Nat) (go cl : Int64) (se : Bool) (bad fp fq su an sks : Int32) (wt : Nat → Int64) (g pa re : Nat) (ps rs : Nat → Int64) (sz : Int32) (bu sk : Int64) (nu : Int32) : Met l y_t_weightOf (.code y_t_weightOf b_t_weightOf 2 (some .long) :: tb) (rmd 0) (Pro D cA [.ref t, .int nu] (va_P D classes [(t, .inr (2, [.ref g, .ref wa, .long go, .long cl, .int (bz se), .int bad, .int fp, .int fq, .int su, .int an, .int sks])), (wa, .inl (cA 0, 40, .inr (.inl wt))), (g, .inr (1, [.ref pa, .ref re, .int sz, .long bu, .long sk])), (pa, .inl (cA 0, 40, .inr (.inl ps))), (re, .inl (cA 0, 40, .inr (.inl rs)))])) (Qro (.long (f_t_weightOf wt nu))) 0 0 nof := by
  refine ro_in (by decide) (Nat.le_of_ble_eq_true rfl) (fun p e s m below meth c ls FX hnm hK hP hl => ?_)
  have hl : lv_has ls 2 [(0, .ref t), (1, .int nu)] := hl
  have hP : va_P D classes [(t, .inr (2, [.ref g, .ref wa, .long go, .long cl, .int (bz se), .int bad, .int fp, .int fq, .int su, .int an, .int sks])), (wa, .inl (cA 0, 40, .inr (.inl wt))), (g, .inr (1, [.ref pa, .ref re, .int sz, .long bu, .long sk])), (pa, .inl (cA 0, 40, .inr (.inl ps))), (re, .inl (cA 0, 40, .inr (.inl rs)))] s.heap := hP
  generalize ([.ref t, .int nu] : List Value).toArray = args at FX ⊢
  obtain ⟨hx, hb, hml, hown, hts, hr, hlk⟩ := id FX
  refine lv_iload_n hx hb d_t_weightOf_0 rfl (lv_at hl 1 rfl) ?_
  refine lv_if_lt (tgt := 22) hx hb d_t_weightOf_1 (by decide) (fun c1 => ?_) (fun c1 => ?_)
  · have c1 := c1
    refine lv_lconst (v := 0) hx hb d_t_weightOf_22 (by decide) ?_
    exact ro_lret FX (by rw [f_t_weightOf, if_pos c1]) d_t_weightOf_23
  · have c1 := c1
    refine lv_iload_n hx hb d_t_weightOf_4 rfl (lv_at hl 1 rfl) ?_
    refine lv_aload_n hx hb d_t_weightOf_5 rfl (lv_at hl 0 rfl) ?_
    refine ro_get (v := .ref wa) FX hK hP 0 1 rfl rfl rfl i_t (by decide) kf_t_15 d_t_weightOf_6 ?_
    refine va_alen (v := 40) hx hb hK.1 hP 1 0 rfl rfl rfl d_t_weightOf_9 ?_
    refine lv_icmp_ge (tgt := 22) hx hb d_t_weightOf_10 (by decide) (fun c2 => ?_) (fun c2 => ?_)
    · have c2 := c2
      refine lv_lconst (v := 0) hx hb d_t_weightOf_22 (by decide) ?_
      exact ro_lret FX (by rw [f_t_weightOf, if_neg c1, if_pos c2]) d_t_weightOf_23
    · have c2 := c2
      refine lv_aload_n hx hb d_t_weightOf_13 rfl (lv_at hl 0 rfl) ?_
      refine ro_get (v := .ref wa) FX hK hP 0 1 rfl rfl rfl i_t (by decide) kf_t_15 d_t_weightOf_14 ?_
      refine lv_iload_n hx hb d_t_weightOf_17 rfl (lv_at hl 1 rfl) ?_
      refine va_lald hx hb hK.1 hP 1 0 rfl rfl (vin2 c1 c2) d_t_weightOf_18 ?_
      refine lv_goto (tgt := 23) hx hb d_t_weightOf_19 (by decide) ?_
      exact ro_lret FX (by rw [f_t_weightOf, if_neg c1, if_neg c2]) d_t_weightOf_23
theorem d_t_weightWithin_0 : decode b_t_weightWithin 0 = .ok (.lconst 0, 1) := by decide +kernel
theorem d_t_weightWithin_1 : decode b_t_weightWithin 1 = .ok (.lstore_n 3, 1) := by decide +kernel
theorem d_t_weightWithin_2 : decode b_t_weightWithin 2 = .ok (.iconst 0, 1) := by decide +kernel
theorem d_t_weightWithin_3 : decode b_t_weightWithin 3 = .ok (.istore 5, 2) := by decide +kernel
theorem d_t_weightWithin_5 : decode b_t_weightWithin 5 = .ok (.iload 5, 2) := by decide +kernel
theorem d_t_weightWithin_7 : decode b_t_weightWithin 7 = .ok (.aload_n 0, 1) := by decide +kernel
theorem d_t_weightWithin_8 : decode b_t_weightWithin 8 = .ok (.getfield 15, 3) := by decide +kernel
theorem d_t_weightWithin_11 : decode b_t_weightWithin 11 = .ok (.arraylength, 1) := by decide +kernel
theorem d_t_weightWithin_12 : decode b_t_weightWithin 12 = .ok (.if_icmp .ge 28, 3) := by decide +kernel
theorem d_t_weightWithin_15 : decode b_t_weightWithin 15 = .ok (.lload_n 1, 1) := by decide +kernel
theorem d_t_weightWithin_16 : decode b_t_weightWithin 16 = .ok (.iload 5, 2) := by decide +kernel
theorem d_t_weightWithin_18 : decode b_t_weightWithin 18 = .ok (.invokestatic 49, 3) := by decide +kernel
theorem d_t_weightWithin_21 : decode b_t_weightWithin 21 = .ok (.ifCond .eq 13, 3) := by decide +kernel
theorem d_t_weightWithin_24 : decode b_t_weightWithin 24 = .ok (.lload_n 3, 1) := by decide +kernel
theorem d_t_weightWithin_25 : decode b_t_weightWithin 25 = .ok (.aload_n 0, 1) := by decide +kernel
theorem d_t_weightWithin_26 : decode b_t_weightWithin 26 = .ok (.getfield 15, 3) := by decide +kernel
theorem d_t_weightWithin_29 : decode b_t_weightWithin 29 = .ok (.iload 5, 2) := by decide +kernel
theorem d_t_weightWithin_31 : decode b_t_weightWithin 31 = .ok (.laload, 1) := by decide +kernel
theorem d_t_weightWithin_32 : decode b_t_weightWithin 32 = .ok (.ladd, 1) := by decide +kernel
theorem d_t_weightWithin_33 : decode b_t_weightWithin 33 = .ok (.lstore_n 3, 1) := by decide +kernel
theorem d_t_weightWithin_34 : decode b_t_weightWithin 34 = .ok (.iinc 5 1, 3) := by decide +kernel
theorem d_t_weightWithin_37 : decode b_t_weightWithin 37 = .ok (.goto (-32), 3) := by decide +kernel
theorem d_t_weightWithin_40 : decode b_t_weightWithin 40 = .ok (.lload_n 3, 1) := by decide +kernel
theorem d_t_weightWithin_41 : decode b_t_weightWithin 41 = .ok (.lreturn, 1) := by decide +kernel
def L_t_weightWithin_5 (wt : Nat → Int64) (zs : Int64) : Nat → Int64 → Int32 → Int64
  | 0, _, _ => 0
  | n + 1, ac, xi => if 40 ≤ xi then
    (ac)
  else
    (if (f_x_contains zs xi) = true then
      (L_t_weightWithin_5 wt zs n (ac + (wt xi.toNatClampNeg)) (xi + 1))
    else
      (L_t_weightWithin_5 wt zs n ac (xi + 1)))
theorem L_t_weightWithin_5_s (wt : Nat → Int64) (zs : Int64) (n : Nat) (ac : Int64) (xi : Int32) : L_t_weightWithin_5 wt zs (n + 1) ac xi = if 40 ≤ xi then
    (ac)
  else
    (if (f_x_contains zs xi) = true then
      (L_t_weightWithin_5 wt zs n (ac + (wt xi.toNatClampNeg)) (xi + 1))
    else
      (L_t_weightWithin_5 wt zs n ac (xi + 1))) := rfl
def f_t_weightWithin (wt : Nat → Int64) (zs : Int64) : Int64 := L_t_weightWithin_5 wt zs 41 0 0
set_option maxHeartbeats 4000000 in
set_option maxRecDepth 100000 in
theorem c_t_weightWithin (l : Launch) (D : va_G) (cA : Nat → ClassId) (t wa : Nat) (go cl : Int64) (se : Bool) (bad fp fq su an sks : Int32) (wt : Nat → Int64) (g pa re : Nat) (ps rs : Nat → Int64) (sz : Int32) (bu sk : Int64) (zs : Int64) : Met l y_t_weightWithin (.code y_t_weightWithin b_t_weightWithin 6 (some .long) :: tb) (rmd 2) (Pro D cA [.ref t, .long zs] (va_P D classes [(t, .inr (2, [.ref g, .ref wa, .long go, .long cl, .int (bz se), .int bad, .int fp, .int fq, .int su, .int an, .int sks])), (wa, .inl (cA 0, 40, .inr (.inl wt))), (g, .inr (1, [.ref pa, .ref re, .int sz, .long bu, .long sk])), (pa, .inl (cA 0, 40, .inr (.inl ps))), (re, .inl (cA 0, 40, .inr (.inl rs)))])) (Qro (.long (f_t_weightWithin wt zs))) 0 0 nof := by
  refine ro_in (by decide) (Nat.le_of_ble_eq_true rfl) (fun p e s m below meth c ls FX hnm hK hP hl => ?_)
  have hl : lv_has ls 6 [(0, .ref t), (1, .long zs)] := hl
  have hP : va_P D classes [(t, .inr (2, [.ref g, .ref wa, .long go, .long cl, .int (bz se), .int bad, .int fp, .int fq, .int su, .int an, .int sks])), (wa, .inl (cA 0, 40, .inr (.inl wt))), (g, .inr (1, [.ref pa, .ref re, .int sz, .long bu, .long sk])), (pa, .inl (cA 0, 40, .inr (.inl ps))), (re, .inl (cA 0, 40, .inr (.inl rs)))] s.heap := hP
  generalize ([.ref t, .long zs] : List Value).toArray = args at FX ⊢
  obtain ⟨hx, hb, hml, hown, hts, hr, hlk⟩ := id FX
  refine lv_lconst (v := 0) hx hb d_t_weightWithin_0 (by decide) ?_
  refine lv_lstore_n (lv' := [(3, .long 0), (0, .ref t), (1, .long zs)]) hx hb d_t_weightWithin_1 rfl hl (by decide) rfl (fun ls hl => ?_)
  refine lv_iconst (v := 0) hx hb d_t_weightWithin_2 (by decide) ?_
  refine lv_istore (lv' := [(5, .int 0), (3, .long 0), (0, .ref t), (1, .long zs)]) hx hb d_t_weightWithin_3 hl (by decide) rfl (fun ls hl => ?_)
  have loop : ∀ (n k : Nat) (ac : Int64) (xi : Int32) (ls : Array Slot), k + n = 41 → k ≤ 40 → xi = nI k → lv_has ls 6 [(0, .ref t), (1, .long zs), (3, .long ac), (5, .int xi)] → W p l e (rmd 2) s m args below meth c s.heap [] 0 0 (MQ below (Qro (.long (L_t_weightWithin_5 wt zs n ac xi))) args s 0 0 nof) (F0 m 5 ls []) := by
    intro n
    induction n with
    | zero =>
      intro k ac xi ls h1 h2
      exact absurd h1 (by omega)
    | succ n ih =>
      intro k ac xi ls hkn hk hxi hl
      refine lv_iload hx hb d_t_weightWithin_5 (lv_at hl 3 rfl) ?_
      refine lv_aload_n hx hb d_t_weightWithin_7 rfl (lv_at hl 0 rfl) ?_
      refine ro_get (v := .ref wa) FX hK hP 0 1 rfl rfl rfl i_t (by decide) kf_t_15 d_t_weightWithin_8 ?_
      refine va_alen (v := 40) hx hb hK.1 hP 1 0 rfl rfl rfl d_t_weightWithin_11 ?_
      refine lv_icmp_ge (tgt := 40) hx hb d_t_weightWithin_12 (by decide) (fun c1 => ?_) (fun c1 => ?_)
      · have c1 := c1
        refine lv_lload_n hx hb d_t_weightWithin_40 rfl (lv_at hl 2 rfl) ?_
        exact ro_lret FX (by rw [L_t_weightWithin_5_s, if_pos c1]) d_t_weightWithin_41
      · have c1 := c1
        have hk1 : k < 40 := k_lt hxi rfl c1 (by omega)
        refine lv_lload_n hx hb d_t_weightWithin_15 rfl (lv_at hl 1 rfl) ?_
        refine lv_iload hx hb d_t_weightWithin_16 (lv_at hl 3 rfl) ?_
        refine ro_SN (v := .int (bz (f_x_contains zs xi))) (As := [.long zs, .int xi]) (rest := []) FX hK (c_x_contains l D cA zs xi) trivial kc_x_contains km_t_49 ki_x ks_x_contains rfl ok_x_contains ⟨Nat.le_of_ble_eq_true rfl, Nat.le_of_ble_eq_true rfl⟩ ⟨Nat.zero_le _, Nat.zero_le _⟩ hl.1 rfl (Nat.le_of_ble_eq_true rfl) d_t_weightWithin_18 ?_
        refine lv_if_eq (tgt := 34) hx hb d_t_weightWithin_21 (by decide) (fun c2 => ?_) (fun c2 => ?_)
        · have c2 := bz_f c2
          refine lv_iinc (v := xi + 1) (lv' := [(5, .int (xi + 1)), (0, .ref t), (1, .long zs), (3, .long ac)]) hx hb d_t_weightWithin_34 hl (k := 3) rfl rfl (by decide) rfl (fun ls hl => ?_)
          refine lv_goto (tgt := 5) hx hb d_t_weightWithin_37 (by decide) ?_
          refine ro_to (by rw [L_t_weightWithin_5_s, if_neg c1, if_neg c2]) ?_
          exact ih (k + 1) ac (xi + 1) ls (by omega) (by omega) (by rw [hxi]; exact nI_1 _)  (lv_sub hl [1, 2, 3, 0] rfl)
        · have c2 := bz_t c2
          refine lv_lload_n hx hb d_t_weightWithin_24 rfl (lv_at hl 2 rfl) ?_
          refine lv_aload_n hx hb d_t_weightWithin_25 rfl (lv_at hl 0 rfl) ?_
          refine ro_get (v := .ref wa) FX hK hP 0 1 rfl rfl rfl i_t (by decide) kf_t_15 d_t_weightWithin_26 ?_
          refine lv_iload hx hb d_t_weightWithin_29 (lv_at hl 3 rfl) ?_
          refine va_lald hx hb hK.1 hP 1 0 rfl rfl (vin hxi hk1 (by decide)) d_t_weightWithin_31 ?_
          refine lv_ladd hx hb d_t_weightWithin_32 ?_
          refine lv_lstore_n (lv' := [(3, .long (ac + (wt xi.toNatClampNeg))), (0, .ref t), (1, .long zs), (5, .int xi)]) hx hb d_t_weightWithin_33 rfl hl (by decide) rfl (fun ls hl => ?_)
          refine lv_iinc (v := xi + 1) (lv' := [(5, .int (xi + 1)), (3, .long (ac + (wt xi.toNatClampNeg))), (0, .ref t), (1, .long zs)]) hx hb d_t_weightWithin_34 hl (k := 3) rfl rfl (by decide) rfl (fun ls hl => ?_)
          refine lv_goto (tgt := 5) hx hb d_t_weightWithin_37 (by decide) ?_
          refine ro_to (by rw [L_t_weightWithin_5_s, if_neg c1, if_pos c2]) ?_
          exact ih (k + 1) (ac + (wt xi.toNatClampNeg)) (xi + 1) ls (by omega) (by omega) (by rw [hxi]; exact nI_1 _)  (lv_sub hl [2, 3, 1, 0] rfl)
  refine ro_to (by rw [f_t_weightWithin]) ?_
  exact loop 41 0 0 0 ls rfl (Nat.zero_le _) rfl  (lv_sub hl [2, 3, 1, 0] rfl)
theorem d_t_weightOfAll_0 : decode b_t_weightOfAll 0 = .ok (.lconst 0, 1) := by decide +kernel
theorem d_t_weightOfAll_1 : decode b_t_weightOfAll 1 = .ok (.lstore_n 1, 1) := by decide +kernel
theorem d_t_weightOfAll_2 : decode b_t_weightOfAll 2 = .ok (.iconst 0, 1) := by decide +kernel
theorem d_t_weightOfAll_3 : decode b_t_weightOfAll 3 = .ok (.istore_n 3, 1) := by decide +kernel
theorem d_t_weightOfAll_4 : decode b_t_weightOfAll 4 = .ok (.iload_n 3, 1) := by decide +kernel
theorem d_t_weightOfAll_5 : decode b_t_weightOfAll 5 = .ok (.aload_n 0, 1) := by decide +kernel
theorem d_t_weightOfAll_6 : decode b_t_weightOfAll 6 = .ok (.getfield 15, 3) := by decide +kernel
theorem d_t_weightOfAll_9 : decode b_t_weightOfAll 9 = .ok (.arraylength, 1) := by decide +kernel
theorem d_t_weightOfAll_10 : decode b_t_weightOfAll 10 = .ok (.if_icmp .ge 18, 3) := by decide +kernel
theorem d_t_weightOfAll_13 : decode b_t_weightOfAll 13 = .ok (.lload_n 1, 1) := by decide +kernel
theorem d_t_weightOfAll_14 : decode b_t_weightOfAll 14 = .ok (.aload_n 0, 1) := by decide +kernel
theorem d_t_weightOfAll_15 : decode b_t_weightOfAll 15 = .ok (.getfield 15, 3) := by decide +kernel
theorem d_t_weightOfAll_18 : decode b_t_weightOfAll 18 = .ok (.iload_n 3, 1) := by decide +kernel
theorem d_t_weightOfAll_19 : decode b_t_weightOfAll 19 = .ok (.laload, 1) := by decide +kernel
theorem d_t_weightOfAll_20 : decode b_t_weightOfAll 20 = .ok (.ladd, 1) := by decide +kernel
theorem d_t_weightOfAll_21 : decode b_t_weightOfAll 21 = .ok (.lstore_n 1, 1) := by decide +kernel
theorem d_t_weightOfAll_22 : decode b_t_weightOfAll 22 = .ok (.iinc 3 1, 3) := by decide +kernel
theorem d_t_weightOfAll_25 : decode b_t_weightOfAll 25 = .ok (.goto (-21), 3) := by decide +kernel
theorem d_t_weightOfAll_28 : decode b_t_weightOfAll 28 = .ok (.lload_n 1, 1) := by decide +kernel
theorem d_t_weightOfAll_29 : decode b_t_weightOfAll 29 = .ok (.lreturn, 1) := by decide +kernel
def L_t_weightOfAll_4 (wt : Nat → Int64) : Nat → Int64 → Int32 → Int64
  | 0, _, _ => 0
  | n + 1, ac, xi => if 40 ≤ xi then
    (ac)
  else
    (L_t_weightOfAll_4 wt n (ac + (wt xi.toNatClampNeg)) (xi + 1))
theorem L_t_weightOfAll_4_s (wt : Nat → Int64) (n : Nat) (ac : Int64) (xi : Int32) : L_t_weightOfAll_4 wt (n + 1) ac xi = if 40 ≤ xi then
    (ac)
  else
    (L_t_weightOfAll_4 wt n (ac + (wt xi.toNatClampNeg)) (xi + 1)) := rfl
def f_t_weightOfAll (wt : Nat → Int64) : Int64 := L_t_weightOfAll_4 wt 41 0 0
set_option maxHeartbeats 4000000 in
set_option maxRecDepth 100000 in
theorem c_t_weightOfAll (l : Launch) (D : va_G) (cA : Nat → ClassId) (t wa : Nat) (go cl : Int64) (se : Bool) (bad fp fq su an sks : Int32) (wt : Nat → Int64) (g pa re : Nat) (ps rs : Nat → Int64) (sz : Int32) (bu sk : Int64) : Met l y_t_weightOfAll (.code y_t_weightOfAll b_t_weightOfAll 4 (some .long) :: tb) (rmd 0) (Pro D cA [.ref t] (va_P D classes [(t, .inr (2, [.ref g, .ref wa, .long go, .long cl, .int (bz se), .int bad, .int fp, .int fq, .int su, .int an, .int sks])), (wa, .inl (cA 0, 40, .inr (.inl wt))), (g, .inr (1, [.ref pa, .ref re, .int sz, .long bu, .long sk])), (pa, .inl (cA 0, 40, .inr (.inl ps))), (re, .inl (cA 0, 40, .inr (.inl rs)))])) (Qro (.long (f_t_weightOfAll wt))) 0 0 nof := by
  refine ro_in (by decide) (Nat.le_of_ble_eq_true rfl) (fun p e s m below meth c ls FX hnm hK hP hl => ?_)
  have hl : lv_has ls 4 [(0, .ref t)] := hl
  have hP : va_P D classes [(t, .inr (2, [.ref g, .ref wa, .long go, .long cl, .int (bz se), .int bad, .int fp, .int fq, .int su, .int an, .int sks])), (wa, .inl (cA 0, 40, .inr (.inl wt))), (g, .inr (1, [.ref pa, .ref re, .int sz, .long bu, .long sk])), (pa, .inl (cA 0, 40, .inr (.inl ps))), (re, .inl (cA 0, 40, .inr (.inl rs)))] s.heap := hP
  generalize ([.ref t] : List Value).toArray = args at FX ⊢
  obtain ⟨hx, hb, hml, hown, hts, hr, hlk⟩ := id FX
  refine lv_lconst (v := 0) hx hb d_t_weightOfAll_0 (by decide) ?_
  refine lv_lstore_n (lv' := [(1, .long 0), (0, .ref t)]) hx hb d_t_weightOfAll_1 rfl hl (by decide) rfl (fun ls hl => ?_)
  refine lv_iconst (v := 0) hx hb d_t_weightOfAll_2 (by decide) ?_
  refine lv_istore_n (lv' := [(3, .int 0), (1, .long 0), (0, .ref t)]) hx hb d_t_weightOfAll_3 rfl hl (by decide) rfl (fun ls hl => ?_)
  have loop : ∀ (n k : Nat) (ac : Int64) (xi : Int32) (ls : Array Slot), k + n = 41 → k ≤ 40 → xi = nI k → lv_has ls 4 [(0, .ref t), (1, .long ac), (3, .int xi)] → W p l e (rmd 0) s m args below meth c s.heap [] 0 0 (MQ below (Qro (.long (L_t_weightOfAll_4 wt n ac xi))) args s 0 0 nof) (F0 m 4 ls []) := by
    intro n
    induction n with
    | zero =>
      intro k ac xi ls h1 h2
      exact absurd h1 (by omega)
    | succ n ih =>
      intro k ac xi ls hkn hk hxi hl
      refine lv_iload_n hx hb d_t_weightOfAll_4 rfl (lv_at hl 2 rfl) ?_
      refine lv_aload_n hx hb d_t_weightOfAll_5 rfl (lv_at hl 0 rfl) ?_
      refine ro_get (v := .ref wa) FX hK hP 0 1 rfl rfl rfl i_t (by decide) kf_t_15 d_t_weightOfAll_6 ?_
      refine va_alen (v := 40) hx hb hK.1 hP 1 0 rfl rfl rfl d_t_weightOfAll_9 ?_
      refine lv_icmp_ge (tgt := 28) hx hb d_t_weightOfAll_10 (by decide) (fun c1 => ?_) (fun c1 => ?_)
      · have c1 := c1
        refine lv_lload_n hx hb d_t_weightOfAll_28 rfl (lv_at hl 1 rfl) ?_
        exact ro_lret FX (by rw [L_t_weightOfAll_4_s, if_pos c1]) d_t_weightOfAll_29
      · have c1 := c1
        have hk1 : k < 40 := k_lt hxi rfl c1 (by omega)
        refine lv_lload_n hx hb d_t_weightOfAll_13 rfl (lv_at hl 1 rfl) ?_
        refine lv_aload_n hx hb d_t_weightOfAll_14 rfl (lv_at hl 0 rfl) ?_
        refine ro_get (v := .ref wa) FX hK hP 0 1 rfl rfl rfl i_t (by decide) kf_t_15 d_t_weightOfAll_15 ?_
        refine lv_iload_n hx hb d_t_weightOfAll_18 rfl (lv_at hl 2 rfl) ?_
        refine va_lald hx hb hK.1 hP 1 0 rfl rfl (vin hxi hk1 (by decide)) d_t_weightOfAll_19 ?_
        refine lv_ladd hx hb d_t_weightOfAll_20 ?_
        refine lv_lstore_n (lv' := [(1, .long (ac + (wt xi.toNatClampNeg))), (0, .ref t), (3, .int xi)]) hx hb d_t_weightOfAll_21 rfl hl (by decide) rfl (fun ls hl => ?_)
        refine lv_iinc (v := xi + 1) (lv' := [(3, .int (xi + 1)), (1, .long (ac + (wt xi.toNatClampNeg))), (0, .ref t)]) hx hb d_t_weightOfAll_22 hl (k := 2) rfl rfl (by decide) rfl (fun ls hl => ?_)
        refine lv_goto (tgt := 4) hx hb d_t_weightOfAll_25 (by decide) ?_
        refine ro_to (by rw [L_t_weightOfAll_4_s, if_neg c1]) ?_
        exact ih (k + 1) (ac + (wt xi.toNatClampNeg)) (xi + 1) ls (by omega) (by omega) (by rw [hxi]; exact nI_1 _)  (lv_sub hl [2, 1, 0] rfl)
  refine ro_to (by rw [f_t_weightOfAll]) ?_
  exact loop 41 0 0 0 ls rfl (Nat.zero_le _) rfl  (lv_sub hl [2, 1, 0] rfl)
theorem d_t_culprit_0 : decode b_t_culprit 0 = .ok (.aload_n 0, 1) := by decide +kernel
theorem d_t_culprit_1 : decode b_t_culprit 1 = .ok (.getfield 40, 3) := by decide +kernel
theorem d_t_culprit_4 : decode b_t_culprit 4 = .ok (.i2l, 1) := by decide +kernel
theorem d_t_culprit_5 : decode b_t_culprit 5 = .ok (.aload_n 0, 1) := by decide +kernel
theorem d_t_culprit_6 : decode b_t_culprit 6 = .ok (.invokevirtual 70, 3) := by decide +kernel
theorem d_t_culprit_9 : decode b_t_culprit 9 = .ok (.lmul, 1) := by decide +kernel
theorem d_t_culprit_10 : decode b_t_culprit 10 = .ok (.lstore_n 1, 1) := by decide +kernel
theorem d_t_culprit_11 : decode b_t_culprit 11 = .ok (.iconst 0, 1) := by decide +kernel
theorem d_t_culprit_12 : decode b_t_culprit 12 = .ok (.istore_n 3, 1) := by decide +kernel
theorem d_t_culprit_13 : decode b_t_culprit 13 = .ok (.iload_n 3, 1) := by decide +kernel
theorem d_t_culprit_14 : decode b_t_culprit 14 = .ok (.aload_n 0, 1) := by decide +kernel
theorem d_t_culprit_15 : decode b_t_culprit 15 = .ok (.getfield 15, 3) := by decide +kernel
theorem d_t_culprit_18 : decode b_t_culprit 18 = .ok (.arraylength, 1) := by decide +kernel
theorem d_t_culprit_19 : decode b_t_culprit 19 = .ok (.if_icmp .ge 37, 3) := by decide +kernel
theorem d_t_culprit_22 : decode b_t_culprit 22 = .ok (.aload_n 0, 1) := by decide +kernel
theorem d_t_culprit_23 : decode b_t_culprit 23 = .ok (.getfield 15, 3) := by decide +kernel
theorem d_t_culprit_26 : decode b_t_culprit 26 = .ok (.iload_n 3, 1) := by decide +kernel
theorem d_t_culprit_27 : decode b_t_culprit 27 = .ok (.laload, 1) := by decide +kernel
theorem d_t_culprit_28 : decode b_t_culprit 28 = .ok (.lconst 0, 1) := by decide +kernel
theorem d_t_culprit_29 : decode b_t_culprit 29 = .ok (.lcmp, 1) := by decide +kernel
theorem d_t_culprit_30 : decode b_t_culprit 30 = .ok (.ifCond .le 20, 3) := by decide +kernel
theorem d_t_culprit_33 : decode b_t_culprit 33 = .ok (.aload_n 0, 1) := by decide +kernel
theorem d_t_culprit_34 : decode b_t_culprit 34 = .ok (.getfield 15, 3) := by decide +kernel
theorem d_t_culprit_37 : decode b_t_culprit 37 = .ok (.iload_n 3, 1) := by decide +kernel
theorem d_t_culprit_38 : decode b_t_culprit 38 = .ok (.laload, 1) := by decide +kernel
theorem d_t_culprit_39 : decode b_t_culprit 39 = .ok (.ldc2_w 74, 3) := by decide +kernel
theorem d_t_culprit_42 : decode b_t_culprit 42 = .ok (.lmul, 1) := by decide +kernel
theorem d_t_culprit_43 : decode b_t_culprit 43 = .ok (.lload_n 1, 1) := by decide +kernel
theorem d_t_culprit_44 : decode b_t_culprit 44 = .ok (.lcmp, 1) := by decide +kernel
theorem d_t_culprit_45 : decode b_t_culprit 45 = .ok (.ifCond .lt 5, 3) := by decide +kernel
theorem d_t_culprit_48 : decode b_t_culprit 48 = .ok (.iload_n 3, 1) := by decide +kernel
theorem d_t_culprit_49 : decode b_t_culprit 49 = .ok (.ireturn, 1) := by decide +kernel
theorem d_t_culprit_50 : decode b_t_culprit 50 = .ok (.iinc 3 1, 3) := by decide +kernel
theorem d_t_culprit_53 : decode b_t_culprit 53 = .ok (.goto (-40), 3) := by decide +kernel
theorem d_t_culprit_56 : decode b_t_culprit 56 = .ok (.iconst (-1), 1) := by decide +kernel
theorem d_t_culprit_57 : decode b_t_culprit 57 = .ok (.ireturn, 1) := by decide +kernel
def L_t_culprit_13 (su : Int32) (wt : Nat → Int64) : Nat → Int32 → Int32
  | 0, _ => 0
  | n + 1, xi => if 40 ≤ xi then
    ((-1))
  else
    (if 0 < (wt xi.toNatClampNeg) then
      (if ((wt xi.toNatClampNeg) * 100) < (su.toInt64 * (f_t_weightOfAll wt)) then
        (L_t_culprit_13 su wt n (xi + 1))
      else
        (xi))
    else
      (L_t_culprit_13 su wt n (xi + 1)))
theorem L_t_culprit_13_s (su : Int32) (wt : Nat → Int64) (n : Nat) (xi : Int32) : L_t_culprit_13 su wt (n + 1) xi = if 40 ≤ xi then
    ((-1))
  else
    (if 0 < (wt xi.toNatClampNeg) then
      (if ((wt xi.toNatClampNeg) * 100) < (su.toInt64 * (f_t_weightOfAll wt)) then
        (L_t_culprit_13 su wt n (xi + 1))
      else
        (xi))
    else
      (L_t_culprit_13 su wt n (xi + 1))) := rfl
def f_t_culprit (su : Int32) (wt : Nat → Int64) : Int32 := L_t_culprit_13 su wt 41 0
set_option maxHeartbeats 4000000 in
set_option maxRecDepth 100000 in
theorem c_t_culprit (l : Launch) (D : va_G) (cA : Nat → ClassId) (t wa : Nat) (go cl : Int64) (se : Bool) (bad fp fq su an sks : Int32) (wt : Nat → Int64) (g pa re : Nat) (ps rs : Nat → Int64) (sz : Int32) (bu sk : Int64) : Met l y_t_culprit (.code y_t_culprit b_t_culprit 4 (some .int) :: tb) (rmd 1) (Pro D cA [.ref t] (va_P D classes [(t, .inr (2, [.ref g, .ref wa, .long go, .long cl, .int (bz se), .int bad, .int fp, .int fq, .int su, .int an, .int sks])), (wa, .inl (cA 0, 40, .inr (.inl wt))), (g, .inr (1, [.ref pa, .ref re, .int sz, .long bu, .long sk])), (pa, .inl (cA 0, 40, .inr (.inl ps))), (re, .inl (cA 0, 40, .inr (.inl rs)))])) (Qro (.int (f_t_culprit su wt))) 0 0 nof := by
  refine ro_in (by decide) (Nat.le_of_ble_eq_true rfl) (fun p e s m below meth c ls FX hnm hK hP hl => ?_)
  have hl : lv_has ls 4 [(0, .ref t)] := hl
  have hP : va_P D classes [(t, .inr (2, [.ref g, .ref wa, .long go, .long cl, .int (bz se), .int bad, .int fp, .int fq, .int su, .int an, .int sks])), (wa, .inl (cA 0, 40, .inr (.inl wt))), (g, .inr (1, [.ref pa, .ref re, .int sz, .long bu, .long sk])), (pa, .inl (cA 0, 40, .inr (.inl ps))), (re, .inl (cA 0, 40, .inr (.inl rs)))] s.heap := hP
  generalize ([.ref t] : List Value).toArray = args at FX ⊢
  obtain ⟨hx, hb, hml, hown, hts, hr, hlk⟩ := id FX
  refine lv_aload_n hx hb d_t_culprit_0 rfl (lv_at hl 0 rfl) ?_
  refine ro_get (v := .int su) FX hK hP 0 8 rfl rfl rfl i_t (by decide) kf_t_40 d_t_culprit_1 ?_
  refine lv_i2l (v := su.toInt64) hx hb d_t_culprit_4 rfl ?_
  refine lv_aload_n hx hb d_t_culprit_5 rfl (lv_at hl 0 rfl) ?_
  refine ro_V (v := .long (f_t_weightOfAll wt)) (As := []) (rest := [.long su.toInt64]) (q0 := 0) FX hK (c_t_weightOfAll l D cA t wa go cl se bad fp fq su an sks wt g pa re ps rs sz bu sk) hP hP rfl rfl rfl kc_t_weightOfAll km_t_70 ki_t ks_t_weightOfAll ke_t_weightOfAll rfl ok_t_weightOfAll ⟨Nat.le_of_ble_eq_true rfl, Nat.le_of_ble_eq_true rfl⟩ ⟨Nat.zero_le _, Nat.zero_le _⟩ hl.1 rfl (Nat.le_of_ble_eq_true rfl) d_t_culprit_6 ?_
  refine lv_lmul hx hb d_t_culprit_9 ?_
  refine lv_lstore_n (lv' := [(1, .long (su.toInt64 * (f_t_weightOfAll wt))), (0, .ref t)]) hx hb d_t_culprit_10 rfl hl (by decide) rfl (fun ls hl => ?_)
  refine lv_iconst (v := 0) hx hb d_t_culprit_11 (by decide) ?_
  refine lv_istore_n (lv' := [(3, .int 0), (1, .long (su.toInt64 * (f_t_weightOfAll wt))), (0, .ref t)]) hx hb d_t_culprit_12 rfl hl (by decide) rfl (fun ls hl => ?_)
  have loop : ∀ (n k : Nat) (xi : Int32) (ls : Array Slot), k + n = 41 → k ≤ 40 → xi = nI k → lv_has ls 4 [(0, .ref t), (1, .long (su.toInt64 * (f_t_weightOfAll wt))), (3, .int xi)] → W p l e (rmd 1) s m args below meth c s.heap [] 0 0 (MQ below (Qro (.int (L_t_culprit_13 su wt n xi))) args s 0 0 nof) (F0 m 13 ls []) := by
    intro n
    induction n with
    | zero =>
      intro k xi ls h1 h2
      exact absurd h1 (by omega)
    | succ n ih =>
      intro k xi ls hkn hk hxi hl
      refine lv_iload_n hx hb d_t_culprit_13 rfl (lv_at hl 2 rfl) ?_
      refine lv_aload_n hx hb d_t_culprit_14 rfl (lv_at hl 0 rfl) ?_
      refine ro_get (v := .ref wa) FX hK hP 0 1 rfl rfl rfl i_t (by decide) kf_t_15 d_t_culprit_15 ?_
      refine va_alen (v := 40) hx hb hK.1 hP 1 0 rfl rfl rfl d_t_culprit_18 ?_
      refine lv_icmp_ge (tgt := 56) hx hb d_t_culprit_19 (by decide) (fun c1 => ?_) (fun c1 => ?_)
      · have c1 := c1
        refine lv_iconst (v := (-1)) hx hb d_t_culprit_56 (by decide) ?_
        exact ro_iret FX (by rw [L_t_culprit_13_s, if_pos c1]) d_t_culprit_57
      · have c1 := c1
        have hk1 : k < 40 := k_lt hxi rfl c1 (by omega)
        refine lv_aload_n hx hb d_t_culprit_22 rfl (lv_at hl 0 rfl) ?_
        refine ro_get (v := .ref wa) FX hK hP 0 1 rfl rfl rfl i_t (by decide) kf_t_15 d_t_culprit_23 ?_
        refine lv_iload_n hx hb d_t_culprit_26 rfl (lv_at hl 2 rfl) ?_
        refine va_lald hx hb hK.1 hP 1 0 rfl rfl (vin hxi hk1 (by decide)) d_t_culprit_27 ?_
        refine lv_lconst (v := 0) hx hb d_t_culprit_28 (by decide) ?_
        refine W.lcmp hx hb d_t_culprit_29 ?_
        refine lv_if_le (tgt := 50) hx hb d_t_culprit_30 (by decide) (fun c2 => ?_) (fun c2 => ?_)
        · have c2 := cp_le c2
          refine lv_iinc (v := xi + 1) (lv' := [(3, .int (xi + 1)), (0, .ref t), (1, .long (su.toInt64 * (f_t_weightOfAll wt)))]) hx hb d_t_culprit_50 hl (k := 2) rfl rfl (by decide) rfl (fun ls hl => ?_)
          refine lv_goto (tgt := 13) hx hb d_t_culprit_53 (by decide) ?_
          refine ro_to (by rw [L_t_culprit_13_s, if_neg c1, if_neg c2]) ?_
          exact ih (k + 1) (xi + 1) ls (by omega) (by omega) (by rw [hxi]; exact nI_1 _)  (lv_sub hl [1, 2, 0] rfl)
        · have c2 := cp_nle c2
          refine lv_aload_n hx hb d_t_culprit_33 rfl (lv_at hl 0 rfl) ?_
          refine ro_get (v := .ref wa) FX hK hP 0 1 rfl rfl rfl i_t (by decide) kf_t_15 d_t_culprit_34 ?_
          refine lv_iload_n hx hb d_t_culprit_37 rfl (lv_at hl 2 rfl) ?_
          refine va_lald hx hb hK.1 hP 1 0 rfl rfl (vin hxi hk1 (by decide)) d_t_culprit_38 ?_
          refine lv_ldc2 (v := 100) hx hb hown (hts _ kl_t_74) d_t_culprit_39 ?_
          refine lv_lmul hx hb d_t_culprit_42 ?_
          refine lv_lload_n hx hb d_t_culprit_43 rfl (lv_at hl 1 rfl) ?_
          refine W.lcmp hx hb d_t_culprit_44 ?_
          refine lv_if_lt (tgt := 50) hx hb d_t_culprit_45 (by decide) (fun c3 => ?_) (fun c3 => ?_)
          · have c3 := cp_lt c3
            refine lv_iinc (v := xi + 1) (lv' := [(3, .int (xi + 1)), (0, .ref t), (1, .long (su.toInt64 * (f_t_weightOfAll wt)))]) hx hb d_t_culprit_50 hl (k := 2) rfl rfl (by decide) rfl (fun ls hl => ?_)
            refine lv_goto (tgt := 13) hx hb d_t_culprit_53 (by decide) ?_
            refine ro_to (by rw [L_t_culprit_13_s, if_neg c1, if_pos c2, if_pos c3]) ?_
            exact ih (k + 1) (xi + 1) ls (by omega) (by omega) (by rw [hxi]; exact nI_1 _)  (lv_sub hl [1, 2, 0] rfl)
          · have c3 := cp_nlt c3
            refine lv_iload_n hx hb d_t_culprit_48 rfl (lv_at hl 2 rfl) ?_
            exact ro_iret FX (by rw [L_t_culprit_13_s, if_neg c1, if_pos c2, if_neg c3]) d_t_culprit_49
  refine ro_to (by rw [f_t_culprit]) ?_
  exact loop 41 0 0 ls rfl (Nat.zero_le _) rfl  (lv_sub hl [2, 1, 0] rfl)
theorem d_t_mostEven_0 : decode b_t_mostEven 0 = .ok (.aload_n 0, 1) := by decide +kernel
theorem d_t_mostEven_1 : decode b_t_mostEven 1 = .ok (.invokevirtual 70, 3) := by decide +kernel
theorem d_t_mostEven_4 : decode b_t_mostEven 4 = .ok (.lstore_n 1, 1) := by decide +kernel
theorem d_t_mostEven_5 : decode b_t_mostEven 5 = .ok (.iconst (-1), 1) := by decide +kernel
theorem d_t_mostEven_6 : decode b_t_mostEven 6 = .ok (.istore_n 3, 1) := by decide +kernel
theorem d_t_mostEven_7 : decode b_t_mostEven 7 = .ok (.lconst 0, 1) := by decide +kernel
theorem d_t_mostEven_8 : decode b_t_mostEven 8 = .ok (.lstore 4, 2) := by decide +kernel
theorem d_t_mostEven_10 : decode b_t_mostEven 10 = .ok (.iconst 0, 1) := by decide +kernel
theorem d_t_mostEven_11 : decode b_t_mostEven 11 = .ok (.istore 6, 2) := by decide +kernel
theorem d_t_mostEven_13 : decode b_t_mostEven 13 = .ok (.iload 6, 2) := by decide +kernel
theorem d_t_mostEven_15 : decode b_t_mostEven 15 = .ok (.aload_n 0, 1) := by decide +kernel
theorem d_t_mostEven_16 : decode b_t_mostEven 16 = .ok (.getfield 9, 3) := by decide +kernel
theorem d_t_mostEven_19 : decode b_t_mostEven 19 = .ok (.getfield 86, 3) := by decide +kernel
theorem d_t_mostEven_22 : decode b_t_mostEven 22 = .ok (.if_icmp .ge 132, 3) := by decide +kernel
theorem d_t_mostEven_25 : decode b_t_mostEven 25 = .ok (.aload_n 0, 1) := by decide +kernel
theorem d_t_mostEven_26 : decode b_t_mostEven 26 = .ok (.getfield 9, 3) := by decide +kernel
theorem d_t_mostEven_29 : decode b_t_mostEven 29 = .ok (.iload 6, 2) := by decide +kernel
theorem d_t_mostEven_31 : decode b_t_mostEven 31 = .ok (.invokevirtual 89, 3) := by decide +kernel
theorem d_t_mostEven_34 : decode b_t_mostEven 34 = .ok (.ifCond .eq 7, 3) := by decide +kernel
theorem d_t_mostEven_37 : decode b_t_mostEven 37 = .ok (.lconst 0, 1) := by decide +kernel
theorem d_t_mostEven_38 : decode b_t_mostEven 38 = .ok (.goto 16, 3) := by decide +kernel
theorem d_t_mostEven_41 : decode b_t_mostEven 41 = .ok (.aload_n 0, 1) := by decide +kernel
theorem d_t_mostEven_42 : decode b_t_mostEven 42 = .ok (.aload_n 0, 1) := by decide +kernel
theorem d_t_mostEven_43 : decode b_t_mostEven 43 = .ok (.getfield 9, 3) := by decide +kernel
theorem d_t_mostEven_46 : decode b_t_mostEven 46 = .ok (.iload 6, 2) := by decide +kernel
theorem d_t_mostEven_48 : decode b_t_mostEven 48 = .ok (.invokevirtual 57, 3) := by decide +kernel
theorem d_t_mostEven_51 : decode b_t_mostEven 51 = .ok (.invokevirtual 93, 3) := by decide +kernel
theorem d_t_mostEven_54 : decode b_t_mostEven 54 = .ok (.lstore 7, 2) := by decide +kernel
theorem d_t_mostEven_56 : decode b_t_mostEven 56 = .ok (.lload 7, 2) := by decide +kernel
theorem d_t_mostEven_58 : decode b_t_mostEven 58 = .ok (.lconst 0, 1) := by decide +kernel
theorem d_t_mostEven_59 : decode b_t_mostEven 59 = .ok (.lcmp, 1) := by decide +kernel
theorem d_t_mostEven_60 : decode b_t_mostEven 60 = .ok (.ifCond .le 88, 3) := by decide +kernel
theorem d_t_mostEven_63 : decode b_t_mostEven 63 = .ok (.lload 7, 2) := by decide +kernel
theorem d_t_mostEven_65 : decode b_t_mostEven 65 = .ok (.lload_n 1, 1) := by decide +kernel
theorem d_t_mostEven_66 : decode b_t_mostEven 66 = .ok (.lcmp, 1) := by decide +kernel
theorem d_t_mostEven_67 : decode b_t_mostEven 67 = .ok (.ifCond .lt 6, 3) := by decide +kernel
theorem d_t_mostEven_70 : decode b_t_mostEven 70 = .ok (.goto 78, 3) := by decide +kernel
theorem d_t_mostEven_73 : decode b_t_mostEven 73 = .ok (.lload 7, 2) := by decide +kernel
theorem d_t_mostEven_75 : decode b_t_mostEven 75 = .ok (.lload_n 1, 1) := by decide +kernel
theorem d_t_mostEven_76 : decode b_t_mostEven 76 = .ok (.lload 7, 2) := by decide +kernel
theorem d_t_mostEven_78 : decode b_t_mostEven 78 = .ok (.lsub, 1) := by decide +kernel
theorem d_t_mostEven_79 : decode b_t_mostEven 79 = .ok (.lsub, 1) := by decide +kernel
theorem d_t_mostEven_80 : decode b_t_mostEven 80 = .ok (.invokestatic 97, 3) := by decide +kernel
theorem d_t_mostEven_83 : decode b_t_mostEven 83 = .ok (.lstore 9, 2) := by decide +kernel
theorem d_t_mostEven_85 : decode b_t_mostEven 85 = .ok (.lload 9, 2) := by decide +kernel
theorem d_t_mostEven_87 : decode b_t_mostEven 87 = .ok (.lload 4, 2) := by decide +kernel
theorem d_t_mostEven_89 : decode b_t_mostEven 89 = .ok (.lcmp, 1) := by decide +kernel
theorem d_t_mostEven_90 : decode b_t_mostEven 90 = .ok (.ifCond .ne 30, 3) := by decide +kernel
theorem d_t_mostEven_93 : decode b_t_mostEven 93 = .ok (.aload_n 0, 1) := by decide +kernel
theorem d_t_mostEven_94 : decode b_t_mostEven 94 = .ok (.getfield 9, 3) := by decide +kernel
theorem d_t_mostEven_97 : decode b_t_mostEven 97 = .ok (.iload 6, 2) := by decide +kernel
theorem d_t_mostEven_99 : decode b_t_mostEven 99 = .ok (.invokevirtual 102, 3) := by decide +kernel
theorem d_t_mostEven_102 : decode b_t_mostEven 102 = .ok (.ifCond .eq 18, 3) := by decide +kernel
theorem d_t_mostEven_105 : decode b_t_mostEven 105 = .ok (.aload_n 0, 1) := by decide +kernel
theorem d_t_mostEven_106 : decode b_t_mostEven 106 = .ok (.getfield 9, 3) := by decide +kernel
theorem d_t_mostEven_109 : decode b_t_mostEven 109 = .ok (.iload_n 3, 1) := by decide +kernel
theorem d_t_mostEven_110 : decode b_t_mostEven 110 = .ok (.invokevirtual 102, 3) := by decide +kernel
theorem d_t_mostEven_113 : decode b_t_mostEven 113 = .ok (.ifCond .ne 7, 3) := by decide +kernel
theorem d_t_mostEven_116 : decode b_t_mostEven 116 = .ok (.iconst 1, 1) := by decide +kernel
theorem d_t_mostEven_117 : decode b_t_mostEven 117 = .ok (.goto 4, 3) := by decide +kernel
theorem d_t_mostEven_120 : decode b_t_mostEven 120 = .ok (.iconst 0, 1) := by decide +kernel
theorem d_t_mostEven_121 : decode b_t_mostEven 121 = .ok (.istore 11, 2) := by decide +kernel
theorem d_t_mostEven_123 : decode b_t_mostEven 123 = .ok (.iload_n 3, 1) := by decide +kernel
theorem d_t_mostEven_124 : decode b_t_mostEven 124 = .ok (.iconst (-1), 1) := by decide +kernel
theorem d_t_mostEven_125 : decode b_t_mostEven 125 = .ok (.if_icmp .eq 16, 3) := by decide +kernel
theorem d_t_mostEven_128 : decode b_t_mostEven 128 = .ok (.lload 9, 2) := by decide +kernel
theorem d_t_mostEven_130 : decode b_t_mostEven 130 = .ok (.lload 4, 2) := by decide +kernel
theorem d_t_mostEven_132 : decode b_t_mostEven 132 = .ok (.lcmp, 1) := by decide +kernel
theorem d_t_mostEven_133 : decode b_t_mostEven 133 = .ok (.ifCond .lt 8, 3) := by decide +kernel
theorem d_t_mostEven_136 : decode b_t_mostEven 136 = .ok (.iload 11, 2) := by decide +kernel
theorem d_t_mostEven_138 : decode b_t_mostEven 138 = .ok (.ifCond .eq 10, 3) := by decide +kernel
theorem d_t_mostEven_141 : decode b_t_mostEven 141 = .ok (.iload 6, 2) := by decide +kernel
theorem d_t_mostEven_143 : decode b_t_mostEven 143 = .ok (.istore_n 3, 1) := by decide +kernel
theorem d_t_mostEven_144 : decode b_t_mostEven 144 = .ok (.lload 9, 2) := by decide +kernel
theorem d_t_mostEven_146 : decode b_t_mostEven 146 = .ok (.lstore 4, 2) := by decide +kernel
theorem d_t_mostEven_148 : decode b_t_mostEven 148 = .ok (.iinc 6 1, 3) := by decide +kernel
theorem d_t_mostEven_151 : decode b_t_mostEven 151 = .ok (.goto (-138), 3) := by decide +kernel
theorem d_t_mostEven_154 : decode b_t_mostEven 154 = .ok (.iload_n 3, 1) := by decide +kernel
theorem d_t_mostEven_155 : decode b_t_mostEven 155 = .ok (.ireturn, 1) := by decide +kernel
def L_t_mostEven_13 (wt : Nat → Int64) (rs : Nat → Int64) (sz : Int32) (bu : Int64) (sk : Int64) : Nat → Int32 → Int64 → Int32 → Int32
  | 0, _, _, _ => 0
  | n + 1, be, bg, xi => if sz ≤ xi then
    (be)
  else
    (if (f_g_isSkipped sk xi) = true then
      (L_t_mostEven_13 wt rs sz bu sk n be bg (xi + 1))
    else
      (if 0 < (f_t_weightWithin wt (f_g_reach rs sz xi)) then
        (if (f_t_weightWithin wt (f_g_reach rs sz xi)) < (f_t_weightOfAll wt) then
          (if (if 0 < ((f_t_weightWithin wt (f_g_reach rs sz xi)) - ((f_t_weightOfAll wt) - (f_t_weightWithin wt (f_g_reach rs sz xi)))) then ((f_t_weightWithin wt (f_g_reach rs sz xi)) - ((f_t_weightOfAll wt) - (f_t_weightWithin wt (f_g_reach rs sz xi)))) else -((f_t_weightWithin wt (f_g_reach rs sz xi)) - ((f_t_weightOfAll wt) - (f_t_weightWithin wt (f_g_reach rs sz xi))))) = bg then
            (if (f_g_isBuilt bu xi) = true then
              (if (f_g_isBuilt bu be) = true then
                (if be = (-1) then
                  (L_t_mostEven_13 wt rs sz bu sk n xi (if 0 < ((f_t_weightWithin wt (f_g_reach rs sz xi)) - ((f_t_weightOfAll wt) - (f_t_weightWithin wt (f_g_reach rs sz xi)))) then ((f_t_weightWithin wt (f_g_reach rs sz xi)) - ((f_t_weightOfAll wt) - (f_t_weightWithin wt (f_g_reach rs sz xi)))) else -((f_t_weightWithin wt (f_g_reach rs sz xi)) - ((f_t_weightOfAll wt) - (f_t_weightWithin wt (f_g_reach rs sz xi))))) (xi + 1))
                else
                  (if (if 0 < ((f_t_weightWithin wt (f_g_reach rs sz xi)) - ((f_t_weightOfAll wt) - (f_t_weightWithin wt (f_g_reach rs sz xi)))) then ((f_t_weightWithin wt (f_g_reach rs sz xi)) - ((f_t_weightOfAll wt) - (f_t_weightWithin wt (f_g_reach rs sz xi)))) else -((f_t_weightWithin wt (f_g_reach rs sz xi)) - ((f_t_weightOfAll wt) - (f_t_weightWithin wt (f_g_reach rs sz xi))))) < bg then
                    (L_t_mostEven_13 wt rs sz bu sk n xi (if 0 < ((f_t_weightWithin wt (f_g_reach rs sz xi)) - ((f_t_weightOfAll wt) - (f_t_weightWithin wt (f_g_reach rs sz xi)))) then ((f_t_weightWithin wt (f_g_reach rs sz xi)) - ((f_t_weightOfAll wt) - (f_t_weightWithin wt (f_g_reach rs sz xi)))) else -((f_t_weightWithin wt (f_g_reach rs sz xi)) - ((f_t_weightOfAll wt) - (f_t_weightWithin wt (f_g_reach rs sz xi))))) (xi + 1))
                  else
                    (L_t_mostEven_13 wt rs sz bu sk n be bg (xi + 1))))
              else
                (if be = (-1) then
                  (L_t_mostEven_13 wt rs sz bu sk n xi (if 0 < ((f_t_weightWithin wt (f_g_reach rs sz xi)) - ((f_t_weightOfAll wt) - (f_t_weightWithin wt (f_g_reach rs sz xi)))) then ((f_t_weightWithin wt (f_g_reach rs sz xi)) - ((f_t_weightOfAll wt) - (f_t_weightWithin wt (f_g_reach rs sz xi)))) else -((f_t_weightWithin wt (f_g_reach rs sz xi)) - ((f_t_weightOfAll wt) - (f_t_weightWithin wt (f_g_reach rs sz xi))))) (xi + 1))
                else
                  (if (if 0 < ((f_t_weightWithin wt (f_g_reach rs sz xi)) - ((f_t_weightOfAll wt) - (f_t_weightWithin wt (f_g_reach rs sz xi)))) then ((f_t_weightWithin wt (f_g_reach rs sz xi)) - ((f_t_weightOfAll wt) - (f_t_weightWithin wt (f_g_reach rs sz xi)))) else -((f_t_weightWithin wt (f_g_reach rs sz xi)) - ((f_t_weightOfAll wt) - (f_t_weightWithin wt (f_g_reach rs sz xi))))) < bg then
                    (L_t_mostEven_13 wt rs sz bu sk n xi (if 0 < ((f_t_weightWithin wt (f_g_reach rs sz xi)) - ((f_t_weightOfAll wt) - (f_t_weightWithin wt (f_g_reach rs sz xi)))) then ((f_t_weightWithin wt (f_g_reach rs sz xi)) - ((f_t_weightOfAll wt) - (f_t_weightWithin wt (f_g_reach rs sz xi)))) else -((f_t_weightWithin wt (f_g_reach rs sz xi)) - ((f_t_weightOfAll wt) - (f_t_weightWithin wt (f_g_reach rs sz xi))))) (xi + 1))
                  else
                    (L_t_mostEven_13 wt rs sz bu sk n xi (if 0 < ((f_t_weightWithin wt (f_g_reach rs sz xi)) - ((f_t_weightOfAll wt) - (f_t_weightWithin wt (f_g_reach rs sz xi)))) then ((f_t_weightWithin wt (f_g_reach rs sz xi)) - ((f_t_weightOfAll wt) - (f_t_weightWithin wt (f_g_reach rs sz xi)))) else -((f_t_weightWithin wt (f_g_reach rs sz xi)) - ((f_t_weightOfAll wt) - (f_t_weightWithin wt (f_g_reach rs sz xi))))) (xi + 1)))))
            else
              (if be = (-1) then
                (L_t_mostEven_13 wt rs sz bu sk n xi (if 0 < ((f_t_weightWithin wt (f_g_reach rs sz xi)) - ((f_t_weightOfAll wt) - (f_t_weightWithin wt (f_g_reach rs sz xi)))) then ((f_t_weightWithin wt (f_g_reach rs sz xi)) - ((f_t_weightOfAll wt) - (f_t_weightWithin wt (f_g_reach rs sz xi)))) else -((f_t_weightWithin wt (f_g_reach rs sz xi)) - ((f_t_weightOfAll wt) - (f_t_weightWithin wt (f_g_reach rs sz xi))))) (xi + 1))
              else
                (if (if 0 < ((f_t_weightWithin wt (f_g_reach rs sz xi)) - ((f_t_weightOfAll wt) - (f_t_weightWithin wt (f_g_reach rs sz xi)))) then ((f_t_weightWithin wt (f_g_reach rs sz xi)) - ((f_t_weightOfAll wt) - (f_t_weightWithin wt (f_g_reach rs sz xi)))) else -((f_t_weightWithin wt (f_g_reach rs sz xi)) - ((f_t_weightOfAll wt) - (f_t_weightWithin wt (f_g_reach rs sz xi))))) < bg then
                  (L_t_mostEven_13 wt rs sz bu sk n xi (if 0 < ((f_t_weightWithin wt (f_g_reach rs sz xi)) - ((f_t_weightOfAll wt) - (f_t_weightWithin wt (f_g_reach rs sz xi)))) then ((f_t_weightWithin wt (f_g_reach rs sz xi)) - ((f_t_weightOfAll wt) - (f_t_weightWithin wt (f_g_reach rs sz xi)))) else -((f_t_weightWithin wt (f_g_reach rs sz xi)) - ((f_t_weightOfAll wt) - (f_t_weightWithin wt (f_g_reach rs sz xi))))) (xi + 1))
                else
                  (L_t_mostEven_13 wt rs sz bu sk n be bg (xi + 1)))))
          else
            (if be = (-1) then
              (L_t_mostEven_13 wt rs sz bu sk n xi (if 0 < ((f_t_weightWithin wt (f_g_reach rs sz xi)) - ((f_t_weightOfAll wt) - (f_t_weightWithin wt (f_g_reach rs sz xi)))) then ((f_t_weightWithin wt (f_g_reach rs sz xi)) - ((f_t_weightOfAll wt) - (f_t_weightWithin wt (f_g_reach rs sz xi)))) else -((f_t_weightWithin wt (f_g_reach rs sz xi)) - ((f_t_weightOfAll wt) - (f_t_weightWithin wt (f_g_reach rs sz xi))))) (xi + 1))
            else
              (if (if 0 < ((f_t_weightWithin wt (f_g_reach rs sz xi)) - ((f_t_weightOfAll wt) - (f_t_weightWithin wt (f_g_reach rs sz xi)))) then ((f_t_weightWithin wt (f_g_reach rs sz xi)) - ((f_t_weightOfAll wt) - (f_t_weightWithin wt (f_g_reach rs sz xi)))) else -((f_t_weightWithin wt (f_g_reach rs sz xi)) - ((f_t_weightOfAll wt) - (f_t_weightWithin wt (f_g_reach rs sz xi))))) < bg then
                (L_t_mostEven_13 wt rs sz bu sk n xi (if 0 < ((f_t_weightWithin wt (f_g_reach rs sz xi)) - ((f_t_weightOfAll wt) - (f_t_weightWithin wt (f_g_reach rs sz xi)))) then ((f_t_weightWithin wt (f_g_reach rs sz xi)) - ((f_t_weightOfAll wt) - (f_t_weightWithin wt (f_g_reach rs sz xi)))) else -((f_t_weightWithin wt (f_g_reach rs sz xi)) - ((f_t_weightOfAll wt) - (f_t_weightWithin wt (f_g_reach rs sz xi))))) (xi + 1))
              else
                (L_t_mostEven_13 wt rs sz bu sk n be bg (xi + 1)))))
        else
          (L_t_mostEven_13 wt rs sz bu sk n be bg (xi + 1)))
      else
        (L_t_mostEven_13 wt rs sz bu sk n be bg (xi + 1))))
theorem L_t_mostEven_13_s (wt : Nat → Int64) (rs : Nat → Int64) (sz : Int32) (bu : Int64) (sk : Int64) (n : Nat) (be : Int32) (bg : Int64) (xi : Int32) : L_t_mostEven_13 wt rs sz bu sk (n + 1) be bg xi = if sz ≤ xi then
    (be)
  else
    (if (f_g_isSkipped sk xi) = true then
      (L_t_mostEven_13 wt rs sz bu sk n be bg (xi + 1))
    else
      (if 0 < (f_t_weightWithin wt (f_g_reach rs sz xi)) then
        (if (f_t_weightWithin wt (f_g_reach rs sz xi)) < (f_t_weightOfAll wt) then
          (if (if 0 < ((f_t_weightWithin wt (f_g_reach rs sz xi)) - ((f_t_weightOfAll wt) - (f_t_weightWithin wt (f_g_reach rs sz xi)))) then ((f_t_weightWithin wt (f_g_reach rs sz xi)) - ((f_t_weightOfAll wt) - (f_t_weightWithin wt (f_g_reach rs sz xi)))) else -((f_t_weightWithin wt (f_g_reach rs sz xi)) - ((f_t_weightOfAll wt) - (f_t_weightWithin wt (f_g_reach rs sz xi))))) = bg then
            (if (f_g_isBuilt bu xi) = true then
              (if (f_g_isBuilt bu be) = true then
                (if be = (-1) then
                  (L_t_mostEven_13 wt rs sz bu sk n xi (if 0 < ((f_t_weightWithin wt (f_g_reach rs sz xi)) - ((f_t_weightOfAll wt) - (f_t_weightWithin wt (f_g_reach rs sz xi)))) then ((f_t_weightWithin wt (f_g_reach rs sz xi)) - ((f_t_weightOfAll wt) - (f_t_weightWithin wt (f_g_reach rs sz xi)))) else -((f_t_weightWithin wt (f_g_reach rs sz xi)) - ((f_t_weightOfAll wt) - (f_t_weightWithin wt (f_g_reach rs sz xi))))) (xi + 1))
                else
                  (if (if 0 < ((f_t_weightWithin wt (f_g_reach rs sz xi)) - ((f_t_weightOfAll wt) - (f_t_weightWithin wt (f_g_reach rs sz xi)))) then ((f_t_weightWithin wt (f_g_reach rs sz xi)) - ((f_t_weightOfAll wt) - (f_t_weightWithin wt (f_g_reach rs sz xi)))) else -((f_t_weightWithin wt (f_g_reach rs sz xi)) - ((f_t_weightOfAll wt) - (f_t_weightWithin wt (f_g_reach rs sz xi))))) < bg then
                    (L_t_mostEven_13 wt rs sz bu sk n xi (if 0 < ((f_t_weightWithin wt (f_g_reach rs sz xi)) - ((f_t_weightOfAll wt) - (f_t_weightWithin wt (f_g_reach rs sz xi)))) then ((f_t_weightWithin wt (f_g_reach rs sz xi)) - ((f_t_weightOfAll wt) - (f_t_weightWithin wt (f_g_reach rs sz xi)))) else -((f_t_weightWithin wt (f_g_reach rs sz xi)) - ((f_t_weightOfAll wt) - (f_t_weightWithin wt (f_g_reach rs sz xi))))) (xi + 1))
                  else
                    (L_t_mostEven_13 wt rs sz bu sk n be bg (xi + 1))))
              else
                (if be = (-1) then
                  (L_t_mostEven_13 wt rs sz bu sk n xi (if 0 < ((f_t_weightWithin wt (f_g_reach rs sz xi)) - ((f_t_weightOfAll wt) - (f_t_weightWithin wt (f_g_reach rs sz xi)))) then ((f_t_weightWithin wt (f_g_reach rs sz xi)) - ((f_t_weightOfAll wt) - (f_t_weightWithin wt (f_g_reach rs sz xi)))) else -((f_t_weightWithin wt (f_g_reach rs sz xi)) - ((f_t_weightOfAll wt) - (f_t_weightWithin wt (f_g_reach rs sz xi))))) (xi + 1))
                else
                  (if (if 0 < ((f_t_weightWithin wt (f_g_reach rs sz xi)) - ((f_t_weightOfAll wt) - (f_t_weightWithin wt (f_g_reach rs sz xi)))) then ((f_t_weightWithin wt (f_g_reach rs sz xi)) - ((f_t_weightOfAll wt) - (f_t_weightWithin wt (f_g_reach rs sz xi)))) else -((f_t_weightWithin wt (f_g_reach rs sz xi)) - ((f_t_weightOfAll wt) - (f_t_weightWithin wt (f_g_reach rs sz xi))))) < bg then
                    (L_t_mostEven_13 wt rs sz bu sk n xi (if 0 < ((f_t_weightWithin wt (f_g_reach rs sz xi)) - ((f_t_weightOfAll wt) - (f_t_weightWithin wt (f_g_reach rs sz xi)))) then ((f_t_weightWithin wt (f_g_reach rs sz xi)) - ((f_t_weightOfAll wt) - (f_t_weightWithin wt (f_g_reach rs sz xi)))) else -((f_t_weightWithin wt (f_g_reach rs sz xi)) - ((f_t_weightOfAll wt) - (f_t_weightWithin wt (f_g_reach rs sz xi))))) (xi + 1))
                  else
                    (L_t_mostEven_13 wt rs sz bu sk n xi (if 0 < ((f_t_weightWithin wt (f_g_reach rs sz xi)) - ((f_t_weightOfAll wt) - (f_t_weightWithin wt (f_g_reach rs sz xi)))) then ((f_t_weightWithin wt (f_g_reach rs sz xi)) - ((f_t_weightOfAll wt) - (f_t_weightWithin wt (f_g_reach rs sz xi)))) else -((f_t_weightWithin wt (f_g_reach rs sz xi)) - ((f_t_weightOfAll wt) - (f_t_weightWithin wt (f_g_reach rs sz xi))))) (xi + 1)))))
            else
              (if be = (-1) then
                (L_t_mostEven_13 wt rs sz bu sk n xi (if 0 < ((f_t_weightWithin wt (f_g_reach rs sz xi)) - ((f_t_weightOfAll wt) - (f_t_weightWithin wt (f_g_reach rs sz xi)))) then ((f_t_weightWithin wt (f_g_reach rs sz xi)) - ((f_t_weightOfAll wt) - (f_t_weightWithin wt (f_g_reach rs sz xi)))) else -((f_t_weightWithin wt (f_g_reach rs sz xi)) - ((f_t_weightOfAll wt) - (f_t_weightWithin wt (f_g_reach rs sz xi))))) (xi + 1))
              else
                (if (if 0 < ((f_t_weightWithin wt (f_g_reach rs sz xi)) - ((f_t_weightOfAll wt) - (f_t_weightWithin wt (f_g_reach rs sz xi)))) then ((f_t_weightWithin wt (f_g_reach rs sz xi)) - ((f_t_weightOfAll wt) - (f_t_weightWithin wt (f_g_reach rs sz xi)))) else -((f_t_weightWithin wt (f_g_reach rs sz xi)) - ((f_t_weightOfAll wt) - (f_t_weightWithin wt (f_g_reach rs sz xi))))) < bg then
                  (L_t_mostEven_13 wt rs sz bu sk n xi (if 0 < ((f_t_weightWithin wt (f_g_reach rs sz xi)) - ((f_t_weightOfAll wt) - (f_t_weightWithin wt (f_g_reach rs sz xi)))) then ((f_t_weightWithin wt (f_g_reach rs sz xi)) - ((f_t_weightOfAll wt) - (f_t_weightWithin wt (f_g_reach rs sz xi)))) else -((f_t_weightWithin wt (f_g_reach rs sz xi)) - ((f_t_weightOfAll wt) - (f_t_weightWithin wt (f_g_reach rs sz xi))))) (xi + 1))
                else
                  (L_t_mostEven_13 wt rs sz bu sk n be bg (xi + 1)))))
          else
            (if be = (-1) then
              (L_t_mostEven_13 wt rs sz bu sk n xi (if 0 < ((f_t_weightWithin wt (f_g_reach rs sz xi)) - ((f_t_weightOfAll wt) - (f_t_weightWithin wt (f_g_reach rs sz xi)))) then ((f_t_weightWithin wt (f_g_reach rs sz xi)) - ((f_t_weightOfAll wt) - (f_t_weightWithin wt (f_g_reach rs sz xi)))) else -((f_t_weightWithin wt (f_g_reach rs sz xi)) - ((f_t_weightOfAll wt) - (f_t_weightWithin wt (f_g_reach rs sz xi))))) (xi + 1))
            else
              (if (if 0 < ((f_t_weightWithin wt (f_g_reach rs sz xi)) - ((f_t_weightOfAll wt) - (f_t_weightWithin wt (f_g_reach rs sz xi)))) then ((f_t_weightWithin wt (f_g_reach rs sz xi)) - ((f_t_weightOfAll wt) - (f_t_weightWithin wt (f_g_reach rs sz xi)))) else -((f_t_weightWithin wt (f_g_reach rs sz xi)) - ((f_t_weightOfAll wt) - (f_t_weightWithin wt (f_g_reach rs sz xi))))) < bg then
                (L_t_mostEven_13 wt rs sz bu sk n xi (if 0 < ((f_t_weightWithin wt (f_g_reach rs sz xi)) - ((f_t_weightOfAll wt) - (f_t_weightWithin wt (f_g_reach rs sz xi)))) then ((f_t_weightWithin wt (f_g_reach rs sz xi)) - ((f_t_weightOfAll wt) - (f_t_weightWithin wt (f_g_reach rs sz xi)))) else -((f_t_weightWithin wt (f_g_reach rs sz xi)) - ((f_t_weightOfAll wt) - (f_t_weightWithin wt (f_g_reach rs sz xi))))) (xi + 1))
              else
                (L_t_mostEven_13 wt rs sz bu sk n be bg (xi + 1)))))
        else
          (L_t_mostEven_13 wt rs sz bu sk n be bg (xi + 1)))
      else
        (L_t_mostEven_13 wt rs sz bu sk n be bg (xi + 1)))) := rfl
def f_t_mostEven (wt : Nat → Int64) (rs : Nat → Int64) (sz : Int32) (bu : Int64) (sk : Int64) : Int32 := L_t_mostEven_13 wt rs sz bu sk 41 (-1) 0 0
set_option maxHeartbeats 4000000 in
set_option maxRecDepth 100000 in
theorem c_t_mostEven (l : Launch) (D : va_G) (cA : Nat → ClassId) (t wa : Nat) (go cl : Int64) (se : Bool) (bad fp fq su an sks : Int32) (wt : Nat → Int64) (g pa re : Nat) (ps rs : Nat → Int64) (sz : Int32) (bu sk : Int64) (S : Nat) (hS40 : S ≤ 40) (hsz : sz = nI S) : Met l y_t_mostEven (.code y_t_mostEven b_t_mostEven 12 (some .int) :: tb) (rmd 3) (Pro D cA [.ref t] (va_P D classes [(t, .inr (2, [.ref g, .ref wa, .long go, .long cl, .int (bz se), .int bad, .int fp, .int fq, .int su, .int an, .int sks])), (wa, .inl (cA 0, 40, .inr (.inl wt))), (g, .inr (1, [.ref pa, .ref re, .int sz, .long bu, .long sk])), (pa, .inl (cA 0, 40, .inr (.inl ps))), (re, .inl (cA 0, 40, .inr (.inl rs)))])) (Qro (.int (f_t_mostEven wt rs sz bu sk))) 0 0 nof := by
  refine ro_in (by decide) (Nat.le_of_ble_eq_true rfl) (fun p e s m below meth c ls FX hnm hK hP hl => ?_)
  have hl : lv_has ls 12 [(0, .ref t)] := hl
  have hP : va_P D classes [(t, .inr (2, [.ref g, .ref wa, .long go, .long cl, .int (bz se), .int bad, .int fp, .int fq, .int su, .int an, .int sks])), (wa, .inl (cA 0, 40, .inr (.inl wt))), (g, .inr (1, [.ref pa, .ref re, .int sz, .long bu, .long sk])), (pa, .inl (cA 0, 40, .inr (.inl ps))), (re, .inl (cA 0, 40, .inr (.inl rs)))] s.heap := hP
  generalize ([.ref t] : List Value).toArray = args at FX ⊢
  obtain ⟨hx, hb, hml, hown, hts, hr, hlk⟩ := id FX
  refine lv_aload_n hx hb d_t_mostEven_0 rfl (lv_at hl 0 rfl) ?_
  refine ro_V (v := .long (f_t_weightOfAll wt)) (As := []) (rest := []) (q0 := 0) FX hK (c_t_weightOfAll l D cA t wa go cl se bad fp fq su an sks wt g pa re ps rs sz bu sk) hP hP rfl rfl rfl kc_t_weightOfAll km_t_70 ki_t ks_t_weightOfAll ke_t_weightOfAll rfl ok_t_weightOfAll ⟨Nat.le_of_ble_eq_true rfl, Nat.le_of_ble_eq_true rfl⟩ ⟨Nat.zero_le _, Nat.zero_le _⟩ hl.1 rfl (Nat.le_of_ble_eq_true rfl) d_t_mostEven_1 ?_
  refine lv_lstore_n (lv' := [(1, .long (f_t_weightOfAll wt)), (0, .ref t)]) hx hb d_t_mostEven_4 rfl hl (by decide) rfl (fun ls hl => ?_)
  refine lv_iconst (v := (-1)) hx hb d_t_mostEven_5 (by decide) ?_
  refine lv_istore_n (lv' := [(3, .int (-1)), (1, .long (f_t_weightOfAll wt)), (0, .ref t)]) hx hb d_t_mostEven_6 rfl hl (by decide) rfl (fun ls hl => ?_)
  refine lv_lconst (v := 0) hx hb d_t_mostEven_7 (by decide) ?_
  refine lv_lstore (lv' := [(4, .long 0), (3, .int (-1)), (1, .long (f_t_weightOfAll wt)), (0, .ref t)]) hx hb d_t_mostEven_8 hl (by decide) rfl (fun ls hl => ?_)
  refine lv_iconst (v := 0) hx hb d_t_mostEven_10 (by decide) ?_
  refine lv_istore (lv' := [(6, .int 0), (4, .long 0), (3, .int (-1)), (1, .long (f_t_weightOfAll wt)), (0, .ref t)]) hx hb d_t_mostEven_11 hl (by decide) rfl (fun ls hl => ?_)
  have loop : ∀ (n k : Nat) (be : Int32) (bg : Int64) (xi : Int32) (ls : Array Slot), k + n = 41 → k ≤ 40 → xi = nI k → lv_has ls 12 [(0, .ref t), (1, .long (f_t_weightOfAll wt)), (3, .int be), (4, .long bg), (6, .int xi)] → W p l e (rmd 3) s m args below meth c s.heap [] 0 0 (MQ below (Qro (.int (L_t_mostEven_13 wt rs sz bu sk n be bg xi))) args s 0 0 nof) (F0 m 13 ls []) := by
    intro n
    induction n with
    | zero =>
      intro k be bg xi ls h1 h2
      exact absurd h1 (by omega)
    | succ n ih =>
      intro k be bg xi ls hkn hk hxi hl
      refine lv_iload hx hb d_t_mostEven_13 (lv_at hl 4 rfl) ?_
      refine lv_aload_n hx hb d_t_mostEven_15 rfl (lv_at hl 0 rfl) ?_
      refine ro_get (v := .ref g) FX hK hP 0 0 rfl rfl rfl i_t (by decide) kf_t_9 d_t_mostEven_16 ?_
      refine ro_getN (v := .int sz) FX hK hP 2 2 rfl rfl rfl i_g (by decide) kf_t_86 d_t_mostEven_19 ?_
      refine lv_icmp_ge (tgt := 154) hx hb d_t_mostEven_22 (by decide) (fun c1 => ?_) (fun c1 => ?_)
      · have c1 := c1
        refine lv_iload_n hx hb d_t_mostEven_154 rfl (lv_at hl 2 rfl) ?_
        exact ro_iret FX (by rw [L_t_mostEven_13_s, if_pos c1]) d_t_mostEven_155
      · have c1 := c1
        have hk1 : k < S := k_lt hxi hsz c1 (by omega)
        refine lv_aload_n hx hb d_t_mostEven_25 rfl (lv_at hl 0 rfl) ?_
        refine ro_get (v := .ref g) FX hK hP 0 0 rfl rfl rfl i_t (by decide) kf_t_9 d_t_mostEven_26 ?_
        refine lv_iload hx hb d_t_mostEven_29 (lv_at hl 4 rfl) ?_
        refine ro_V (v := .int (bz (f_g_isSkipped sk xi))) (As := [.int xi]) (rest := []) (q0 := 2) FX hK (c_g_isSkipped l D cA g pa re ps rs sz bu sk xi) (hP.sub [2, 3, 4] rfl) hP rfl rfl rfl kc_g_isSkipped km_t_89 ki_g ks_g_isSkipped ke_g_isSkipped rfl ok_g_isSkipped ⟨Nat.le_of_ble_eq_true rfl, Nat.le_of_ble_eq_true rfl⟩ ⟨Nat.zero_le _, Nat.zero_le _⟩ hl.1 rfl (Nat.le_of_ble_eq_true rfl) d_t_mostEven_31 ?_
        refine lv_if_eq (tgt := 41) hx hb d_t_mostEven_34 (by decide) (fun c2 => ?_) (fun c2 => ?_)
        · have c2 := bz_f c2
          refine lv_aload_n hx hb d_t_mostEven_41 rfl (lv_at hl 0 rfl) ?_
          refine lv_aload_n hx hb d_t_mostEven_42 rfl (lv_at hl 0 rfl) ?_
          refine ro_get (v := .ref g) FX hK hP 0 0 rfl rfl rfl i_t (by decide) kf_t_9 d_t_mostEven_43 ?_
          refine lv_iload hx hb d_t_mostEven_46 (lv_at hl 4 rfl) ?_
          refine ro_V (v := .long (f_g_reach rs sz xi)) (As := [.int xi]) (rest := [.ref t]) (q0 := 2) FX hK (c_g_reach l D cA g pa re ps rs sz bu sk xi) (hP.sub [2, 3, 4] rfl) hP rfl rfl rfl kc_g_reach km_t_57 ki_g ks_g_reach ke_g_reach rfl ok_g_reach ⟨Nat.le_of_ble_eq_true rfl, Nat.le_of_ble_eq_true rfl⟩ ⟨Nat.zero_le _, Nat.zero_le _⟩ hl.1 rfl (Nat.le_of_ble_eq_true rfl) d_t_mostEven_48 ?_
          refine ro_V (v := .long (f_t_weightWithin wt (f_g_reach rs sz xi))) (As := [.long (f_g_reach rs sz xi)]) (rest := []) (q0 := 0) FX hK (c_t_weightWithin l D cA t wa go cl se bad fp fq su an sks wt g pa re ps rs sz bu sk (f_g_reach rs sz xi)) hP hP rfl rfl rfl kc_t_weightWithin km_t_93 ki_t ks_t_weightWithin ke_t_weightWithin rfl ok_t_weightWithin ⟨Nat.le_of_ble_eq_true rfl, Nat.le_of_ble_eq_true rfl⟩ ⟨Nat.zero_le _, Nat.zero_le _⟩ hl.1 rfl (Nat.le_of_ble_eq_true rfl) d_t_mostEven_51 ?_
          refine lv_lstore (lv' := [(7, .long (f_t_weightWithin wt (f_g_reach rs sz xi))), (0, .ref t), (1, .long (f_t_weightOfAll wt)), (3, .int be), (4, .long bg), (6, .int xi)]) hx hb d_t_mostEven_54 hl (by decide) rfl (fun ls hl => ?_)
          refine lv_lload hx hb d_t_mostEven_56 (lv_at hl 0 rfl) ?_
          refine lv_lconst (v := 0) hx hb d_t_mostEven_58 (by decide) ?_
          refine W.lcmp hx hb d_t_mostEven_59 ?_
          refine lv_if_le (tgt := 148) hx hb d_t_mostEven_60 (by decide) (fun c3 => ?_) (fun c3 => ?_)
          · have c3 := cp_le c3
            refine lv_iinc (v := xi + 1) (lv' := [(6, .int (xi + 1)), (7, .long (f_t_weightWithin wt (f_g_reach rs sz xi))), (0, .ref t), (1, .long (f_t_weightOfAll wt)), (3, .int be), (4, .long bg)]) hx hb d_t_mostEven_148 hl (k := 5) rfl rfl (by decide) rfl (fun ls hl => ?_)
            refine lv_goto (tgt := 13) hx hb d_t_mostEven_151 (by decide) ?_
            refine ro_to (by rw [L_t_mostEven_13_s, if_neg c1, if_neg c2, if_neg c3]) ?_
            exact ih (k + 1) be bg (xi + 1) ls (by omega) (by omega) (by rw [hxi]; exact nI_1 _)  (lv_sub hl [2, 3, 4, 5, 0] rfl)
          · have c3 := cp_nle c3
            refine lv_lload hx hb d_t_mostEven_63 (lv_at hl 0 rfl) ?_
            refine lv_lload_n hx hb d_t_mostEven_65 rfl (lv_at hl 2 rfl) ?_
            refine W.lcmp hx hb d_t_mostEven_66 ?_
            refine lv_if_lt (tgt := 73) hx hb d_t_mostEven_67 (by decide) (fun c4 => ?_) (fun c4 => ?_)
            · have c4 := cp_lt c4
              refine lv_lload hx hb d_t_mostEven_73 (lv_at hl 0 rfl) ?_
              refine lv_lload_n hx hb d_t_mostEven_75 rfl (lv_at hl 2 rfl) ?_
              refine lv_lload hx hb d_t_mostEven_76 (lv_at hl 0 rfl) ?_
              refine lv_lsub hx hb d_t_mostEven_78 ?_
              refine lv_lsub hx hb d_t_mostEven_79 ?_
              refine va_mabs_long hx hb (hml.trans hl.1.symm) hown (hts _ km_t_97) (hts _ ks_abs_long) (hts _ ki_ma) (hts _ kc_abs_long) (Nat.le_of_ble_eq_true rfl) (Nat.le_of_ble_eq_true rfl) (Nat.zero_le _) (Nat.zero_le _) d_t_mostEven_80 ?_
              refine lv_lstore (lv' := [(9, .long (if 0 < ((f_t_weightWithin wt (f_g_reach rs sz xi)) - ((f_t_weightOfAll wt) - (f_t_weightWithin wt (f_g_reach rs sz xi)))) then ((f_t_weightWithin wt (f_g_reach rs sz xi)) - ((f_t_weightOfAll wt) - (f_t_weightWithin wt (f_g_reach rs sz xi)))) else -((f_t_weightWithin wt (f_g_reach rs sz xi)) - ((f_t_weightOfAll wt) - (f_t_weightWithin wt (f_g_reach rs sz xi)))))), (7, .long (f_t_weightWithin wt (f_g_reach rs sz xi))), (0, .ref t), (1, .long (f_t_weightOfAll wt)), (3, .int be), (4, .long bg), (6, .int xi)]) hx hb d_t_mostEven_83 hl (by decide) rfl (fun ls hl => ?_)
              refine lv_lload hx hb d_t_mostEven_85 (lv_at hl 0 rfl) ?_
              refine lv_lload hx hb d_t_mostEven_87 (lv_at hl 5 rfl) ?_
              refine W.lcmp hx hb d_t_mostEven_89 ?_
              refine lv_if_ne (tgt := 120) hx hb d_t_mostEven_90 (by decide) (fun c5 => ?_) (fun c5 => ?_)
              · have c5 := cp_ne c5
                refine lv_iconst (v := 0) hx hb d_t_mostEven_120 (by decide) ?_
                refine lv_istore (lv' := [(11, .int 0), (9, .long (if 0 < ((f_t_weightWithin wt (f_g_reach rs sz xi)) - ((f_t_weightOfAll wt) - (f_t_weightWithin wt (f_g_reach rs sz xi)))) then ((f_t_weightWithin wt (f_g_reach rs sz xi)) - ((f_t_weightOfAll wt) - (f_t_weightWithin wt (f_g_reach rs sz xi)))) else -((f_t_weightWithin wt (f_g_reach rs sz xi)) - ((f_t_weightOfAll wt) - (f_t_weightWithin wt (f_g_reach rs sz xi)))))), (7, .long (f_t_weightWithin wt (f_g_reach rs sz xi))), (0, .ref t), (1, .long (f_t_weightOfAll wt)), (3, .int be), (4, .long bg), (6, .int xi)]) hx hb d_t_mostEven_121 hl (by decide) rfl (fun ls hl => ?_)
                refine lv_iload_n hx hb d_t_mostEven_123 rfl (lv_at hl 5 rfl) ?_
                refine lv_iconst (v := (-1)) hx hb d_t_mostEven_124 (by decide) ?_
                refine lv_icmp_eq (tgt := 141) hx hb d_t_mostEven_125 (by decide) (fun c6 => ?_) (fun c6 => ?_)
                · have c6 := c6
                  refine lv_iload hx hb d_t_mostEven_141 (lv_at hl 7 rfl) ?_
                  refine lv_istore_n (lv' := [(3, .int xi), (11, .int 0), (9, .long (if 0 < ((f_t_weightWithin wt (f_g_reach rs sz xi)) - ((f_t_weightOfAll wt) - (f_t_weightWithin wt (f_g_reach rs sz xi)))) then ((f_t_weightWithin wt (f_g_reach rs sz xi)) - ((f_t_weightOfAll wt) - (f_t_weightWithin wt (f_g_reach rs sz xi)))) else -((f_t_weightWithin wt (f_g_reach rs sz xi)) - ((f_t_weightOfAll wt) - (f_t_weightWithin wt (f_g_reach rs sz xi)))))), (7, .long (f_t_weightWithin wt (f_g_reach rs sz xi))), (0, .ref t), (1, .long (f_t_weightOfAll wt)), (4, .long bg), (6, .int xi)]) hx hb d_t_mostEven_143 rfl hl (by decide) rfl (fun ls hl => ?_)
                  refine lv_lload hx hb d_t_mostEven_144 (lv_at hl 2 rfl) ?_
                  refine lv_lstore (lv' := [(4, .long (if 0 < ((f_t_weightWithin wt (f_g_reach rs sz xi)) - ((f_t_weightOfAll wt) - (f_t_weightWithin wt (f_g_reach rs sz xi)))) then ((f_t_weightWithin wt (f_g_reach rs sz xi)) - ((f_t_weightOfAll wt) - (f_t_weightWithin wt (f_g_reach rs sz xi)))) else -((f_t_weightWithin wt (f_g_reach rs sz xi)) - ((f_t_weightOfAll wt) - (f_t_weightWithin wt (f_g_reach rs sz xi)))))), (3, .int xi), (11, .int 0), (9, .long (if 0 < ((f_t_weightWithin wt (f_g_reach rs sz xi)) - ((f_t_weightOfAll wt) - (f_t_weightWithin wt (f_g_reach rs sz xi)))) then ((f_t_weightWithin wt (f_g_reach rs sz xi)) - ((f_t_weightOfAll wt) - (f_t_weightWithin wt (f_g_reach rs sz xi)))) else -((f_t_weightWithin wt (f_g_reach rs sz xi)) - ((f_t_weightOfAll wt) - (f_t_weightWithin wt (f_g_reach rs sz xi)))))), (7, .long (f_t_weightWithin wt (f_g_reach rs sz xi))), (0, .ref t), (1, .long (f_t_weightOfAll wt)), (6, .int xi)]) hx hb d_t_mostEven_146 hl (by decide) rfl (fun ls hl => ?_)
                  refine lv_iinc (v := xi + 1) (lv' := [(6, .int (xi + 1)), (4, .long (if 0 < ((f_t_weightWithin wt (f_g_reach rs sz xi)) - ((f_t_weightOfAll wt) - (f_t_weightWithin wt (f_g_reach rs sz xi)))) then ((f_t_weightWithin wt (f_g_reach rs sz xi)) - ((f_t_weightOfAll wt) - (f_t_weightWithin wt (f_g_reach rs sz xi)))) else -((f_t_weightWithin wt (f_g_reach rs sz xi)) - ((f_t_weightOfAll wt) - (f_t_weightWithin wt (f_g_reach rs sz xi)))))), (3, .int xi), (11, .int 0), (9, .long (if 0 < ((f_t_weightWithin wt (f_g_reach rs sz xi)) - ((f_t_weightOfAll wt) - (f_t_weightWithin wt (f_g_reach rs sz xi)))) then ((f_t_weightWithin wt (f_g_reach rs sz xi)) - ((f_t_weightOfAll wt) - (f_t_weightWithin wt (f_g_reach rs sz xi)))) else -((f_t_weightWithin wt (f_g_reach rs sz xi)) - ((f_t_weightOfAll wt) - (f_t_weightWithin wt (f_g_reach rs sz xi)))))), (7, .long (f_t_weightWithin wt (f_g_reach rs sz xi))), (0, .ref t), (1, .long (f_t_weightOfAll wt))]) hx hb d_t_mostEven_148 hl (k := 7) rfl rfl (by decide) rfl (fun ls hl => ?_)
                  refine lv_goto (tgt := 13) hx hb d_t_mostEven_151 (by decide) ?_
                  refine ro_to (by rw [L_t_mostEven_13_s, if_neg c1, if_neg c2, if_pos c3, if_pos c4, if_neg c5, if_pos c6]) ?_
                  exact ih (k + 1) xi (if 0 < ((f_t_weightWithin wt (f_g_reach rs sz xi)) - ((f_t_weightOfAll wt) - (f_t_weightWithin wt (f_g_reach rs sz xi)))) then ((f_t_weightWithin wt (f_g_reach rs sz xi)) - ((f_t_weightOfAll wt) - (f_t_weightWithin wt (f_g_reach rs sz xi)))) else -((f_t_weightWithin wt (f_g_reach rs sz xi)) - ((f_t_weightOfAll wt) - (f_t_weightWithin wt (f_g_reach rs sz xi))))) (xi + 1) ls (by omega) (by omega) (by rw [hxi]; exact nI_1 _)  (lv_sub hl [6, 7, 2, 1, 0] rfl)
                · have c6 := c6
                  refine lv_lload hx hb d_t_mostEven_128 (lv_at hl 1 rfl) ?_
                  refine lv_lload hx hb d_t_mostEven_130 (lv_at hl 6 rfl) ?_
                  refine W.lcmp hx hb d_t_mostEven_132 ?_
                  refine lv_if_lt (tgt := 141) hx hb d_t_mostEven_133 (by decide) (fun c7 => ?_) (fun c7 => ?_)
                  · have c7 := cp_lt c7
                    refine lv_iload hx hb d_t_mostEven_141 (lv_at hl 7 rfl) ?_
                    refine lv_istore_n (lv' := [(3, .int xi), (11, .int 0), (9, .long (if 0 < ((f_t_weightWithin wt (f_g_reach rs sz xi)) - ((f_t_weightOfAll wt) - (f_t_weightWithin wt (f_g_reach rs sz xi)))) then ((f_t_weightWithin wt (f_g_reach rs sz xi)) - ((f_t_weightOfAll wt) - (f_t_weightWithin wt (f_g_reach rs sz xi)))) else -((f_t_weightWithin wt (f_g_reach rs sz xi)) - ((f_t_weightOfAll wt) - (f_t_weightWithin wt (f_g_reach rs sz xi)))))), (7, .long (f_t_weightWithin wt (f_g_reach rs sz xi))), (0, .ref t), (1, .long (f_t_weightOfAll wt)), (4, .long bg), (6, .int xi)]) hx hb d_t_mostEven_143 rfl hl (by decide) rfl (fun ls hl => ?_)
                    refine lv_lload hx hb d_t_mostEven_144 (lv_at hl 2 rfl) ?_
                    refine lv_lstore (lv' := [(4, .long (if 0 < ((f_t_weightWithin wt (f_g_reach rs sz xi)) - ((f_t_weightOfAll wt) - (f_t_weightWithin wt (f_g_reach rs sz xi)))) then ((f_t_weightWithin wt (f_g_reach rs sz xi)) - ((f_t_weightOfAll wt) - (f_t_weightWithin wt (f_g_reach rs sz xi)))) else -((f_t_weightWithin wt (f_g_reach rs sz xi)) - ((f_t_weightOfAll wt) - (f_t_weightWithin wt (f_g_reach rs sz xi)))))), (3, .int xi), (11, .int 0), (9, .long (if 0 < ((f_t_weightWithin wt (f_g_reach rs sz xi)) - ((f_t_weightOfAll wt) - (f_t_weightWithin wt (f_g_reach rs sz xi)))) then ((f_t_weightWithin wt (f_g_reach rs sz xi)) - ((f_t_weightOfAll wt) - (f_t_weightWithin wt (f_g_reach rs sz xi)))) else -((f_t_weightWithin wt (f_g_reach rs sz xi)) - ((f_t_weightOfAll wt) - (f_t_weightWithin wt (f_g_reach rs sz xi)))))), (7, .long (f_t_weightWithin wt (f_g_reach rs sz xi))), (0, .ref t), (1, .long (f_t_weightOfAll wt)), (6, .int xi)]) hx hb d_t_mostEven_146 hl (by decide) rfl (fun ls hl => ?_)
                    refine lv_iinc (v := xi + 1) (lv' := [(6, .int (xi + 1)), (4, .long (if 0 < ((f_t_weightWithin wt (f_g_reach rs sz xi)) - ((f_t_weightOfAll wt) - (f_t_weightWithin wt (f_g_reach rs sz xi)))) then ((f_t_weightWithin wt (f_g_reach rs sz xi)) - ((f_t_weightOfAll wt) - (f_t_weightWithin wt (f_g_reach rs sz xi)))) else -((f_t_weightWithin wt (f_g_reach rs sz xi)) - ((f_t_weightOfAll wt) - (f_t_weightWithin wt (f_g_reach rs sz xi)))))), (3, .int xi), (11, .int 0), (9, .long (if 0 < ((f_t_weightWithin wt (f_g_reach rs sz xi)) - ((f_t_weightOfAll wt) - (f_t_weightWithin wt (f_g_reach rs sz xi)))) then ((f_t_weightWithin wt (f_g_reach rs sz xi)) - ((f_t_weightOfAll wt) - (f_t_weightWithin wt (f_g_reach rs sz xi)))) else -((f_t_weightWithin wt (f_g_reach rs sz xi)) - ((f_t_weightOfAll wt) - (f_t_weightWithin wt (f_g_reach rs sz xi)))))), (7, .long (f_t_weightWithin wt (f_g_reach rs sz xi))), (0, .ref t), (1, .long (f_t_weightOfAll wt))]) hx hb d_t_mostEven_148 hl (k := 7) rfl rfl (by decide) rfl (fun ls hl => ?_)
                    refine lv_goto (tgt := 13) hx hb d_t_mostEven_151 (by decide) ?_
                    refine ro_to (by rw [L_t_mostEven_13_s, if_neg c1, if_neg c2, if_pos c3, if_pos c4, if_neg c5, if_neg c6, if_pos c7]) ?_
                    exact ih (k + 1) xi (if 0 < ((f_t_weightWithin wt (f_g_reach rs sz xi)) - ((f_t_weightOfAll wt) - (f_t_weightWithin wt (f_g_reach rs sz xi)))) then ((f_t_weightWithin wt (f_g_reach rs sz xi)) - ((f_t_weightOfAll wt) - (f_t_weightWithin wt (f_g_reach rs sz xi)))) else -((f_t_weightWithin wt (f_g_reach rs sz xi)) - ((f_t_weightOfAll wt) - (f_t_weightWithin wt (f_g_reach rs sz xi))))) (xi + 1) ls (by omega) (by omega) (by rw [hxi]; exact nI_1 _)  (lv_sub hl [6, 7, 2, 1, 0] rfl)
                  · have c7 := cp_nlt c7
                    refine lv_iload hx hb d_t_mostEven_136 (lv_at hl 0 rfl) ?_
                    refine lv_if_eq (tgt := 148) hx hb d_t_mostEven_138 (by decide) (fun c8 => ?_) (fun c8 => absurd c8 (by decide))
                    refine lv_iinc (v := xi + 1) (lv' := [(6, .int (xi + 1)), (11, .int 0), (9, .long (if 0 < ((f_t_weightWithin wt (f_g_reach rs sz xi)) - ((f_t_weightOfAll wt) - (f_t_weightWithin wt (f_g_reach rs sz xi)))) then ((f_t_weightWithin wt (f_g_reach rs sz xi)) - ((f_t_weightOfAll wt) - (f_t_weightWithin wt (f_g_reach rs sz xi)))) else -((f_t_weightWithin wt (f_g_reach rs sz xi)) - ((f_t_weightOfAll wt) - (f_t_weightWithin wt (f_g_reach rs sz xi)))))), (7, .long (f_t_weightWithin wt (f_g_reach rs sz xi))), (0, .ref t), (1, .long (f_t_weightOfAll wt)), (3, .int be), (4, .long bg)]) hx hb d_t_mostEven_148 hl (k := 7) rfl rfl (by decide) rfl (fun ls hl => ?_)
                    refine lv_goto (tgt := 13) hx hb d_t_mostEven_151 (by decide) ?_
                    refine ro_to (by rw [L_t_mostEven_13_s, if_neg c1, if_neg c2, if_pos c3, if_pos c4, if_neg c5, if_neg c6, if_neg c7]) ?_
                    exact ih (k + 1) be bg (xi + 1) ls (by omega) (by omega) (by rw [hxi]; exact nI_1 _)  (lv_sub hl [4, 5, 6, 7, 0] rfl)
              · have c5 := cp_eq c5
                refine lv_aload_n hx hb d_t_mostEven_93 rfl (lv_at hl 2 rfl) ?_
                refine ro_get (v := .ref g) FX hK hP 0 0 rfl rfl rfl i_t (by decide) kf_t_9 d_t_mostEven_94 ?_
                refine lv_iload hx hb d_t_mostEven_97 (lv_at hl 6 rfl) ?_
                refine ro_V (v := .int (bz (f_g_isBuilt bu xi))) (As := [.int xi]) (rest := []) (q0 := 2) FX hK (c_g_isBuilt l D cA g pa re ps rs sz bu sk xi) (hP.sub [2, 3, 4] rfl) hP rfl rfl rfl kc_g_isBuilt km_t_102 ki_g ks_g_isBuilt ke_g_isBuilt rfl ok_g_isBuilt ⟨Nat.le_of_ble_eq_true rfl, Nat.le_of_ble_eq_true rfl⟩ ⟨Nat.zero_le _, Nat.zero_le _⟩ hl.1 rfl (Nat.le_of_ble_eq_true rfl) d_t_mostEven_99 ?_
                refine lv_if_eq (tgt := 120) hx hb d_t_mostEven_102 (by decide) (fun c9 => ?_) (fun c9 => ?_)
                · have c9 := bz_f c9
                  refine lv_iconst (v := 0) hx hb d_t_mostEven_120 (by decide) ?_
                  refine lv_istore (lv' := [(11, .int 0), (9, .long (if 0 < ((f_t_weightWithin wt (f_g_reach rs sz xi)) - ((f_t_weightOfAll wt) - (f_t_weightWithin wt (f_g_reach rs sz xi)))) then ((f_t_weightWithin wt (f_g_reach rs sz xi)) - ((f_t_weightOfAll wt) - (f_t_weightWithin wt (f_g_reach rs sz xi)))) else -((f_t_weightWithin wt (f_g_reach rs sz xi)) - ((f_t_weightOfAll wt) - (f_t_weightWithin wt (f_g_reach rs sz xi)))))), (7, .long (f_t_weightWithin wt (f_g_reach rs sz xi))), (0, .ref t), (1, .long (f_t_weightOfAll wt)), (3, .int be), (4, .long bg), (6, .int xi)]) hx hb d_t_mostEven_121 hl (by decide) rfl (fun ls hl => ?_)
                  refine lv_iload_n hx hb d_t_mostEven_123 rfl (lv_at hl 5 rfl) ?_
                  refine lv_iconst (v := (-1)) hx hb d_t_mostEven_124 (by decide) ?_
                  refine lv_icmp_eq (tgt := 141) hx hb d_t_mostEven_125 (by decide) (fun c10 => ?_) (fun c10 => ?_)
                  · have c10 := c10
                    refine lv_iload hx hb d_t_mostEven_141 (lv_at hl 7 rfl) ?_
                    refine lv_istore_n (lv' := [(3, .int xi), (11, .int 0), (9, .long (if 0 < ((f_t_weightWithin wt (f_g_reach rs sz xi)) - ((f_t_weightOfAll wt) - (f_t_weightWithin wt (f_g_reach rs sz xi)))) then ((f_t_weightWithin wt (f_g_reach rs sz xi)) - ((f_t_weightOfAll wt) - (f_t_weightWithin wt (f_g_reach rs sz xi)))) else -((f_t_weightWithin wt (f_g_reach rs sz xi)) - ((f_t_weightOfAll wt) - (f_t_weightWithin wt (f_g_reach rs sz xi)))))), (7, .long (f_t_weightWithin wt (f_g_reach rs sz xi))), (0, .ref t), (1, .long (f_t_weightOfAll wt)), (4, .long bg), (6, .int xi)]) hx hb d_t_mostEven_143 rfl hl (by decide) rfl (fun ls hl => ?_)
                    refine lv_lload hx hb d_t_mostEven_144 (lv_at hl 2 rfl) ?_
                    refine lv_lstore (lv' := [(4, .long (if 0 < ((f_t_weightWithin wt (f_g_reach rs sz xi)) - ((f_t_weightOfAll wt) - (f_t_weightWithin wt (f_g_reach rs sz xi)))) then ((f_t_weightWithin wt (f_g_reach rs sz xi)) - ((f_t_weightOfAll wt) - (f_t_weightWithin wt (f_g_reach rs sz xi)))) else -((f_t_weightWithin wt (f_g_reach rs sz xi)) - ((f_t_weightOfAll wt) - (f_t_weightWithin wt (f_g_reach rs sz xi)))))), (3, .int xi), (11, .int 0), (9, .long (if 0 < ((f_t_weightWithin wt (f_g_reach rs sz xi)) - ((f_t_weightOfAll wt) - (f_t_weightWithin wt (f_g_reach rs sz xi)))) then ((f_t_weightWithin wt (f_g_reach rs sz xi)) - ((f_t_weightOfAll wt) - (f_t_weightWithin wt (f_g_reach rs sz xi)))) else -((f_t_weightWithin wt (f_g_reach rs sz xi)) - ((f_t_weightOfAll wt) - (f_t_weightWithin wt (f_g_reach rs sz xi)))))), (7, .long (f_t_weightWithin wt (f_g_reach rs sz xi))), (0, .ref t), (1, .long (f_t_weightOfAll wt)), (6, .int xi)]) hx hb d_t_mostEven_146 hl (by decide) rfl (fun ls hl => ?_)
                    refine lv_iinc (v := xi + 1) (lv' := [(6, .int (xi + 1)), (4, .long (if 0 < ((f_t_weightWithin wt (f_g_reach rs sz xi)) - ((f_t_weightOfAll wt) - (f_t_weightWithin wt (f_g_reach rs sz xi)))) then ((f_t_weightWithin wt (f_g_reach rs sz xi)) - ((f_t_weightOfAll wt) - (f_t_weightWithin wt (f_g_reach rs sz xi)))) else -((f_t_weightWithin wt (f_g_reach rs sz xi)) - ((f_t_weightOfAll wt) - (f_t_weightWithin wt (f_g_reach rs sz xi)))))), (3, .int xi), (11, .int 0), (9, .long (if 0 < ((f_t_weightWithin wt (f_g_reach rs sz xi)) - ((f_t_weightOfAll wt) - (f_t_weightWithin wt (f_g_reach rs sz xi)))) then ((f_t_weightWithin wt (f_g_reach rs sz xi)) - ((f_t_weightOfAll wt) - (f_t_weightWithin wt (f_g_reach rs sz xi)))) else -((f_t_weightWithin wt (f_g_reach rs sz xi)) - ((f_t_weightOfAll wt) - (f_t_weightWithin wt (f_g_reach rs sz xi)))))), (7, .long (f_t_weightWithin wt (f_g_reach rs sz xi))), (0, .ref t), (1, .long (f_t_weightOfAll wt))]) hx hb d_t_mostEven_148 hl (k := 7) rfl rfl (by decide) rfl (fun ls hl => ?_)
                    refine lv_goto (tgt := 13) hx hb d_t_mostEven_151 (by decide) ?_
                    refine ro_to (by rw [L_t_mostEven_13_s, if_neg c1, if_neg c2, if_pos c3, if_pos c4, if_pos c5, if_neg c9, if_pos c10]) ?_
                    exact ih (k + 1) xi (if 0 < ((f_t_weightWithin wt (f_g_reach rs sz xi)) - ((f_t_weightOfAll wt) - (f_t_weightWithin wt (f_g_reach rs sz xi)))) then ((f_t_weightWithin wt (f_g_reach rs sz xi)) - ((f_t_weightOfAll wt) - (f_t_weightWithin wt (f_g_reach rs sz xi)))) else -((f_t_weightWithin wt (f_g_reach rs sz xi)) - ((f_t_weightOfAll wt) - (f_t_weightWithin wt (f_g_reach rs sz xi))))) (xi + 1) ls (by omega) (by omega) (by rw [hxi]; exact nI_1 _)  (lv_sub hl [6, 7, 2, 1, 0] rfl)
                  · have c10 := c10
                    refine lv_lload hx hb d_t_mostEven_128 (lv_at hl 1 rfl) ?_
                    refine lv_lload hx hb d_t_mostEven_130 (lv_at hl 6 rfl) ?_
                    refine W.lcmp hx hb d_t_mostEven_132 ?_
                    refine lv_if_lt (tgt := 141) hx hb d_t_mostEven_133 (by decide) (fun c11 => ?_) (fun c11 => ?_)
                    · have c11 := cp_lt c11
                      refine lv_iload hx hb d_t_mostEven_141 (lv_at hl 7 rfl) ?_
                      refine lv_istore_n (lv' := [(3, .int xi), (11, .int 0), (9, .long (if 0 < ((f_t_weightWithin wt (f_g_reach rs sz xi)) - ((f_t_weightOfAll wt) - (f_t_weightWithin wt (f_g_reach rs sz xi)))) then ((f_t_weightWithin wt (f_g_reach rs sz xi)) - ((f_t_weightOfAll wt) - (f_t_weightWithin wt (f_g_reach rs sz xi)))) else -((f_t_weightWithin wt (f_g_reach rs sz xi)) - ((f_t_weightOfAll wt) - (f_t_weightWithin wt (f_g_reach rs sz xi)))))), (7, .long (f_t_weightWithin wt (f_g_reach rs sz xi))), (0, .ref t), (1, .long (f_t_weightOfAll wt)), (4, .long bg), (6, .int xi)]) hx hb d_t_mostEven_143 rfl hl (by decide) rfl (fun ls hl => ?_)
                      refine lv_lload hx hb d_t_mostEven_144 (lv_at hl 2 rfl) ?_
                      refine lv_lstore (lv' := [(4, .long (if 0 < ((f_t_weightWithin wt (f_g_reach rs sz xi)) - ((f_t_weightOfAll wt) - (f_t_weightWithin wt (f_g_reach rs sz xi)))) then ((f_t_weightWithin wt (f_g_reach rs sz xi)) - ((f_t_weightOfAll wt) - (f_t_weightWithin wt (f_g_reach rs sz xi)))) else -((f_t_weightWithin wt (f_g_reach rs sz xi)) - ((f_t_weightOfAll wt) - (f_t_weightWithin wt (f_g_reach rs sz xi)))))), (3, .int xi), (11, .int 0), (9, .long (if 0 < ((f_t_weightWithin wt (f_g_reach rs sz xi)) - ((f_t_weightOfAll wt) - (f_t_weightWithin wt (f_g_reach rs sz xi)))) then ((f_t_weightWithin wt (f_g_reach rs sz xi)) - ((f_t_weightOfAll wt) - (f_t_weightWithin wt (f_g_reach rs sz xi)))) else -((f_t_weightWithin wt (f_g_reach rs sz xi)) - ((f_t_weightOfAll wt) - (f_t_weightWithin wt (f_g_reach rs sz xi)))))), (7, .long (f_t_weightWithin wt (f_g_reach rs sz xi))), (0, .ref t), (1, .long (f_t_weightOfAll wt)), (6, .int xi)]) hx hb d_t_mostEven_146 hl (by decide) rfl (fun ls hl => ?_)
                      refine lv_iinc (v := xi + 1) (lv' := [(6, .int (xi + 1)), (4, .long (if 0 < ((f_t_weightWithin wt (f_g_reach rs sz xi)) - ((f_t_weightOfAll wt) - (f_t_weightWithin wt (f_g_reach rs sz xi)))) then ((f_t_weightWithin wt (f_g_reach rs sz xi)) - ((f_t_weightOfAll wt) - (f_t_weightWithin wt (f_g_reach rs sz xi)))) else -((f_t_weightWithin wt (f_g_reach rs sz xi)) - ((f_t_weightOfAll wt) - (f_t_weightWithin wt (f_g_reach rs sz xi)))))), (3, .int xi), (11, .int 0), (9, .long (if 0 < ((f_t_weightWithin wt (f_g_reach rs sz xi)) - ((f_t_weightOfAll wt) - (f_t_weightWithin wt (f_g_reach rs sz xi)))) then ((f_t_weightWithin wt (f_g_reach rs sz xi)) - ((f_t_weightOfAll wt) - (f_t_weightWithin wt (f_g_reach rs sz xi)))) else -((f_t_weightWithin wt (f_g_reach rs sz xi)) - ((f_t_weightOfAll wt) - (f_t_weightWithin wt (f_g_reach rs sz xi)))))), (7, .long (f_t_weightWithin wt (f_g_reach rs sz xi))), (0, .ref t), (1, .long (f_t_weightOfAll wt))]) hx hb d_t_mostEven_148 hl (k := 7) rfl rfl (by decide) rfl (fun ls hl => ?_)
                      refine lv_goto (tgt := 13) hx hb d_t_mostEven_151 (by decide) ?_
                      refine ro_to (by rw [L_t_mostEven_13_s, if_neg c1, if_neg c2, if_pos c3, if_pos c4, if_pos c5, if_neg c9, if_neg c10, if_pos c11]) ?_
                      exact ih (k + 1) xi (if 0 < ((f_t_weightWithin wt (f_g_reach rs sz xi)) - ((f_t_weightOfAll wt) - (f_t_weightWithin wt (f_g_reach rs sz xi)))) then ((f_t_weightWithin wt (f_g_reach rs sz xi)) - ((f_t_weightOfAll wt) - (f_t_weightWithin wt (f_g_reach rs sz xi)))) else -((f_t_weightWithin wt (f_g_reach rs sz xi)) - ((f_t_weightOfAll wt) - (f_t_weightWithin wt (f_g_reach rs sz xi))))) (xi + 1) ls (by omega) (by omega) (by rw [hxi]; exact nI_1 _)  (lv_sub hl [6, 7, 2, 1, 0] rfl)
                    · have c11 := cp_nlt c11
                      refine lv_iload hx hb d_t_mostEven_136 (lv_at hl 0 rfl) ?_
                      refine lv_if_eq (tgt := 148) hx hb d_t_mostEven_138 (by decide) (fun c12 => ?_) (fun c12 => absurd c12 (by decide))
                      refine lv_iinc (v := xi + 1) (lv' := [(6, .int (xi + 1)), (11, .int 0), (9, .long (if 0 < ((f_t_weightWithin wt (f_g_reach rs sz xi)) - ((f_t_weightOfAll wt) - (f_t_weightWithin wt (f_g_reach rs sz xi)))) then ((f_t_weightWithin wt (f_g_reach rs sz xi)) - ((f_t_weightOfAll wt) - (f_t_weightWithin wt (f_g_reach rs sz xi)))) else -((f_t_weightWithin wt (f_g_reach rs sz xi)) - ((f_t_weightOfAll wt) - (f_t_weightWithin wt (f_g_reach rs sz xi)))))), (7, .long (f_t_weightWithin wt (f_g_reach rs sz xi))), (0, .ref t), (1, .long (f_t_weightOfAll wt)), (3, .int be), (4, .long bg)]) hx hb d_t_mostEven_148 hl (k := 7) rfl rfl (by decide) rfl (fun ls hl => ?_)
                      refine lv_goto (tgt := 13) hx hb d_t_mostEven_151 (by decide) ?_
                      refine ro_to (by rw [L_t_mostEven_13_s, if_neg c1, if_neg c2, if_pos c3, if_pos c4, if_pos c5, if_neg c9, if_neg c10, if_neg c11]) ?_
                      exact ih (k + 1) be bg (xi + 1) ls (by omega) (by omega) (by rw [hxi]; exact nI_1 _)  (lv_sub hl [4, 5, 6, 7, 0] rfl)
                · have c9 := bz_t c9
                  refine lv_aload_n hx hb d_t_mostEven_105 rfl (lv_at hl 2 rfl) ?_
                  refine ro_get (v := .ref g) FX hK hP 0 0 rfl rfl rfl i_t (by decide) kf_t_9 d_t_mostEven_106 ?_
                  refine lv_iload_n hx hb d_t_mostEven_109 rfl (lv_at hl 4 rfl) ?_
                  refine ro_V (v := .int (bz (f_g_isBuilt bu be))) (As := [.int be]) (rest := []) (q0 := 2) FX hK (c_g_isBuilt l D cA g pa re ps rs sz bu sk be) (hP.sub [2, 3, 4] rfl) hP rfl rfl rfl kc_g_isBuilt km_t_102 ki_g ks_g_isBuilt ke_g_isBuilt rfl ok_g_isBuilt ⟨Nat.le_of_ble_eq_true rfl, Nat.le_of_ble_eq_true rfl⟩ ⟨Nat.zero_le _, Nat.zero_le _⟩ hl.1 rfl (Nat.le_of_ble_eq_true rfl) d_t_mostEven_110 ?_
                  refine lv_if_ne (tgt := 120) hx hb d_t_mostEven_113 (by decide) (fun c13 => ?_) (fun c13 => ?_)
                  · have c13 := bz_t c13
                    refine lv_iconst (v := 0) hx hb d_t_mostEven_120 (by decide) ?_
                    refine lv_istore (lv' := [(11, .int 0), (9, .long (if 0 < ((f_t_weightWithin wt (f_g_reach rs sz xi)) - ((f_t_weightOfAll wt) - (f_t_weightWithin wt (f_g_reach rs sz xi)))) then ((f_t_weightWithin wt (f_g_reach rs sz xi)) - ((f_t_weightOfAll wt) - (f_t_weightWithin wt (f_g_reach rs sz xi)))) else -((f_t_weightWithin wt (f_g_reach rs sz xi)) - ((f_t_weightOfAll wt) - (f_t_weightWithin wt (f_g_reach rs sz xi)))))), (7, .long (f_t_weightWithin wt (f_g_reach rs sz xi))), (0, .ref t), (1, .long (f_t_weightOfAll wt)), (3, .int be), (4, .long bg), (6, .int xi)]) hx hb d_t_mostEven_121 hl (by decide) rfl (fun ls hl => ?_)
                    refine lv_iload_n hx hb d_t_mostEven_123 rfl (lv_at hl 5 rfl) ?_
                    refine lv_iconst (v := (-1)) hx hb d_t_mostEven_124 (by decide) ?_
                    refine lv_icmp_eq (tgt := 141) hx hb d_t_mostEven_125 (by decide) (fun c14 => ?_) (fun c14 => ?_)
                    · have c14 := c14
                      refine lv_iload hx hb d_t_mostEven_141 (lv_at hl 7 rfl) ?_
                      refine lv_istore_n (lv' := [(3, .int xi), (11, .int 0), (9, .long (if 0 < ((f_t_weightWithin wt (f_g_reach rs sz xi)) - ((f_t_weightOfAll wt) - (f_t_weightWithin wt (f_g_reach rs sz xi)))) then ((f_t_weightWithin wt (f_g_reach rs sz xi)) - ((f_t_weightOfAll wt) - (f_t_weightWithin wt (f_g_reach rs sz xi)))) else -((f_t_weightWithin wt (f_g_reach rs sz xi)) - ((f_t_weightOfAll wt) - (f_t_weightWithin wt (f_g_reach rs sz xi)))))), (7, .long (f_t_weightWithin wt (f_g_reach rs sz xi))), (0, .ref t), (1, .long (f_t_weightOfAll wt)), (4, .long bg), (6, .int xi)]) hx hb d_t_mostEven_143 rfl hl (by decide) rfl (fun ls hl => ?_)
                      refine lv_lload hx hb d_t_mostEven_144 (lv_at hl 2 rfl) ?_
                      refine lv_lstore (lv' := [(4, .long (if 0 < ((f_t_weightWithin wt (f_g_reach rs sz xi)) - ((f_t_weightOfAll wt) - (f_t_weightWithin wt (f_g_reach rs sz xi)))) then ((f_t_weightWithin wt (f_g_reach rs sz xi)) - ((f_t_weightOfAll wt) - (f_t_weightWithin wt (f_g_reach rs sz xi)))) else -((f_t_weightWithin wt (f_g_reach rs sz xi)) - ((f_t_weightOfAll wt) - (f_t_weightWithin wt (f_g_reach rs sz xi)))))), (3, .int xi), (11, .int 0), (9, .long (if 0 < ((f_t_weightWithin wt (f_g_reach rs sz xi)) - ((f_t_weightOfAll wt) - (f_t_weightWithin wt (f_g_reach rs sz xi)))) then ((f_t_weightWithin wt (f_g_reach rs sz xi)) - ((f_t_weightOfAll wt) - (f_t_weightWithin wt (f_g_reach rs sz xi)))) else -((f_t_weightWithin wt (f_g_reach rs sz xi)) - ((f_t_weightOfAll wt) - (f_t_weightWithin wt (f_g_reach rs sz xi)))))), (7, .long (f_t_weightWithin wt (f_g_reach rs sz xi))), (0, .ref t), (1, .long (f_t_weightOfAll wt)), (6, .int xi)]) hx hb d_t_mostEven_146 hl (by decide) rfl (fun ls hl => ?_)
                      refine lv_iinc (v := xi + 1) (lv' := [(6, .int (xi + 1)), (4, .long (if 0 < ((f_t_weightWithin wt (f_g_reach rs sz xi)) - ((f_t_weightOfAll wt) - (f_t_weightWithin wt (f_g_reach rs sz xi)))) then ((f_t_weightWithin wt (f_g_reach rs sz xi)) - ((f_t_weightOfAll wt) - (f_t_weightWithin wt (f_g_reach rs sz xi)))) else -((f_t_weightWithin wt (f_g_reach rs sz xi)) - ((f_t_weightOfAll wt) - (f_t_weightWithin wt (f_g_reach rs sz xi)))))), (3, .int xi), (11, .int 0), (9, .long (if 0 < ((f_t_weightWithin wt (f_g_reach rs sz xi)) - ((f_t_weightOfAll wt) - (f_t_weightWithin wt (f_g_reach rs sz xi)))) then ((f_t_weightWithin wt (f_g_reach rs sz xi)) - ((f_t_weightOfAll wt) - (f_t_weightWithin wt (f_g_reach rs sz xi)))) else -((f_t_weightWithin wt (f_g_reach rs sz xi)) - ((f_t_weightOfAll wt) - (f_t_weightWithin wt (f_g_reach rs sz xi)))))), (7, .long (f_t_weightWithin wt (f_g_reach rs sz xi))), (0, .ref t), (1, .long (f_t_weightOfAll wt))]) hx hb d_t_mostEven_148 hl (k := 7) rfl rfl (by decide) rfl (fun ls hl => ?_)
                      refine lv_goto (tgt := 13) hx hb d_t_mostEven_151 (by decide) ?_
                      refine ro_to (by rw [L_t_mostEven_13_s, if_neg c1, if_neg c2, if_pos c3, if_pos c4, if_pos c5, if_pos c9, if_pos c13, if_pos c14]) ?_
                      exact ih (k + 1) xi (if 0 < ((f_t_weightWithin wt (f_g_reach rs sz xi)) - ((f_t_weightOfAll wt) - (f_t_weightWithin wt (f_g_reach rs sz xi)))) then ((f_t_weightWithin wt (f_g_reach rs sz xi)) - ((f_t_weightOfAll wt) - (f_t_weightWithin wt (f_g_reach rs sz xi)))) else -((f_t_weightWithin wt (f_g_reach rs sz xi)) - ((f_t_weightOfAll wt) - (f_t_weightWithin wt (f_g_reach rs sz xi))))) (xi + 1) ls (by omega) (by omega) (by rw [hxi]; exact nI_1 _)  (lv_sub hl [6, 7, 2, 1, 0] rfl)
                    · have c14 := c14
                      refine lv_lload hx hb d_t_mostEven_128 (lv_at hl 1 rfl) ?_
                      refine lv_lload hx hb d_t_mostEven_130 (lv_at hl 6 rfl) ?_
                      refine W.lcmp hx hb d_t_mostEven_132 ?_
                      refine lv_if_lt (tgt := 141) hx hb d_t_mostEven_133 (by decide) (fun c15 => ?_) (fun c15 => ?_)
                      · have c15 := cp_lt c15
                        refine lv_iload hx hb d_t_mostEven_141 (lv_at hl 7 rfl) ?_
                        refine lv_istore_n (lv' := [(3, .int xi), (11, .int 0), (9, .long (if 0 < ((f_t_weightWithin wt (f_g_reach rs sz xi)) - ((f_t_weightOfAll wt) - (f_t_weightWithin wt (f_g_reach rs sz xi)))) then ((f_t_weightWithin wt (f_g_reach rs sz xi)) - ((f_t_weightOfAll wt) - (f_t_weightWithin wt (f_g_reach rs sz xi)))) else -((f_t_weightWithin wt (f_g_reach rs sz xi)) - ((f_t_weightOfAll wt) - (f_t_weightWithin wt (f_g_reach rs sz xi)))))), (7, .long (f_t_weightWithin wt (f_g_reach rs sz xi))), (0, .ref t), (1, .long (f_t_weightOfAll wt)), (4, .long bg), (6, .int xi)]) hx hb d_t_mostEven_143 rfl hl (by decide) rfl (fun ls hl => ?_)
                        refine lv_lload hx hb d_t_mostEven_144 (lv_at hl 2 rfl) ?_
                        refine lv_lstore (lv' := [(4, .long (if 0 < ((f_t_weightWithin wt (f_g_reach rs sz xi)) - ((f_t_weightOfAll wt) - (f_t_weightWithin wt (f_g_reach rs sz xi)))) then ((f_t_weightWithin wt (f_g_reach rs sz xi)) - ((f_t_weightOfAll wt) - (f_t_weightWithin wt (f_g_reach rs sz xi)))) else -((f_t_weightWithin wt (f_g_reach rs sz xi)) - ((f_t_weightOfAll wt) - (f_t_weightWithin wt (f_g_reach rs sz xi)))))), (3, .int xi), (11, .int 0), (9, .long (if 0 < ((f_t_weightWithin wt (f_g_reach rs sz xi)) - ((f_t_weightOfAll wt) - (f_t_weightWithin wt (f_g_reach rs sz xi)))) then ((f_t_weightWithin wt (f_g_reach rs sz xi)) - ((f_t_weightOfAll wt) - (f_t_weightWithin wt (f_g_reach rs sz xi)))) else -((f_t_weightWithin wt (f_g_reach rs sz xi)) - ((f_t_weightOfAll wt) - (f_t_weightWithin wt (f_g_reach rs sz xi)))))), (7, .long (f_t_weightWithin wt (f_g_reach rs sz xi))), (0, .ref t), (1, .long (f_t_weightOfAll wt)), (6, .int xi)]) hx hb d_t_mostEven_146 hl (by decide) rfl (fun ls hl => ?_)
                        refine lv_iinc (v := xi + 1) (lv' := [(6, .int (xi + 1)), (4, .long (if 0 < ((f_t_weightWithin wt (f_g_reach rs sz xi)) - ((f_t_weightOfAll wt) - (f_t_weightWithin wt (f_g_reach rs sz xi)))) then ((f_t_weightWithin wt (f_g_reach rs sz xi)) - ((f_t_weightOfAll wt) - (f_t_weightWithin wt (f_g_reach rs sz xi)))) else -((f_t_weightWithin wt (f_g_reach rs sz xi)) - ((f_t_weightOfAll wt) - (f_t_weightWithin wt (f_g_reach rs sz xi)))))), (3, .int xi), (11, .int 0), (9, .long (if 0 < ((f_t_weightWithin wt (f_g_reach rs sz xi)) - ((f_t_weightOfAll wt) - (f_t_weightWithin wt (f_g_reach rs sz xi)))) then ((f_t_weightWithin wt (f_g_reach rs sz xi)) - ((f_t_weightOfAll wt) - (f_t_weightWithin wt (f_g_reach rs sz xi)))) else -((f_t_weightWithin wt (f_g_reach rs sz xi)) - ((f_t_weightOfAll wt) - (f_t_weightWithin wt (f_g_reach rs sz xi)))))), (7, .long (f_t_weightWithin wt (f_g_reach rs sz xi))), (0, .ref t), (1, .long (f_t_weightOfAll wt))]) hx hb d_t_mostEven_148 hl (k := 7) rfl rfl (by decide) rfl (fun ls hl => ?_)
                        refine lv_goto (tgt := 13) hx hb d_t_mostEven_151 (by decide) ?_
                        refine ro_to (by rw [L_t_mostEven_13_s, if_neg c1, if_neg c2, if_pos c3, if_pos c4, if_pos c5, if_pos c9, if_pos c13, if_neg c14, if_pos c15]) ?_
                        exact ih (k + 1) xi (if 0 < ((f_t_weightWithin wt (f_g_reach rs sz xi)) - ((f_t_weightOfAll wt) - (f_t_weightWithin wt (f_g_reach rs sz xi)))) then ((f_t_weightWithin wt (f_g_reach rs sz xi)) - ((f_t_weightOfAll wt) - (f_t_weightWithin wt (f_g_reach rs sz xi)))) else -((f_t_weightWithin wt (f_g_reach rs sz xi)) - ((f_t_weightOfAll wt) - (f_t_weightWithin wt (f_g_reach rs sz xi))))) (xi + 1) ls (by omega) (by omega) (by rw [hxi]; exact nI_1 _)  (lv_sub hl [6, 7, 2, 1, 0] rfl)
                      · have c15 := cp_nlt c15
                        refine lv_iload hx hb d_t_mostEven_136 (lv_at hl 0 rfl) ?_
                        refine lv_if_eq (tgt := 148) hx hb d_t_mostEven_138 (by decide) (fun c16 => ?_) (fun c16 => absurd c16 (by decide))
                        refine lv_iinc (v := xi + 1) (lv' := [(6, .int (xi + 1)), (11, .int 0), (9, .long (if 0 < ((f_t_weightWithin wt (f_g_reach rs sz xi)) - ((f_t_weightOfAll wt) - (f_t_weightWithin wt (f_g_reach rs sz xi)))) then ((f_t_weightWithin wt (f_g_reach rs sz xi)) - ((f_t_weightOfAll wt) - (f_t_weightWithin wt (f_g_reach rs sz xi)))) else -((f_t_weightWithin wt (f_g_reach rs sz xi)) - ((f_t_weightOfAll wt) - (f_t_weightWithin wt (f_g_reach rs sz xi)))))), (7, .long (f_t_weightWithin wt (f_g_reach rs sz xi))), (0, .ref t), (1, .long (f_t_weightOfAll wt)), (3, .int be), (4, .long bg)]) hx hb d_t_mostEven_148 hl (k := 7) rfl rfl (by decide) rfl (fun ls hl => ?_)
                        refine lv_goto (tgt := 13) hx hb d_t_mostEven_151 (by decide) ?_
                        refine ro_to (by rw [L_t_mostEven_13_s, if_neg c1, if_neg c2, if_pos c3, if_pos c4, if_pos c5, if_pos c9, if_pos c13, if_neg c14, if_neg c15]) ?_
                        exact ih (k + 1) be bg (xi + 1) ls (by omega) (by omega) (by rw [hxi]; exact nI_1 _)  (lv_sub hl [4, 5, 6, 7, 0] rfl)
                  · have c13 := bz_f c13
                    refine lv_iconst (v := 1) hx hb d_t_mostEven_116 (by decide) ?_
                    refine lv_goto (tgt := 121) hx hb d_t_mostEven_117 (by decide) ?_
                    refine lv_istore (lv' := [(11, .int 1), (9, .long (if 0 < ((f_t_weightWithin wt (f_g_reach rs sz xi)) - ((f_t_weightOfAll wt) - (f_t_weightWithin wt (f_g_reach rs sz xi)))) then ((f_t_weightWithin wt (f_g_reach rs sz xi)) - ((f_t_weightOfAll wt) - (f_t_weightWithin wt (f_g_reach rs sz xi)))) else -((f_t_weightWithin wt (f_g_reach rs sz xi)) - ((f_t_weightOfAll wt) - (f_t_weightWithin wt (f_g_reach rs sz xi)))))), (7, .long (f_t_weightWithin wt (f_g_reach rs sz xi))), (0, .ref t), (1, .long (f_t_weightOfAll wt)), (3, .int be), (4, .long bg), (6, .int xi)]) hx hb d_t_mostEven_121 hl (by decide) rfl (fun ls hl => ?_)
                    refine lv_iload_n hx hb d_t_mostEven_123 rfl (lv_at hl 5 rfl) ?_
                    refine lv_iconst (v := (-1)) hx hb d_t_mostEven_124 (by decide) ?_
                    refine lv_icmp_eq (tgt := 141) hx hb d_t_mostEven_125 (by decide) (fun c17 => ?_) (fun c17 => ?_)
                    · have c17 := c17
                      refine lv_iload hx hb d_t_mostEven_141 (lv_at hl 7 rfl) ?_
                      refine lv_istore_n (lv' := [(3, .int xi), (11, .int 1), (9, .long (if 0 < ((f_t_weightWithin wt (f_g_reach rs sz xi)) - ((f_t_weightOfAll wt) - (f_t_weightWithin wt (f_g_reach rs sz xi)))) then ((f_t_weightWithin wt (f_g_reach rs sz xi)) - ((f_t_weightOfAll wt) - (f_t_weightWithin wt (f_g_reach rs sz xi)))) else -((f_t_weightWithin wt (f_g_reach rs sz xi)) - ((f_t_weightOfAll wt) - (f_t_weightWithin wt (f_g_reach rs sz xi)))))), (7, .long (f_t_weightWithin wt (f_g_reach rs sz xi))), (0, .ref t), (1, .long (f_t_weightOfAll wt)), (4, .long bg), (6, .int xi)]) hx hb d_t_mostEven_143 rfl hl (by decide) rfl (fun ls hl => ?_)
                      refine lv_lload hx hb d_t_mostEven_144 (lv_at hl 2 rfl) ?_
                      refine lv_lstore (lv' := [(4, .long (if 0 < ((f_t_weightWithin wt (f_g_reach rs sz xi)) - ((f_t_weightOfAll wt) - (f_t_weightWithin wt (f_g_reach rs sz xi)))) then ((f_t_weightWithin wt (f_g_reach rs sz xi)) - ((f_t_weightOfAll wt) - (f_t_weightWithin wt (f_g_reach rs sz xi)))) else -((f_t_weightWithin wt (f_g_reach rs sz xi)) - ((f_t_weightOfAll wt) - (f_t_weightWithin wt (f_g_reach rs sz xi)))))), (3, .int xi), (11, .int 1), (9, .long (if 0 < ((f_t_weightWithin wt (f_g_reach rs sz xi)) - ((f_t_weightOfAll wt) - (f_t_weightWithin wt (f_g_reach rs sz xi)))) then ((f_t_weightWithin wt (f_g_reach rs sz xi)) - ((f_t_weightOfAll wt) - (f_t_weightWithin wt (f_g_reach rs sz xi)))) else -((f_t_weightWithin wt (f_g_reach rs sz xi)) - ((f_t_weightOfAll wt) - (f_t_weightWithin wt (f_g_reach rs sz xi)))))), (7, .long (f_t_weightWithin wt (f_g_reach rs sz xi))), (0, .ref t), (1, .long (f_t_weightOfAll wt)), (6, .int xi)]) hx hb d_t_mostEven_146 hl (by decide) rfl (fun ls hl => ?_)
                      refine lv_iinc (v := xi + 1) (lv' := [(6, .int (xi + 1)), (4, .long (if 0 < ((f_t_weightWithin wt (f_g_reach rs sz xi)) - ((f_t_weightOfAll wt) - (f_t_weightWithin wt (f_g_reach rs sz xi)))) then ((f_t_weightWithin wt (f_g_reach rs sz xi)) - ((f_t_weightOfAll wt) - (f_t_weightWithin wt (f_g_reach rs sz xi)))) else -((f_t_weightWithin wt (f_g_reach rs sz xi)) - ((f_t_weightOfAll wt) - (f_t_weightWithin wt (f_g_reach rs sz xi)))))), (3, .int xi), (11, .int 1), (9, .long (if 0 < ((f_t_weightWithin wt (f_g_reach rs sz xi)) - ((f_t_weightOfAll wt) - (f_t_weightWithin wt (f_g_reach rs sz xi)))) then ((f_t_weightWithin wt (f_g_reach rs sz xi)) - ((f_t_weightOfAll wt) - (f_t_weightWithin wt (f_g_reach rs sz xi)))) else -((f_t_weightWithin wt (f_g_reach rs sz xi)) - ((f_t_weightOfAll wt) - (f_t_weightWithin wt (f_g_reach rs sz xi)))))), (7, .long (f_t_weightWithin wt (f_g_reach rs sz xi))), (0, .ref t), (1, .long (f_t_weightOfAll wt))]) hx hb d_t_mostEven_148 hl (k := 7) rfl rfl (by decide) rfl (fun ls hl => ?_)
                      refine lv_goto (tgt := 13) hx hb d_t_mostEven_151 (by decide) ?_
                      refine ro_to (by rw [L_t_mostEven_13_s, if_neg c1, if_neg c2, if_pos c3, if_pos c4, if_pos c5, if_pos c9, if_neg c13, if_pos c17]) ?_
                      exact ih (k + 1) xi (if 0 < ((f_t_weightWithin wt (f_g_reach rs sz xi)) - ((f_t_weightOfAll wt) - (f_t_weightWithin wt (f_g_reach rs sz xi)))) then ((f_t_weightWithin wt (f_g_reach rs sz xi)) - ((f_t_weightOfAll wt) - (f_t_weightWithin wt (f_g_reach rs sz xi)))) else -((f_t_weightWithin wt (f_g_reach rs sz xi)) - ((f_t_weightOfAll wt) - (f_t_weightWithin wt (f_g_reach rs sz xi))))) (xi + 1) ls (by omega) (by omega) (by rw [hxi]; exact nI_1 _)  (lv_sub hl [6, 7, 2, 1, 0] rfl)
                    · have c17 := c17
                      refine lv_lload hx hb d_t_mostEven_128 (lv_at hl 1 rfl) ?_
                      refine lv_lload hx hb d_t_mostEven_130 (lv_at hl 6 rfl) ?_
                      refine W.lcmp hx hb d_t_mostEven_132 ?_
                      refine lv_if_lt (tgt := 141) hx hb d_t_mostEven_133 (by decide) (fun c18 => ?_) (fun c18 => ?_)
                      · have c18 := cp_lt c18
                        refine lv_iload hx hb d_t_mostEven_141 (lv_at hl 7 rfl) ?_
                        refine lv_istore_n (lv' := [(3, .int xi), (11, .int 1), (9, .long (if 0 < ((f_t_weightWithin wt (f_g_reach rs sz xi)) - ((f_t_weightOfAll wt) - (f_t_weightWithin wt (f_g_reach rs sz xi)))) then ((f_t_weightWithin wt (f_g_reach rs sz xi)) - ((f_t_weightOfAll wt) - (f_t_weightWithin wt (f_g_reach rs sz xi)))) else -((f_t_weightWithin wt (f_g_reach rs sz xi)) - ((f_t_weightOfAll wt) - (f_t_weightWithin wt (f_g_reach rs sz xi)))))), (7, .long (f_t_weightWithin wt (f_g_reach rs sz xi))), (0, .ref t), (1, .long (f_t_weightOfAll wt)), (4, .long bg), (6, .int xi)]) hx hb d_t_mostEven_143 rfl hl (by decide) rfl (fun ls hl => ?_)
                        refine lv_lload hx hb d_t_mostEven_144 (lv_at hl 2 rfl) ?_
                        refine lv_lstore (lv' := [(4, .long (if 0 < ((f_t_weightWithin wt (f_g_reach rs sz xi)) - ((f_t_weightOfAll wt) - (f_t_weightWithin wt (f_g_reach rs sz xi)))) then ((f_t_weightWithin wt (f_g_reach rs sz xi)) - ((f_t_weightOfAll wt) - (f_t_weightWithin wt (f_g_reach rs sz xi)))) else -((f_t_weightWithin wt (f_g_reach rs sz xi)) - ((f_t_weightOfAll wt) - (f_t_weightWithin wt (f_g_reach rs sz xi)))))), (3, .int xi), (11, .int 1), (9, .long (if 0 < ((f_t_weightWithin wt (f_g_reach rs sz xi)) - ((f_t_weightOfAll wt) - (f_t_weightWithin wt (f_g_reach rs sz xi)))) then ((f_t_weightWithin wt (f_g_reach rs sz xi)) - ((f_t_weightOfAll wt) - (f_t_weightWithin wt (f_g_reach rs sz xi)))) else -((f_t_weightWithin wt (f_g_reach rs sz xi)) - ((f_t_weightOfAll wt) - (f_t_weightWithin wt (f_g_reach rs sz xi)))))), (7, .long (f_t_weightWithin wt (f_g_reach rs sz xi))), (0, .ref t), (1, .long (f_t_weightOfAll wt)), (6, .int xi)]) hx hb d_t_mostEven_146 hl (by decide) rfl (fun ls hl => ?_)
                        refine lv_iinc (v := xi + 1) (lv' := [(6, .int (xi + 1)), (4, .long (if 0 < ((f_t_weightWithin wt (f_g_reach rs sz xi)) - ((f_t_weightOfAll wt) - (f_t_weightWithin wt (f_g_reach rs sz xi)))) then ((f_t_weightWithin wt (f_g_reach rs sz xi)) - ((f_t_weightOfAll wt) - (f_t_weightWithin wt (f_g_reach rs sz xi)))) else -((f_t_weightWithin wt (f_g_reach rs sz xi)) - ((f_t_weightOfAll wt) - (f_t_weightWithin wt (f_g_reach rs sz xi)))))), (3, .int xi), (11, .int 1), (9, .long (if 0 < ((f_t_weightWithin wt (f_g_reach rs sz xi)) - ((f_t_weightOfAll wt) - (f_t_weightWithin wt (f_g_reach rs sz xi)))) then ((f_t_weightWithin wt (f_g_reach rs sz xi)) - ((f_t_weightOfAll wt) - (f_t_weightWithin wt (f_g_reach rs sz xi)))) else -((f_t_weightWithin wt (f_g_reach rs sz xi)) - ((f_t_weightOfAll wt) - (f_t_weightWithin wt (f_g_reach rs sz xi)))))), (7, .long (f_t_weightWithin wt (f_g_reach rs sz xi))), (0, .ref t), (1, .long (f_t_weightOfAll wt))]) hx hb d_t_mostEven_148 hl (k := 7) rfl rfl (by decide) rfl (fun ls hl => ?_)
                        refine lv_goto (tgt := 13) hx hb d_t_mostEven_151 (by decide) ?_
                        refine ro_to (by rw [L_t_mostEven_13_s, if_neg c1, if_neg c2, if_pos c3, if_pos c4, if_pos c5, if_pos c9, if_neg c13, if_neg c17, if_pos c18]) ?_
                        exact ih (k + 1) xi (if 0 < ((f_t_weightWithin wt (f_g_reach rs sz xi)) - ((f_t_weightOfAll wt) - (f_t_weightWithin wt (f_g_reach rs sz xi)))) then ((f_t_weightWithin wt (f_g_reach rs sz xi)) - ((f_t_weightOfAll wt) - (f_t_weightWithin wt (f_g_reach rs sz xi)))) else -((f_t_weightWithin wt (f_g_reach rs sz xi)) - ((f_t_weightOfAll wt) - (f_t_weightWithin wt (f_g_reach rs sz xi))))) (xi + 1) ls (by omega) (by omega) (by rw [hxi]; exact nI_1 _)  (lv_sub hl [6, 7, 2, 1, 0] rfl)
                      · have c18 := cp_nlt c18
                        refine lv_iload hx hb d_t_mostEven_136 (lv_at hl 0 rfl) ?_
                        refine lv_if_eq (tgt := 148) hx hb d_t_mostEven_138 (by decide) (fun c19 => absurd c19 (by decide)) (fun c19 => ?_)
                        refine lv_iload hx hb d_t_mostEven_141 (lv_at hl 7 rfl) ?_
                        refine lv_istore_n (lv' := [(3, .int xi), (11, .int 1), (9, .long (if 0 < ((f_t_weightWithin wt (f_g_reach rs sz xi)) - ((f_t_weightOfAll wt) - (f_t_weightWithin wt (f_g_reach rs sz xi)))) then ((f_t_weightWithin wt (f_g_reach rs sz xi)) - ((f_t_weightOfAll wt) - (f_t_weightWithin wt (f_g_reach rs sz xi)))) else -((f_t_weightWithin wt (f_g_reach rs sz xi)) - ((f_t_weightOfAll wt) - (f_t_weightWithin wt (f_g_reach rs sz xi)))))), (7, .long (f_t_weightWithin wt (f_g_reach rs sz xi))), (0, .ref t), (1, .long (f_t_weightOfAll wt)), (4, .long bg), (6, .int xi)]) hx hb d_t_mostEven_143 rfl hl (by decide) rfl (fun ls hl => ?_)
                        refine lv_lload hx hb d_t_mostEven_144 (lv_at hl 2 rfl) ?_
                        refine lv_lstore (lv' := [(4, .long (if 0 < ((f_t_weightWithin wt (f_g_reach rs sz xi)) - ((f_t_weightOfAll wt) - (f_t_weightWithin wt (f_g_reach rs sz xi)))) then ((f_t_weightWithin wt (f_g_reach rs sz xi)) - ((f_t_weightOfAll wt) - (f_t_weightWithin wt (f_g_reach rs sz xi)))) else -((f_t_weightWithin wt (f_g_reach rs sz xi)) - ((f_t_weightOfAll wt) - (f_t_weightWithin wt (f_g_reach rs sz xi)))))), (3, .int xi), (11, .int 1), (9, .long (if 0 < ((f_t_weightWithin wt (f_g_reach rs sz xi)) - ((f_t_weightOfAll wt) - (f_t_weightWithin wt (f_g_reach rs sz xi)))) then ((f_t_weightWithin wt (f_g_reach rs sz xi)) - ((f_t_weightOfAll wt) - (f_t_weightWithin wt (f_g_reach rs sz xi)))) else -((f_t_weightWithin wt (f_g_reach rs sz xi)) - ((f_t_weightOfAll wt) - (f_t_weightWithin wt (f_g_reach rs sz xi)))))), (7, .long (f_t_weightWithin wt (f_g_reach rs sz xi))), (0, .ref t), (1, .long (f_t_weightOfAll wt)), (6, .int xi)]) hx hb d_t_mostEven_146 hl (by decide) rfl (fun ls hl => ?_)
                        refine lv_iinc (v := xi + 1) (lv' := [(6, .int (xi + 1)), (4, .long (if 0 < ((f_t_weightWithin wt (f_g_reach rs sz xi)) - ((f_t_weightOfAll wt) - (f_t_weightWithin wt (f_g_reach rs sz xi)))) then ((f_t_weightWithin wt (f_g_reach rs sz xi)) - ((f_t_weightOfAll wt) - (f_t_weightWithin wt (f_g_reach rs sz xi)))) else -((f_t_weightWithin wt (f_g_reach rs sz xi)) - ((f_t_weightOfAll wt) - (f_t_weightWithin wt (f_g_reach rs sz xi)))))), (3, .int xi), (11, .int 1), (9, .long (if 0 < ((f_t_weightWithin wt (f_g_reach rs sz xi)) - ((f_t_weightOfAll wt) - (f_t_weightWithin wt (f_g_reach rs sz xi)))) then ((f_t_weightWithin wt (f_g_reach rs sz xi)) - ((f_t_weightOfAll wt) - (f_t_weightWithin wt (f_g_reach rs sz xi)))) else -((f_t_weightWithin wt (f_g_reach rs sz xi)) - ((f_t_weightOfAll wt) - (f_t_weightWithin wt (f_g_reach rs sz xi)))))), (7, .long (f_t_weightWithin wt (f_g_reach rs sz xi))), (0, .ref t), (1, .long (f_t_weightOfAll wt))]) hx hb d_t_mostEven_148 hl (k := 7) rfl rfl (by decide) rfl (fun ls hl => ?_)
                        refine lv_goto (tgt := 13) hx hb d_t_mostEven_151 (by decide) ?_
                        refine ro_to (by rw [L_t_mostEven_13_s, if_neg c1, if_neg c2, if_pos c3, if_pos c4, if_pos c5, if_pos c9, if_neg c13, if_neg c17, if_neg c18]) ?_
                        exact ih (k + 1) xi (if 0 < ((f_t_weightWithin wt (f_g_reach rs sz xi)) - ((f_t_weightOfAll wt) - (f_t_weightWithin wt (f_g_reach rs sz xi)))) then ((f_t_weightWithin wt (f_g_reach rs sz xi)) - ((f_t_weightOfAll wt) - (f_t_weightWithin wt (f_g_reach rs sz xi)))) else -((f_t_weightWithin wt (f_g_reach rs sz xi)) - ((f_t_weightOfAll wt) - (f_t_weightWithin wt (f_g_reach rs sz xi))))) (xi + 1) ls (by omega) (by omega) (by rw [hxi]; exact nI_1 _)  (lv_sub hl [6, 7, 2, 1, 0] rfl)
            · have c4 := cp_nlt c4
              refine lv_goto (tgt := 148) hx hb d_t_mostEven_70 (by decide) ?_
              refine lv_iinc (v := xi + 1) (lv' := [(6, .int (xi + 1)), (7, .long (f_t_weightWithin wt (f_g_reach rs sz xi))), (0, .ref t), (1, .long (f_t_weightOfAll wt)), (3, .int be), (4, .long bg)]) hx hb d_t_mostEven_148 hl (k := 5) rfl rfl (by decide) rfl (fun ls hl => ?_)
              refine lv_goto (tgt := 13) hx hb d_t_mostEven_151 (by decide) ?_
              refine ro_to (by rw [L_t_mostEven_13_s, if_neg c1, if_neg c2, if_pos c3, if_neg c4]) ?_
              exact ih (k + 1) be bg (xi + 1) ls (by omega) (by omega) (by rw [hxi]; exact nI_1 _)  (lv_sub hl [2, 3, 4, 5, 0] rfl)
        · have c2 := bz_t c2
          refine lv_lconst (v := 0) hx hb d_t_mostEven_37 (by decide) ?_
          refine lv_goto (tgt := 54) hx hb d_t_mostEven_38 (by decide) ?_
          refine lv_lstore (lv' := [(7, .long 0), (0, .ref t), (1, .long (f_t_weightOfAll wt)), (3, .int be), (4, .long bg), (6, .int xi)]) hx hb d_t_mostEven_54 hl (by decide) rfl (fun ls hl => ?_)
          refine lv_lload hx hb d_t_mostEven_56 (lv_at hl 0 rfl) ?_
          refine lv_lconst (v := 0) hx hb d_t_mostEven_58 (by decide) ?_
          refine W.lcmp hx hb d_t_mostEven_59 ?_
          refine lv_if_le (tgt := 148) hx hb d_t_mostEven_60 (by decide) (fun c20 => ?_) (fun c20 => absurd c20 (by decide))
          refine lv_iinc (v := xi + 1) (lv' := [(6, .int (xi + 1)), (7, .long 0), (0, .ref t), (1, .long (f_t_weightOfAll wt)), (3, .int be), (4, .long bg)]) hx hb d_t_mostEven_148 hl (k := 5) rfl rfl (by decide) rfl (fun ls hl => ?_)
          refine lv_goto (tgt := 13) hx hb d_t_mostEven_151 (by decide) ?_
          refine ro_to (by rw [L_t_mostEven_13_s, if_neg c1, if_pos c2]) ?_
          exact ih (k + 1) be bg (xi + 1) ls (by omega) (by omega) (by rw [hxi]; exact nI_1 _)  (lv_sub hl [2, 3, 4, 5, 0] rfl)
  refine ro_to (by rw [f_t_mostEven]) ?_
  exact loop 41 0 (-1) 0 0 ls rfl (Nat.zero_le _) rfl  (lv_sub hl [4, 3, 2, 1, 0] rfl)
theorem d_t_standing_0 : decode b_t_standing 0 = .ok (.aload_n 0, 1) := by decide +kernel
theorem d_t_standing_1 : decode b_t_standing 1 = .ok (.invokevirtual 76, 3) := by decide +kernel
theorem d_t_standing_4 : decode b_t_standing 4 = .ok (.iconst (-1), 1) := by decide +kernel
theorem d_t_standing_5 : decode b_t_standing 5 = .ok (.if_icmp .eq 5, 3) := by decide +kernel
theorem d_t_standing_8 : decode b_t_standing 8 = .ok (.iconst 1, 1) := by decide +kernel
theorem d_t_standing_9 : decode b_t_standing 9 = .ok (.ireturn, 1) := by decide +kernel
theorem d_t_standing_10 : decode b_t_standing 10 = .ok (.aload_n 0, 1) := by decide +kernel
theorem d_t_standing_11 : decode b_t_standing 11 = .ok (.getfield 43, 3) := by decide +kernel
theorem d_t_standing_14 : decode b_t_standing 14 = .ok (.bipush 15, 2) := by decide +kernel
theorem d_t_standing_16 : decode b_t_standing 16 = .ok (.if_icmp .lt 5, 3) := by decide +kernel
theorem d_t_standing_19 : decode b_t_standing 19 = .ok (.iconst 3, 1) := by decide +kernel
theorem d_t_standing_20 : decode b_t_standing 20 = .ok (.ireturn, 1) := by decide +kernel
theorem d_t_standing_21 : decode b_t_standing 21 = .ok (.aload_n 0, 1) := by decide +kernel
theorem d_t_standing_22 : decode b_t_standing 22 = .ok (.invokevirtual 80, 3) := by decide +kernel
theorem d_t_standing_25 : decode b_t_standing 25 = .ok (.iconst (-1), 1) := by decide +kernel
theorem d_t_standing_26 : decode b_t_standing 26 = .ok (.if_icmp .ne 7, 3) := by decide +kernel
theorem d_t_standing_29 : decode b_t_standing 29 = .ok (.iconst 2, 1) := by decide +kernel
theorem d_t_standing_30 : decode b_t_standing 30 = .ok (.goto 4, 3) := by decide +kernel
theorem d_t_standing_33 : decode b_t_standing 33 = .ok (.iconst 0, 1) := by decide +kernel
theorem d_t_standing_34 : decode b_t_standing 34 = .ok (.ireturn, 1) := by decide +kernel
def f_t_standing (su : Int32) (an : Int32) (wt : Nat → Int64) (rs : Nat → Int64) (sz : Int32) (bu : Int64) (sk : Int64) : Int32 := if (f_t_culprit su wt) = (-1) then
    (if an < 15 then
      (if (f_t_mostEven wt rs sz bu sk) = (-1) then
        (2)
      else
        (0))
    else
      (3))
  else
    (1)
set_option maxHeartbeats 4000000 in
set_option maxRecDepth 100000 in
theorem c_t_standing (l : Launch) (D : va_G) (cA : Nat → ClassId) (t wa : Nat) (go cl : Int64) (se : Bool) (bad fp fq su an sks : Int32) (wt : Nat → Int64) (g pa re : Nat) (ps rs : Nat → Int64) (sz : Int32) (bu sk : Int64) (S : Nat) (hS40 : S ≤ 40) (hsz : sz = nI S) : Met l y_t_standing (.code y_t_standing b_t_standing 1 (some .int) :: tb) (rmd 4) (Pro D cA [.ref t] (va_P D classes [(t, .inr (2, [.ref g, .ref wa, .long go, .long cl, .int (bz se), .int bad, .int fp, .int fq, .int su, .int an, .int sks])), (wa, .inl (cA 0, 40, .inr (.inl wt))), (g, .inr (1, [.ref pa, .ref re, .int sz, .long bu, .long sk])), (pa, .inl (cA 0, 40, .inr (.inl ps))), (re, .inl (cA 0, 40, .inr (.inl rs)))])) (Qro (.int (f_t_standing su an wt rs sz bu sk))) 0 0 nof := by
  refine ro_in (by decide) (Nat.le_of_ble_eq_true rfl) (fun p e s m below meth c ls FX hnm hK hP hl => ?_)
  have hl : lv_has ls 1 [(0, .ref t)] := hl
  have hP : va_P D classes [(t, .inr (2, [.ref g, .ref wa, .long go, .long cl, .int (bz se), .int bad, .int fp, .int fq, .int su, .int an, .int sks])), (wa, .inl (cA 0, 40, .inr (.inl wt))), (g, .inr (1, [.ref pa, .ref re, .int sz, .long bu, .long sk])), (pa, .inl (cA 0, 40, .inr (.inl ps))), (re, .inl (cA 0, 40, .inr (.inl rs)))] s.heap := hP
  generalize ([.ref t] : List Value).toArray = args at FX ⊢
  obtain ⟨hx, hb, hml, hown, hts, hr, hlk⟩ := id FX
  refine lv_aload_n hx hb d_t_standing_0 rfl (lv_at hl 0 rfl) ?_
  refine ro_V (v := .int (f_t_culprit su wt)) (As := []) (rest := []) (q0 := 0) FX hK (c_t_culprit l D cA t wa go cl se bad fp fq su an sks wt g pa re ps rs sz bu sk) hP hP rfl rfl rfl kc_t_culprit km_t_76 ki_t ks_t_culprit ke_t_culprit rfl ok_t_culprit ⟨Nat.le_of_ble_eq_true rfl, Nat.le_of_ble_eq_true rfl⟩ ⟨Nat.zero_le _, Nat.zero_le _⟩ hl.1 rfl (Nat.le_of_ble_eq_true rfl) d_t_standing_1 ?_
  refine lv_iconst (v := (-1)) hx hb d_t_standing_4 (by decide) ?_
  refine lv_icmp_eq (tgt := 10) hx hb d_t_standing_5 (by decide) (fun c1 => ?_) (fun c1 => ?_)
  · have c1 := c1
    refine lv_aload_n hx hb d_t_standing_10 rfl (lv_at hl 0 rfl) ?_
    refine ro_get (v := .int an) FX hK hP 0 9 rfl rfl rfl i_t (by decide) kf_t_43 d_t_standing_11 ?_
    refine lv_bipush (v := 15) hx hb d_t_standing_14 (by decide) ?_
    refine lv_icmp_lt (tgt := 21) hx hb d_t_standing_16 (by decide) (fun c2 => ?_) (fun c2 => ?_)
    · have c2 := c2
      refine lv_aload_n hx hb d_t_standing_21 rfl (lv_at hl 0 rfl) ?_
      refine ro_V (v := .int (f_t_mostEven wt rs sz bu sk)) (As := []) (rest := []) (q0 := 0) FX hK (c_t_mostEven l D cA t wa go cl se bad fp fq su an sks wt g pa re ps rs sz bu sk S hS40 hsz) hP hP rfl rfl rfl kc_t_mostEven km_t_80 ki_t ks_t_mostEven ke_t_mostEven rfl ok_t_mostEven ⟨Nat.le_of_ble_eq_true rfl, Nat.le_of_ble_eq_true rfl⟩ ⟨Nat.zero_le _, Nat.zero_le _⟩ hl.1 rfl (Nat.le_of_ble_eq_true rfl) d_t_standing_22 ?_
      refine lv_iconst (v := (-1)) hx hb d_t_standing_25 (by decide) ?_
      refine lv_icmp_ne (tgt := 33) hx hb d_t_standing_26 (by decide) (fun c3 => ?_) (fun c3 => ?_)
      · have c3 := c3
        refine lv_iconst (v := 0) hx hb d_t_standing_33 (by decide) ?_
        exact ro_iret FX (by rw [f_t_standing, if_pos c1, if_pos c2, if_neg c3]) d_t_standing_34
      · have c3 := c3
        refine lv_iconst (v := 2) hx hb d_t_standing_29 (by decide) ?_
        refine lv_goto (tgt := 34) hx hb d_t_standing_30 (by decide) ?_
        exact ro_iret FX (by rw [f_t_standing, if_pos c1, if_pos c2, if_pos c3]) d_t_standing_34
    · have c2 := c2
      refine lv_iconst (v := 3) hx hb d_t_standing_19 (by decide) ?_
      exact ro_iret FX (by rw [f_t_standing, if_pos c1, if_neg c2]) d_t_standing_20
  · have c1 := c1
    refine lv_iconst (v := 1) hx hb d_t_standing_8 (by decide) ?_
    exact ro_iret FX (by rw [f_t_standing, if_neg c1]) d_t_standing_9
theorem d_t_asked_0 : decode b_t_asked 0 = .ok (.aload_n 0, 1) := by decide +kernel
theorem d_t_asked_1 : decode b_t_asked 1 = .ok (.invokevirtual 83, 3) := by decide +kernel
theorem d_t_asked_4 : decode b_t_asked 4 = .ok (.ifCond .ne 10, 3) := by decide +kernel
theorem d_t_asked_7 : decode b_t_asked 7 = .ok (.aload_n 0, 1) := by decide +kernel
theorem d_t_asked_8 : decode b_t_asked 8 = .ok (.invokevirtual 80, 3) := by decide +kernel
theorem d_t_asked_11 : decode b_t_asked 11 = .ok (.goto 4, 3) := by decide +kernel
theorem d_t_asked_14 : decode b_t_asked 14 = .ok (.iconst (-1), 1) := by decide +kernel
theorem d_t_asked_15 : decode b_t_asked 15 = .ok (.ireturn, 1) := by decide +kernel
def f_t_asked (su : Int32) (an : Int32) (wt : Nat → Int64) (rs : Nat → Int64) (sz : Int32) (bu : Int64) (sk : Int64) : Int32 := if (f_t_standing su an wt rs sz bu sk) = 0 then
    (f_t_mostEven wt rs sz bu sk)
  else
    ((-1))
set_option maxHeartbeats 4000000 in
set_option maxRecDepth 100000 in
theorem c_t_asked (l : Launch) (D : va_G) (cA : Nat → ClassId) (t wa : Nat) (go cl : Int64) (se : Bool) (bad fp fq su an sks : Int32) (wt : Nat → Int64) (g pa re : Nat) (ps rs : Nat → Int64) (sz : Int32) (bu sk : Int64) (S : Nat) (hS40 : S ≤ 40) (hsz : sz = nI S) : Met l y_t_asked (.code y_t_asked b_t_asked 1 (some .int) :: tb) (rmd 5) (Pro D cA [.ref t] (va_P D classes [(t, .inr (2, [.ref g, .ref wa, .long go, .long cl, .int (bz se), .int bad, .int fp, .int fq, .int su, .int an, .int sks])), (wa, .inl (cA 0, 40, .inr (.inl wt))), (g, .inr (1, [.ref pa, .ref re, .int sz, .long bu, .long sk])), (pa, .inl (cA 0, 40, .inr (.inl ps))), (re, .inl (cA 0, 40, .inr (.inl rs)))])) (Qro (.int (f_t_asked su an wt rs sz bu sk))) 0 0 nof := by
  refine ro_in (by decide) (Nat.le_of_ble_eq_true rfl) (fun p e s m below meth c ls FX hnm hK hP hl => ?_)
  have hl : lv_has ls 1 [(0, .ref t)] := hl
  have hP : va_P D classes [(t, .inr (2, [.ref g, .ref wa, .long go, .long cl, .int (bz se), .int bad, .int fp, .int fq, .int su, .int an, .int sks])), (wa, .inl (cA 0, 40, .inr (.inl wt))), (g, .inr (1, [.ref pa, .ref re, .int sz, .long bu, .long sk])), (pa, .inl (cA 0, 40, .inr (.inl ps))), (re, .inl (cA 0, 40, .inr (.inl rs)))] s.heap := hP
  generalize ([.ref t] : List Value).toArray = args at FX ⊢
  obtain ⟨hx, hb, hml, hown, hts, hr, hlk⟩ := id FX
  refine lv_aload_n hx hb d_t_asked_0 rfl (lv_at hl 0 rfl) ?_
  refine ro_V (v := .int (f_t_standing su an wt rs sz bu sk)) (As := []) (rest := []) (q0 := 0) FX hK (c_t_standing l D cA t wa go cl se bad fp fq su an sks wt g pa re ps rs sz bu sk S hS40 hsz) hP hP rfl rfl rfl kc_t_standing km_t_83 ki_t ks_t_standing ke_t_standing rfl ok_t_standing ⟨Nat.le_of_ble_eq_true rfl, Nat.le_of_ble_eq_true rfl⟩ ⟨Nat.zero_le _, Nat.zero_le _⟩ hl.1 rfl (Nat.le_of_ble_eq_true rfl) d_t_asked_1 ?_
  refine lv_if_ne (tgt := 14) hx hb d_t_asked_4 (by decide) (fun c1 => ?_) (fun c1 => ?_)
  · have c1 := c1
    refine lv_iconst (v := (-1)) hx hb d_t_asked_14 (by decide) ?_
    exact ro_iret FX (by rw [f_t_asked, if_neg c1]) d_t_asked_15
  · have c1 := c1
    refine lv_aload_n hx hb d_t_asked_7 rfl (lv_at hl 0 rfl) ?_
    refine ro_V (v := .int (f_t_mostEven wt rs sz bu sk)) (As := []) (rest := []) (q0 := 0) FX hK (c_t_mostEven l D cA t wa go cl se bad fp fq su an sks wt g pa re ps rs sz bu sk S hS40 hsz) hP hP rfl rfl rfl kc_t_mostEven km_t_80 ki_t ks_t_mostEven ke_t_mostEven rfl ok_t_mostEven ⟨Nat.le_of_ble_eq_true rfl, Nat.le_of_ble_eq_true rfl⟩ ⟨Nat.zero_le _, Nat.zero_le _⟩ hl.1 rfl (Nat.le_of_ble_eq_true rfl) d_t_asked_8 ?_
    refine lv_goto (tgt := 15) hx hb d_t_asked_11 (by decide) ?_
    exact ro_iret FX (by rw [f_t_asked, if_pos c1]) d_t_asked_15
theorem d_t_likelihood_0 : decode b_t_likelihood 0 = .ok (.iload_n 1, 1) := by decide +kernel
theorem d_t_likelihood_1 : decode b_t_likelihood 1 = .ok (.iconst 1, 1) := by decide +kernel
theorem d_t_likelihood_2 : decode b_t_likelihood 2 = .ok (.if_icmp .ne 22, 3) := by decide +kernel
theorem d_t_likelihood_5 : decode b_t_likelihood 5 = .ok (.iload_n 2, 1) := by decide +kernel
theorem d_t_likelihood_6 : decode b_t_likelihood 6 = .ok (.ifCond .eq 16, 3) := by decide +kernel
theorem d_t_likelihood_9 : decode b_t_likelihood 9 = .ok (.aload_n 0, 1) := by decide +kernel
theorem d_t_likelihood_10 : decode b_t_likelihood 10 = .ok (.getfield 37, 3) := by decide +kernel
theorem d_t_likelihood_13 : decode b_t_likelihood 13 = .ok (.aload_n 0, 1) := by decide +kernel
theorem d_t_likelihood_14 : decode b_t_likelihood 14 = .ok (.getfield 34, 3) := by decide +kernel
theorem d_t_likelihood_17 : decode b_t_likelihood 17 = .ok (.isub, 1) := by decide +kernel
theorem d_t_likelihood_18 : decode b_t_likelihood 18 = .ok (.i2l, 1) := by decide +kernel
theorem d_t_likelihood_19 : decode b_t_likelihood 19 = .ok (.goto 4, 3) := by decide +kernel
theorem d_t_likelihood_22 : decode b_t_likelihood 22 = .ok (.lconst 0, 1) := by decide +kernel
theorem d_t_likelihood_23 : decode b_t_likelihood 23 = .ok (.lreturn, 1) := by decide +kernel
theorem d_t_likelihood_24 : decode b_t_likelihood 24 = .ok (.iload_n 2, 1) := by decide +kernel
theorem d_t_likelihood_25 : decode b_t_likelihood 25 = .ok (.ifCond .eq 11, 3) := by decide +kernel
theorem d_t_likelihood_28 : decode b_t_likelihood 28 = .ok (.aload_n 0, 1) := by decide +kernel
theorem d_t_likelihood_29 : decode b_t_likelihood 29 = .ok (.getfield 34, 3) := by decide +kernel
theorem d_t_likelihood_32 : decode b_t_likelihood 32 = .ok (.i2l, 1) := by decide +kernel
theorem d_t_likelihood_33 : decode b_t_likelihood 33 = .ok (.goto 8, 3) := by decide +kernel
theorem d_t_likelihood_36 : decode b_t_likelihood 36 = .ok (.aload_n 0, 1) := by decide +kernel
theorem d_t_likelihood_37 : decode b_t_likelihood 37 = .ok (.getfield 37, 3) := by decide +kernel
theorem d_t_likelihood_40 : decode b_t_likelihood 40 = .ok (.i2l, 1) := by decide +kernel
theorem d_t_likelihood_41 : decode b_t_likelihood 41 = .ok (.lreturn, 1) := by decide +kernel
def f_t_likelihood (fp : Int32) (fq : Int32) (ou : Int32) (br : Bool) : Int64 := if ou = 1 then
    (if br = true then
      ((fq - fp).toInt64)
    else
      (0))
  else
    (if br = true then
      (fp.toInt64)
    else
      (fq.toInt64))
set_option maxHeartbeats 4000000 in
set_option maxRecDepth 100000 in
theorem c_t_likelihood (l : Launch) (D : va_G) (cA : Nat → ClassId) (t wa : Nat) (go cl : Int64) (se : Bool) (bad fp fq su an sks : Int32) (wt : Nat → Int64) (g pa re : Nat) (ps rs : Nat → Int64) (sz : Int32) (bu sk : Int64) (ou : Int32) (br : Bool) : Met l y_t_likelihood (.code y_t_likelihood b_t_likelihood 3 (some .long) :: tb) (rmd 0) (Pro D cA [.ref t, .int ou, .int (bz br)] (va_P D classes [(t, .inr (2, [.ref g, .ref wa, .long go, .long cl, .int (bz se), .int bad, .int fp, .int fq, .int su, .int an, .int sks])), (wa, .inl (cA 0, 40, .inr (.inl wt))), (g, .inr (1, [.ref pa, .ref re, .int sz, .long bu, .long sk])), (pa, .inl (cA 0, 40, .inr (.inl ps))), (re, .inl (cA 0, 40, .inr (.inl rs)))])) (Qro (.long (f_t_likelihood fp fq ou br))) 0 0 nof := by
  refine ro_in (by decide) (Nat.le_of_ble_eq_true rfl) (fun p e s m below meth c ls FX hnm hK hP hl => ?_)
  have hl : lv_has ls 3 [(0, .ref t), (1, .int ou), (2, .int (bz br))] := hl
  have hP : va_P D classes [(t, .inr (2, [.ref g, .ref wa, .long go, .long cl, .int (bz se), .int bad, .int fp, .int fq, .int su, .int an, .int sks])), (wa, .inl (cA 0, 40, .inr (.inl wt))), (g, .inr (1, [.ref pa, .ref re, .int sz, .long bu, .long sk])), (pa, .inl (cA 0, 40, .inr (.inl ps))), (re, .inl (cA 0, 40, .inr (.inl rs)))] s.heap := hP
  generalize ([.ref t, .int ou, .int (bz br)] : List Value).toArray = args at FX ⊢
  obtain ⟨hx, hb, hml, hown, hts, hr, hlk⟩ := id FX
  refine lv_iload_n hx hb d_t_likelihood_0 rfl (lv_at hl 1 rfl) ?_
  refine lv_iconst (v := 1) hx hb d_t_likelihood_1 (by decide) ?_
  refine lv_icmp_ne (tgt := 24) hx hb d_t_likelihood_2 (by decide) (fun c1 => ?_) (fun c1 => ?_)
  · have c1 := c1
    refine lv_iload_n hx hb d_t_likelihood_24 rfl (lv_at hl 2 rfl) ?_
    refine lv_if_eq (tgt := 36) hx hb d_t_likelihood_25 (by decide) (fun c2 => ?_) (fun c2 => ?_)
    · have c2 := bz_f c2
      refine lv_aload_n hx hb d_t_likelihood_36 rfl (lv_at hl 0 rfl) ?_
      refine ro_get (v := .int fq) FX hK hP 0 7 rfl rfl rfl i_t (by decide) kf_t_37 d_t_likelihood_37 ?_
      refine lv_i2l (v := fq.toInt64) hx hb d_t_likelihood_40 rfl ?_
      exact ro_lret FX (by rw [f_t_likelihood, if_neg c1, if_neg c2]) d_t_likelihood_41
    · have c2 := bz_t c2
      refine lv_aload_n hx hb d_t_likelihood_28 rfl (lv_at hl 0 rfl) ?_
      refine ro_get (v := .int fp) FX hK hP 0 6 rfl rfl rfl i_t (by decide) kf_t_34 d_t_likelihood_29 ?_
      refine lv_i2l (v := fp.toInt64) hx hb d_t_likelihood_32 rfl ?_
      refine lv_goto (tgt := 41) hx hb d_t_likelihood_33 (by decide) ?_
      exact ro_lret FX (by rw [f_t_likelihood, if_neg c1, if_pos c2]) d_t_likelihood_41
  · have c1 := c1
    refine lv_iload_n hx hb d_t_likelihood_5 rfl (lv_at hl 2 rfl) ?_
    refine lv_if_eq (tgt := 22) hx hb d_t_likelihood_6 (by decide) (fun c3 => ?_) (fun c3 => ?_)
    · have c3 := bz_f c3
      refine lv_lconst (v := 0) hx hb d_t_likelihood_22 (by decide) ?_
      exact ro_lret FX (by rw [f_t_likelihood, if_pos c1, if_neg c3]) d_t_likelihood_23
    · have c3 := bz_t c3
      refine lv_aload_n hx hb d_t_likelihood_9 rfl (lv_at hl 0 rfl) ?_
      refine ro_get (v := .int fq) FX hK hP 0 7 rfl rfl rfl i_t (by decide) kf_t_37 d_t_likelihood_10 ?_
      refine lv_aload_n hx hb d_t_likelihood_13 rfl (lv_at hl 0 rfl) ?_
      refine ro_get (v := .int fp) FX hK hP 0 6 rfl rfl rfl i_t (by decide) kf_t_34 d_t_likelihood_14 ?_
      refine lv_isub hx hb d_t_likelihood_17 ?_
      refine lv_i2l (v := (fq - fp).toInt64) hx hb d_t_likelihood_18 rfl ?_
      refine lv_goto (tgt := 23) hx hb d_t_likelihood_19 (by decide) ?_
      exact ro_lret FX (by rw [f_t_likelihood, if_pos c1, if_pos c3]) d_t_likelihood_23
theorem d_t_rankOf_0 : decode b_t_rankOf 0 = .ok (.aload_n 0, 1) := by decide +kernel
theorem d_t_rankOf_1 : decode b_t_rankOf 1 = .ok (.iload_n 1, 1) := by decide +kernel
theorem d_t_rankOf_2 : decode b_t_rankOf 2 = .ok (.invokevirtual 120, 3) := by decide +kernel
theorem d_t_rankOf_5 : decode b_t_rankOf 5 = .ok (.lstore_n 2, 1) := by decide +kernel
theorem d_t_rankOf_6 : decode b_t_rankOf 6 = .ok (.iconst 0, 1) := by decide +kernel
theorem d_t_rankOf_7 : decode b_t_rankOf 7 = .ok (.istore 4, 2) := by decide +kernel
theorem d_t_rankOf_9 : decode b_t_rankOf 9 = .ok (.iconst 0, 1) := by decide +kernel
theorem d_t_rankOf_10 : decode b_t_rankOf 10 = .ok (.istore 5, 2) := by decide +kernel
theorem d_t_rankOf_12 : decode b_t_rankOf 12 = .ok (.iload 5, 2) := by decide +kernel
theorem d_t_rankOf_14 : decode b_t_rankOf 14 = .ok (.aload_n 0, 1) := by decide +kernel
theorem d_t_rankOf_15 : decode b_t_rankOf 15 = .ok (.getfield 15, 3) := by decide +kernel
theorem d_t_rankOf_18 : decode b_t_rankOf 18 = .ok (.arraylength, 1) := by decide +kernel
theorem d_t_rankOf_19 : decode b_t_rankOf 19 = .ok (.if_icmp .ge 42, 3) := by decide +kernel
theorem d_t_rankOf_22 : decode b_t_rankOf 22 = .ok (.aload_n 0, 1) := by decide +kernel
theorem d_t_rankOf_23 : decode b_t_rankOf 23 = .ok (.getfield 15, 3) := by decide +kernel
theorem d_t_rankOf_26 : decode b_t_rankOf 26 = .ok (.iload 5, 2) := by decide +kernel
theorem d_t_rankOf_28 : decode b_t_rankOf 28 = .ok (.laload, 1) := by decide +kernel
theorem d_t_rankOf_29 : decode b_t_rankOf 29 = .ok (.lload_n 2, 1) := by decide +kernel
theorem d_t_rankOf_30 : decode b_t_rankOf 30 = .ok (.lcmp, 1) := by decide +kernel
theorem d_t_rankOf_31 : decode b_t_rankOf 31 = .ok (.ifCond .gt 21, 3) := by decide +kernel
theorem d_t_rankOf_34 : decode b_t_rankOf 34 = .ok (.aload_n 0, 1) := by decide +kernel
theorem d_t_rankOf_35 : decode b_t_rankOf 35 = .ok (.getfield 15, 3) := by decide +kernel
theorem d_t_rankOf_38 : decode b_t_rankOf 38 = .ok (.iload 5, 2) := by decide +kernel
theorem d_t_rankOf_40 : decode b_t_rankOf 40 = .ok (.laload, 1) := by decide +kernel
theorem d_t_rankOf_41 : decode b_t_rankOf 41 = .ok (.lload_n 2, 1) := by decide +kernel
theorem d_t_rankOf_42 : decode b_t_rankOf 42 = .ok (.lcmp, 1) := by decide +kernel
theorem d_t_rankOf_43 : decode b_t_rankOf 43 = .ok (.ifCond .ne 12, 3) := by decide +kernel
theorem d_t_rankOf_46 : decode b_t_rankOf 46 = .ok (.iload 5, 2) := by decide +kernel
theorem d_t_rankOf_48 : decode b_t_rankOf 48 = .ok (.iload_n 1, 1) := by decide +kernel
theorem d_t_rankOf_49 : decode b_t_rankOf 49 = .ok (.if_icmp .ge 6, 3) := by decide +kernel
theorem d_t_rankOf_52 : decode b_t_rankOf 52 = .ok (.iinc 4 1, 3) := by decide +kernel
theorem d_t_rankOf_55 : decode b_t_rankOf 55 = .ok (.iinc 5 1, 3) := by decide +kernel
theorem d_t_rankOf_58 : decode b_t_rankOf 58 = .ok (.goto (-46), 3) := by decide +kernel
theorem d_t_rankOf_61 : decode b_t_rankOf 61 = .ok (.iload 4, 2) := by decide +kernel
theorem d_t_rankOf_63 : decode b_t_rankOf 63 = .ok (.ireturn, 1) := by decide +kernel
def L_t_rankOf_12 (wt : Nat → Int64) (nu : Int32) : Nat → Int32 → Int32 → Int32
  | 0, _, _ => 0
  | n + 1, bf, xi => if 40 ≤ xi then
    (bf)
  else
    (if (f_t_weightOf wt nu) < (wt xi.toNatClampNeg) then
      (L_t_rankOf_12 wt nu n (bf + 1) (xi + 1))
    else
      (if (wt xi.toNatClampNeg) = (f_t_weightOf wt nu) then
        (if nu ≤ xi then
          (L_t_rankOf_12 wt nu n bf (xi + 1))
        else
          (L_t_rankOf_12 wt nu n (bf + 1) (xi + 1)))
      else
        (L_t_rankOf_12 wt nu n bf (xi + 1))))
theorem L_t_rankOf_12_s (wt : Nat → Int64) (nu : Int32) (n : Nat) (bf : Int32) (xi : Int32) : L_t_rankOf_12 wt nu (n + 1) bf xi = if 40 ≤ xi then
    (bf)
  else
    (if (f_t_weightOf wt nu) < (wt xi.toNatClampNeg) then
      (L_t_rankOf_12 wt nu n (bf + 1) (xi + 1))
    else
      (if (wt xi.toNatClampNeg) = (f_t_weightOf wt nu) then
        (if nu ≤ xi then
          (L_t_rankOf_12 wt nu n bf (xi + 1))
        else
          (L_t_rankOf_12 wt nu n (bf + 1) (xi + 1)))
      else
        (L_t_rankOf_12 wt nu n bf (xi + 1)))) := rfl
def f_t_rankOf (wt : Nat → Int64) (nu : Int32) : Int32 := L_t_rankOf_12 wt nu 41 0 0
set_option maxHeartbeats 4000000 in
set_option maxRecDepth 100000 in
theorem c_t_rankOf (l : Launch) (D : va_G) (cA : Nat → ClassId) (t wa : Nat) (go cl : Int64) (se : Bool) (bad fp fq su an sks : Int32) (wt : Nat → Int64) (g pa re : Nat) (ps rs : Nat → Int64) (sz : Int32) (bu sk : Int64) (nu : Int32) : Met l y_t_rankOf (.code y_t_rankOf b_t_rankOf 6 (some .int) :: tb) (rmd 1) (Pro D cA [.ref t, .int nu] (va_P D classes [(t, .inr (2, [.ref g, .ref wa, .long go, .long cl, .int (bz se), .int bad, .int fp, .int fq, .int su, .int an, .int sks])), (wa, .inl (cA 0, 40, .inr (.inl wt))), (g, .inr (1, [.ref pa, .ref re, .int sz, .long bu, .long sk])), (pa, .inl (cA 0, 40, .inr (.inl ps))), (re, .inl (cA 0, 40, .inr (.inl rs)))])) (Qro (.int (f_t_rankOf wt nu))) 0 0 nof := by
  refine ro_in (by decide) (Nat.le_of_ble_eq_true rfl) (fun p e s m below meth c ls FX hnm hK hP hl => ?_)
  have hl : lv_has ls 6 [(0, .ref t), (1, .int nu)] := hl
  have hP : va_P D classes [(t, .inr (2, [.ref g, .ref wa, .long go, .long cl, .int (bz se), .int bad, .int fp, .int fq, .int su, .int an, .int sks])), (wa, .inl (cA 0, 40, .inr (.inl wt))), (g, .inr (1, [.ref pa, .ref re, .int sz, .long bu, .long sk])), (pa, .inl (cA 0, 40, .inr (.inl ps))), (re, .inl (cA 0, 40, .inr (.inl rs)))] s.heap := hP
  generalize ([.ref t, .int nu] : List Value).toArray = args at FX ⊢
  obtain ⟨hx, hb, hml, hown, hts, hr, hlk⟩ := id FX
  refine lv_aload_n hx hb d_t_rankOf_0 rfl (lv_at hl 0 rfl) ?_
  refine lv_iload_n hx hb d_t_rankOf_1 rfl (lv_at hl 1 rfl) ?_
  refine ro_V (v := .long (f_t_weightOf wt nu)) (As := [.int nu]) (rest := []) (q0 := 0) FX hK (c_t_weightOf l D cA t wa go cl se bad fp fq su an sks wt g pa re ps rs sz bu sk nu) hP hP rfl rfl rfl kc_t_weightOf km_t_120 ki_t ks_t_weightOf ke_t_weightOf rfl ok_t_weightOf ⟨Nat.le_of_ble_eq_true rfl, Nat.le_of_ble_eq_true rfl⟩ ⟨Nat.zero_le _, Nat.zero_le _⟩ hl.1 rfl (Nat.le_of_ble_eq_true rfl) d_t_rankOf_2 ?_
  refine lv_lstore_n (lv' := [(2, .long (f_t_weightOf wt nu)), (0, .ref t), (1, .int nu)]) hx hb d_t_rankOf_5 rfl hl (by decide) rfl (fun ls hl => ?_)
  refine lv_iconst (v := 0) hx hb d_t_rankOf_6 (by decide) ?_
  refine lv_istore (lv' := [(4, .int 0), (2, .long (f_t_weightOf wt nu)), (0, .ref t), (1, .int nu)]) hx hb d_t_rankOf_7 hl (by decide) rfl (fun ls hl => ?_)
  refine lv_iconst (v := 0) hx hb d_t_rankOf_9 (by decide) ?_
  refine lv_istore (lv' := [(5, .int 0), (4, .int 0), (2, .long (f_t_weightOf wt nu)), (0, .ref t), (1, .int nu)]) hx hb d_t_rankOf_10 hl (by decide) rfl (fun ls hl => ?_)
  have loop : ∀ (n k : Nat) (bf : Int32) (xi : Int32) (ls : Array Slot), k + n = 41 → k ≤ 40 → xi = nI k → lv_has ls 6 [(0, .ref t), (1, .int nu), (2, .long (f_t_weightOf wt nu)), (4, .int bf), (5, .int xi)] → W p l e (rmd 1) s m args below meth c s.heap [] 0 0 (MQ below (Qro (.int (L_t_rankOf_12 wt nu n bf xi))) args s 0 0 nof) (F0 m 12 ls []) := by
    intro n
    induction n with
    | zero =>
      intro k bf xi ls h1 h2
      exact absurd h1 (by omega)
    | succ n ih =>
      intro k bf xi ls hkn hk hxi hl
      refine lv_iload hx hb d_t_rankOf_12 (lv_at hl 4 rfl) ?_
      refine lv_aload_n hx hb d_t_rankOf_14 rfl (lv_at hl 0 rfl) ?_
      refine ro_get (v := .ref wa) FX hK hP 0 1 rfl rfl rfl i_t (by decide) kf_t_15 d_t_rankOf_15 ?_
      refine va_alen (v := 40) hx hb hK.1 hP 1 0 rfl rfl rfl d_t_rankOf_18 ?_
      refine lv_icmp_ge (tgt := 61) hx hb d_t_rankOf_19 (by decide) (fun c1 => ?_) (fun c1 => ?_)
      · have c1 := c1
        refine lv_iload hx hb d_t_rankOf_61 (lv_at hl 3 rfl) ?_
        exact ro_iret FX (by rw [L_t_rankOf_12_s, if_pos c1]) d_t_rankOf_63
      · have c1 := c1
        have hk1 : k < 40 := k_lt hxi rfl c1 (by omega)
        refine lv_aload_n hx hb d_t_rankOf_22 rfl (lv_at hl 0 rfl) ?_
        refine ro_get (v := .ref wa) FX hK hP 0 1 rfl rfl rfl i_t (by decide) kf_t_15 d_t_rankOf_23 ?_
        refine lv_iload hx hb d_t_rankOf_26 (lv_at hl 4 rfl) ?_
        refine va_lald hx hb hK.1 hP 1 0 rfl rfl (vin hxi hk1 (by decide)) d_t_rankOf_28 ?_
        refine lv_lload_n hx hb d_t_rankOf_29 rfl (lv_at hl 2 rfl) ?_
        refine W.lcmp hx hb d_t_rankOf_30 ?_
        refine lv_if_gt (tgt := 52) hx hb d_t_rankOf_31 (by decide) (fun c2 => ?_) (fun c2 => ?_)
        · have c2 := cp_gt c2
          refine lv_iinc (v := bf + 1) (lv' := [(4, .int (bf + 1)), (0, .ref t), (1, .int nu), (2, .long (f_t_weightOf wt nu)), (5, .int xi)]) hx hb d_t_rankOf_52 hl (k := 3) rfl rfl (by decide) rfl (fun ls hl => ?_)
          refine lv_iinc (v := xi + 1) (lv' := [(5, .int (xi + 1)), (4, .int (bf + 1)), (0, .ref t), (1, .int nu), (2, .long (f_t_weightOf wt nu))]) hx hb d_t_rankOf_55 hl (k := 4) rfl rfl (by decide) rfl (fun ls hl => ?_)
          refine lv_goto (tgt := 12) hx hb d_t_rankOf_58 (by decide) ?_
          refine ro_to (by rw [L_t_rankOf_12_s, if_neg c1, if_pos c2]) ?_
          exact ih (k + 1) (bf + 1) (xi + 1) ls (by omega) (by omega) (by rw [hxi]; exact nI_1 _)  (lv_sub hl [2, 3, 4, 1, 0] rfl)
        · have c2 := cp_ngt c2
          refine lv_aload_n hx hb d_t_rankOf_34 rfl (lv_at hl 0 rfl) ?_
          refine ro_get (v := .ref wa) FX hK hP 0 1 rfl rfl rfl i_t (by decide) kf_t_15 d_t_rankOf_35 ?_
          refine lv_iload hx hb d_t_rankOf_38 (lv_at hl 4 rfl) ?_
          refine va_lald hx hb hK.1 hP 1 0 rfl rfl (vin hxi hk1 (by decide)) d_t_rankOf_40 ?_
          refine lv_lload_n hx hb d_t_rankOf_41 rfl (lv_at hl 2 rfl) ?_
          refine W.lcmp hx hb d_t_rankOf_42 ?_
          refine lv_if_ne (tgt := 55) hx hb d_t_rankOf_43 (by decide) (fun c3 => ?_) (fun c3 => ?_)
          · have c3 := cp_ne c3
            refine lv_iinc (v := xi + 1) (lv' := [(5, .int (xi + 1)), (0, .ref t), (1, .int nu), (2, .long (f_t_weightOf wt nu)), (4, .int bf)]) hx hb d_t_rankOf_55 hl (k := 4) rfl rfl (by decide) rfl (fun ls hl => ?_)
            refine lv_goto (tgt := 12) hx hb d_t_rankOf_58 (by decide) ?_
            refine ro_to (by rw [L_t_rankOf_12_s, if_neg c1, if_neg c2, if_neg c3]) ?_
            exact ih (k + 1) bf (xi + 1) ls (by omega) (by omega) (by rw [hxi]; exact nI_1 _)  (lv_sub hl [1, 2, 3, 4, 0] rfl)
          · have c3 := cp_eq c3
            refine lv_iload hx hb d_t_rankOf_46 (lv_at hl 4 rfl) ?_
            refine lv_iload_n hx hb d_t_rankOf_48 rfl (lv_at hl 1 rfl) ?_
            refine lv_icmp_ge (tgt := 55) hx hb d_t_rankOf_49 (by decide) (fun c4 => ?_) (fun c4 => ?_)
            · have c4 := c4
              refine lv_iinc (v := xi + 1) (lv' := [(5, .int (xi + 1)), (0, .ref t), (1, .int nu), (2, .long (f_t_weightOf wt nu)), (4, .int bf)]) hx hb d_t_rankOf_55 hl (k := 4) rfl rfl (by decide) rfl (fun ls hl => ?_)
              refine lv_goto (tgt := 12) hx hb d_t_rankOf_58 (by decide) ?_
              refine ro_to (by rw [L_t_rankOf_12_s, if_neg c1, if_neg c2, if_pos c3, if_pos c4]) ?_
              exact ih (k + 1) bf (xi + 1) ls (by omega) (by omega) (by rw [hxi]; exact nI_1 _)  (lv_sub hl [1, 2, 3, 4, 0] rfl)
            · have c4 := c4
              refine lv_iinc (v := bf + 1) (lv' := [(4, .int (bf + 1)), (0, .ref t), (1, .int nu), (2, .long (f_t_weightOf wt nu)), (5, .int xi)]) hx hb d_t_rankOf_52 hl (k := 3) rfl rfl (by decide) rfl (fun ls hl => ?_)
              refine lv_iinc (v := xi + 1) (lv' := [(5, .int (xi + 1)), (4, .int (bf + 1)), (0, .ref t), (1, .int nu), (2, .long (f_t_weightOf wt nu))]) hx hb d_t_rankOf_55 hl (k := 4) rfl rfl (by decide) rfl (fun ls hl => ?_)
              refine lv_goto (tgt := 12) hx hb d_t_rankOf_58 (by decide) ?_
              refine ro_to (by rw [L_t_rankOf_12_s, if_neg c1, if_neg c2, if_pos c3, if_neg c4]) ?_
              exact ih (k + 1) (bf + 1) (xi + 1) ls (by omega) (by omega) (by rw [hxi]; exact nI_1 _)  (lv_sub hl [2, 3, 4, 1, 0] rfl)
  refine ro_to (by rw [f_t_rankOf]) ?_
  exact loop 41 0 0 0 ls rfl (Nat.zero_le _) rfl  (lv_sub hl [3, 4, 2, 1, 0] rfl)
theorem d_t_ranked_0 : decode b_t_ranked 0 = .ok (.iconst 0, 1) := by decide +kernel
theorem d_t_ranked_1 : decode b_t_ranked 1 = .ok (.istore_n 2, 1) := by decide +kernel
theorem d_t_ranked_2 : decode b_t_ranked 2 = .ok (.iload_n 2, 1) := by decide +kernel
theorem d_t_ranked_3 : decode b_t_ranked 3 = .ok (.aload_n 0, 1) := by decide +kernel
theorem d_t_ranked_4 : decode b_t_ranked 4 = .ok (.getfield 15, 3) := by decide +kernel
theorem d_t_ranked_7 : decode b_t_ranked 7 = .ok (.arraylength, 1) := by decide +kernel
theorem d_t_ranked_8 : decode b_t_ranked 8 = .ok (.if_icmp .ge 31, 3) := by decide +kernel
theorem d_t_ranked_11 : decode b_t_ranked 11 = .ok (.aload_n 0, 1) := by decide +kernel
theorem d_t_ranked_12 : decode b_t_ranked 12 = .ok (.getfield 15, 3) := by decide +kernel
theorem d_t_ranked_15 : decode b_t_ranked 15 = .ok (.iload_n 2, 1) := by decide +kernel
theorem d_t_ranked_16 : decode b_t_ranked 16 = .ok (.laload, 1) := by decide +kernel
theorem d_t_ranked_17 : decode b_t_ranked 17 = .ok (.lconst 0, 1) := by decide +kernel
theorem d_t_ranked_18 : decode b_t_ranked 18 = .ok (.lcmp, 1) := by decide +kernel
theorem d_t_ranked_19 : decode b_t_ranked 19 = .ok (.ifCond .le 14, 3) := by decide +kernel
theorem d_t_ranked_22 : decode b_t_ranked 22 = .ok (.aload_n 0, 1) := by decide +kernel
theorem d_t_ranked_23 : decode b_t_ranked 23 = .ok (.iload_n 2, 1) := by decide +kernel
theorem d_t_ranked_24 : decode b_t_ranked 24 = .ok (.invokevirtual 116, 3) := by decide +kernel
theorem d_t_ranked_27 : decode b_t_ranked 27 = .ok (.iload_n 1, 1) := by decide +kernel
theorem d_t_ranked_28 : decode b_t_ranked 28 = .ok (.if_icmp .ne 5, 3) := by decide +kernel
theorem d_t_ranked_31 : decode b_t_ranked 31 = .ok (.iload_n 2, 1) := by decide +kernel
theorem d_t_ranked_32 : decode b_t_ranked 32 = .ok (.ireturn, 1) := by decide +kernel
theorem d_t_ranked_33 : decode b_t_ranked 33 = .ok (.iinc 2 1, 3) := by decide +kernel
theorem d_t_ranked_36 : decode b_t_ranked 36 = .ok (.goto (-34), 3) := by decide +kernel
theorem d_t_ranked_39 : decode b_t_ranked 39 = .ok (.iconst (-1), 1) := by decide +kernel
theorem d_t_ranked_40 : decode b_t_ranked 40 = .ok (.ireturn, 1) := by decide +kernel
def L_t_ranked_2 (wt : Nat → Int64) (kk : Int32) : Nat → Int32 → Int32
  | 0, _ => 0
  | n + 1, xi => if 40 ≤ xi then
    ((-1))
  else
    (if 0 < (wt xi.toNatClampNeg) then
      (if (f_t_rankOf wt xi) = kk then
        (xi)
      else
        (L_t_ranked_2 wt kk n (xi + 1)))
    else
      (L_t_ranked_2 wt kk n (xi + 1)))
theorem L_t_ranked_2_s (wt : Nat → Int64) (kk : Int32) (n : Nat) (xi : Int32) : L_t_ranked_2 wt kk (n + 1) xi = if 40 ≤ xi then
    ((-1))
  else
    (if 0 < (wt xi.toNatClampNeg) then
      (if (f_t_rankOf wt xi) = kk then
        (xi)
      else
        (L_t_ranked_2 wt kk n (xi + 1)))
    else
      (L_t_ranked_2 wt kk n (xi + 1))) := rfl
def f_t_ranked (wt : Nat → Int64) (kk : Int32) : Int32 := L_t_ranked_2 wt kk 41 0
set_option maxHeartbeats 4000000 in
set_option maxRecDepth 100000 in
theorem c_t_ranked (l : Launch) (D : va_G) (cA : Nat → ClassId) (t wa : Nat) (go cl : Int64) (se : Bool) (bad fp fq su an sks : Int32) (wt : Nat → Int64) (g pa re : Nat) (ps rs : Nat → Int64) (sz : Int32) (bu sk : Int64) (kk : Int32) : Met l y_t_ranked (.code y_t_ranked b_t_ranked 3 (some .int) :: tb) (rmd 2) (Pro D cA [.ref t, .int kk] (va_P D classes [(t, .inr (2, [.ref g, .ref wa, .long go, .long cl, .int (bz se), .int bad, .int fp, .int fq, .int su, .int an, .int sks])), (wa, .inl (cA 0, 40, .inr (.inl wt))), (g, .inr (1, [.ref pa, .ref re, .int sz, .long bu, .long sk])), (pa, .inl (cA 0, 40, .inr (.inl ps))), (re, .inl (cA 0, 40, .inr (.inl rs)))])) (Qro (.int (f_t_ranked wt kk))) 0 0 nof := by
  refine ro_in (by decide) (Nat.le_of_ble_eq_true rfl) (fun p e s m below meth c ls FX hnm hK hP hl => ?_)
  have hl : lv_has ls 3 [(0, .ref t), (1, .int kk)] := hl
  have hP : va_P D classes [(t, .inr (2, [.ref g, .ref wa, .long go, .long cl, .int (bz se), .int bad, .int fp, .int fq, .int su, .int an, .int sks])), (wa, .inl (cA 0, 40, .inr (.inl wt))), (g, .inr (1, [.ref pa, .ref re, .int sz, .long bu, .long sk])), (pa, .inl (cA 0, 40, .inr (.inl ps))), (re, .inl (cA 0, 40, .inr (.inl rs)))] s.heap := hP
  generalize ([.ref t, .int kk] : List Value).toArray = args at FX ⊢
  obtain ⟨hx, hb, hml, hown, hts, hr, hlk⟩ := id FX
  refine lv_iconst (v := 0) hx hb d_t_ranked_0 (by decide) ?_
  refine lv_istore_n (lv' := [(2, .int 0), (0, .ref t), (1, .int kk)]) hx hb d_t_ranked_1 rfl hl (by decide) rfl (fun ls hl => ?_)
  have loop : ∀ (n k : Nat) (xi : Int32) (ls : Array Slot), k + n = 41 → k ≤ 40 → xi = nI k → lv_has ls 3 [(0, .ref t), (1, .int kk), (2, .int xi)] → W p l e (rmd 2) s m args below meth c s.heap [] 0 0 (MQ below (Qro (.int (L_t_ranked_2 wt kk n xi))) args s 0 0 nof) (F0 m 2 ls []) := by
    intro n
    induction n with
    | zero =>
      intro k xi ls h1 h2
      exact absurd h1 (by omega)
    | succ n ih =>
      intro k xi ls hkn hk hxi hl
      refine lv_iload_n hx hb d_t_ranked_2 rfl (lv_at hl 2 rfl) ?_
      refine lv_aload_n hx hb d_t_ranked_3 rfl (lv_at hl 0 rfl) ?_
      refine ro_get (v := .ref wa) FX hK hP 0 1 rfl rfl rfl i_t (by decide) kf_t_15 d_t_ranked_4 ?_
      refine va_alen (v := 40) hx hb hK.1 hP 1 0 rfl rfl rfl d_t_ranked_7 ?_
      refine lv_icmp_ge (tgt := 39) hx hb d_t_ranked_8 (by decide) (fun c1 => ?_) (fun c1 => ?_)
      · have c1 := c1
        refine lv_iconst (v := (-1)) hx hb d_t_ranked_39 (by decide) ?_
        exact ro_iret FX (by rw [L_t_ranked_2_s, if_pos c1]) d_t_ranked_40
      · have c1 := c1
        have hk1 : k < 40 := k_lt hxi rfl c1 (by omega)
        refine lv_aload_n hx hb d_t_ranked_11 rfl (lv_at hl 0 rfl) ?_
        refine ro_get (v := .ref wa) FX hK hP 0 1 rfl rfl rfl i_t (by decide) kf_t_15 d_t_ranked_12 ?_
        refine lv_iload_n hx hb d_t_ranked_15 rfl (lv_at hl 2 rfl) ?_
        refine va_lald hx hb hK.1 hP 1 0 rfl rfl (vin hxi hk1 (by decide)) d_t_ranked_16 ?_
        refine lv_lconst (v := 0) hx hb d_t_ranked_17 (by decide) ?_
        refine W.lcmp hx hb d_t_ranked_18 ?_
        refine lv_if_le (tgt := 33) hx hb d_t_ranked_19 (by decide) (fun c2 => ?_) (fun c2 => ?_)
        · have c2 := cp_le c2
          refine lv_iinc (v := xi + 1) (lv' := [(2, .int (xi + 1)), (0, .ref t), (1, .int kk)]) hx hb d_t_ranked_33 hl (k := 2) rfl rfl (by decide) rfl (fun ls hl => ?_)
          refine lv_goto (tgt := 2) hx hb d_t_ranked_36 (by decide) ?_
          refine ro_to (by rw [L_t_ranked_2_s, if_neg c1, if_neg c2]) ?_
          exact ih (k + 1) (xi + 1) ls (by omega) (by omega) (by rw [hxi]; exact nI_1 _)  (lv_sub hl [1, 2, 0] rfl)
        · have c2 := cp_nle c2
          refine lv_aload_n hx hb d_t_ranked_22 rfl (lv_at hl 0 rfl) ?_
          refine lv_iload_n hx hb d_t_ranked_23 rfl (lv_at hl 2 rfl) ?_
          refine ro_V (v := .int (f_t_rankOf wt xi)) (As := [.int xi]) (rest := []) (q0 := 0) FX hK (c_t_rankOf l D cA t wa go cl se bad fp fq su an sks wt g pa re ps rs sz bu sk xi) hP hP rfl rfl rfl kc_t_rankOf km_t_116 ki_t ks_t_rankOf ke_t_rankOf rfl ok_t_rankOf ⟨Nat.le_of_ble_eq_true rfl, Nat.le_of_ble_eq_true rfl⟩ ⟨Nat.zero_le _, Nat.zero_le _⟩ hl.1 rfl (Nat.le_of_ble_eq_true rfl) d_t_ranked_24 ?_
          refine lv_iload_n hx hb d_t_ranked_27 rfl (lv_at hl 1 rfl) ?_
          refine lv_icmp_ne (tgt := 33) hx hb d_t_ranked_28 (by decide) (fun c3 => ?_) (fun c3 => ?_)
          · have c3 := c3
            refine lv_iinc (v := xi + 1) (lv' := [(2, .int (xi + 1)), (0, .ref t), (1, .int kk)]) hx hb d_t_ranked_33 hl (k := 2) rfl rfl (by decide) rfl (fun ls hl => ?_)
            refine lv_goto (tgt := 2) hx hb d_t_ranked_36 (by decide) ?_
            refine ro_to (by rw [L_t_ranked_2_s, if_neg c1, if_pos c2, if_neg c3]) ?_
            exact ih (k + 1) (xi + 1) ls (by omega) (by omega) (by rw [hxi]; exact nI_1 _)  (lv_sub hl [1, 2, 0] rfl)
          · have c3 := c3
            refine lv_iload_n hx hb d_t_ranked_31 rfl (lv_at hl 2 rfl) ?_
            exact ro_iret FX (by rw [L_t_ranked_2_s, if_neg c1, if_pos c2, if_pos c3]) d_t_ranked_32
  refine ro_to (by rw [f_t_ranked]) ?_
  exact loop 41 0 0 ls rfl (Nat.zero_le _) rfl  (lv_sub hl [1, 2, 0] rfl)
theorem d_t_onWay_0 : decode b_t_onWay 0 = .ok (.aload_n 0, 1) := by decide +kernel
theorem d_t_onWay_1 : decode b_t_onWay 1 = .ok (.invokevirtual 76, 3) := by decide +kernel
theorem d_t_onWay_4 : decode b_t_onWay 4 = .ok (.istore_n 2, 1) := by decide +kernel
theorem d_t_onWay_5 : decode b_t_onWay 5 = .ok (.iload_n 2, 1) := by decide +kernel
theorem d_t_onWay_6 : decode b_t_onWay 6 = .ok (.iconst (-1), 1) := by decide +kernel
theorem d_t_onWay_7 : decode b_t_onWay 7 = .ok (.if_icmp .eq 13, 3) := by decide +kernel
theorem d_t_onWay_10 : decode b_t_onWay 10 = .ok (.iload_n 1, 1) := by decide +kernel
theorem d_t_onWay_11 : decode b_t_onWay 11 = .ok (.ifCond .lt 9, 3) := by decide +kernel
theorem d_t_onWay_14 : decode b_t_onWay 14 = .ok (.iload_n 1, 1) := by decide +kernel
theorem d_t_onWay_15 : decode b_t_onWay 15 = .ok (.bipush 40, 2) := by decide +kernel
theorem d_t_onWay_17 : decode b_t_onWay 17 = .ok (.if_icmp .lt 5, 3) := by decide +kernel
theorem d_t_onWay_20 : decode b_t_onWay 20 = .ok (.iconst (-1), 1) := by decide +kernel
theorem d_t_onWay_21 : decode b_t_onWay 21 = .ok (.ireturn, 1) := by decide +kernel
theorem d_t_onWay_22 : decode b_t_onWay 22 = .ok (.aload_n 0, 1) := by decide +kernel
theorem d_t_onWay_23 : decode b_t_onWay 23 = .ok (.getfield 30, 3) := by decide +kernel
theorem d_t_onWay_26 : decode b_t_onWay 26 = .ok (.istore_n 3, 1) := by decide +kernel
theorem d_t_onWay_27 : decode b_t_onWay 27 = .ok (.iconst 0, 1) := by decide +kernel
theorem d_t_onWay_28 : decode b_t_onWay 28 = .ok (.istore 4, 2) := by decide +kernel
theorem d_t_onWay_30 : decode b_t_onWay 30 = .ok (.iload 4, 2) := by decide +kernel
theorem d_t_onWay_32 : decode b_t_onWay 32 = .ok (.iload_n 1, 1) := by decide +kernel
theorem d_t_onWay_33 : decode b_t_onWay 33 = .ok (.if_icmp .ge 24, 3) := by decide +kernel
theorem d_t_onWay_36 : decode b_t_onWay 36 = .ok (.iload_n 3, 1) := by decide +kernel
theorem d_t_onWay_37 : decode b_t_onWay 37 = .ok (.iconst (-1), 1) := by decide +kernel
theorem d_t_onWay_38 : decode b_t_onWay 38 = .ok (.if_icmp .eq 19, 3) := by decide +kernel
theorem d_t_onWay_41 : decode b_t_onWay 41 = .ok (.aload_n 0, 1) := by decide +kernel
theorem d_t_onWay_42 : decode b_t_onWay 42 = .ok (.getfield 9, 3) := by decide +kernel
theorem d_t_onWay_45 : decode b_t_onWay 45 = .ok (.iload_n 3, 1) := by decide +kernel
theorem d_t_onWay_46 : decode b_t_onWay 46 = .ok (.iload_n 2, 1) := by decide +kernel
theorem d_t_onWay_47 : decode b_t_onWay 47 = .ok (.invokevirtual 123, 3) := by decide +kernel
theorem d_t_onWay_50 : decode b_t_onWay 50 = .ok (.istore_n 3, 1) := by decide +kernel
theorem d_t_onWay_51 : decode b_t_onWay 51 = .ok (.iinc 4 1, 3) := by decide +kernel
theorem d_t_onWay_54 : decode b_t_onWay 54 = .ok (.goto (-24), 3) := by decide +kernel
theorem d_t_onWay_57 : decode b_t_onWay 57 = .ok (.iload_n 3, 1) := by decide +kernel
theorem d_t_onWay_58 : decode b_t_onWay 58 = .ok (.ireturn, 1) := by decide +kernel
def L_t_onWay_30 (bad : Int32) (su : Int32) (wt : Nat → Int64) (ps : Nat → Int64) (rs : Nat → Int64) (sz : Int32) (kk : Int32) : Nat → Int32 → Int32 → Int32
  | 0, _, _ => 0
  | n + 1, wy, xi => if kk ≤ xi then
    (wy)
  else
    (if wy = (-1) then
      (wy)
    else
      (L_t_onWay_30 bad su wt ps rs sz kk n (f_g_stepToward ps rs sz wy (f_t_culprit su wt)) (xi + 1)))
theorem L_t_onWay_30_s (bad : Int32) (su : Int32) (wt : Nat → Int64) (ps : Nat → Int64) (rs : Nat → Int64) (sz : Int32) (kk : Int32) (n : Nat) (wy : Int32) (xi : Int32) : L_t_onWay_30 bad su wt ps rs sz kk (n + 1) wy xi = if kk ≤ xi then
    (wy)
  else
    (if wy = (-1) then
      (wy)
    else
      (L_t_onWay_30 bad su wt ps rs sz kk n (f_g_stepToward ps rs sz wy (f_t_culprit su wt)) (xi + 1))) := rfl
def f_t_onWay (bad : Int32) (su : Int32) (wt : Nat → Int64) (ps : Nat → Int64) (rs : Nat → Int64) (sz : Int32) (kk : Int32) : Int32 := if (f_t_culprit su wt) = (-1) then
    ((-1))
  else
    (if kk < 0 then
      ((-1))
    else
      (if kk < 40 then
        (L_t_onWay_30 bad su wt ps rs sz kk 41 bad 0)
      else
        ((-1))))
set_option maxHeartbeats 4000000 in
set_option maxRecDepth 100000 in
theorem c_t_onWay (l : Launch) (D : va_G) (cA : Nat → ClassId) (t wa : Nat) (go cl : Int64) (se : Bool) (bad fp fq su an sks : Int32) (wt : Nat → Int64) (g pa re : Nat) (ps rs : Nat → Int64) (sz : Int32) (bu sk : Int64) (kk : Int32) : Met l y_t_onWay (.code y_t_onWay b_t_onWay 5 (some .int) :: tb) (rmd 3) (Pro D cA [.ref t, .int kk] (va_P D classes [(t, .inr (2, [.ref g, .ref wa, .long go, .long cl, .int (bz se), .int bad, .int fp, .int fq, .int su, .int an, .int sks])), (wa, .inl (cA 0, 40, .inr (.inl wt))), (g, .inr (1, [.ref pa, .ref re, .int sz, .long bu, .long sk])), (pa, .inl (cA 0, 40, .inr (.inl ps))), (re, .inl (cA 0, 40, .inr (.inl rs)))])) (Qro (.int (f_t_onWay bad su wt ps rs sz kk))) 0 0 nof := by
  refine ro_in (by decide) (Nat.le_of_ble_eq_true rfl) (fun p e s m below meth c ls FX hnm hK hP hl => ?_)
  have hl : lv_has ls 5 [(0, .ref t), (1, .int kk)] := hl
  have hP : va_P D classes [(t, .inr (2, [.ref g, .ref wa, .long go, .long cl, .int (bz se), .int bad, .int fp, .int fq, .int su, .int an, .int sks])), (wa, .inl (cA 0, 40, .inr (.inl wt))), (g, .inr (1, [.ref pa, .ref re, .int sz, .long bu, .long sk])), (pa, .inl (cA 0, 40, .inr (.inl ps))), (re, .inl (cA 0, 40, .inr (.inl rs)))] s.heap := hP
  generalize ([.ref t, .int kk] : List Value).toArray = args at FX ⊢
  obtain ⟨hx, hb, hml, hown, hts, hr, hlk⟩ := id FX
  refine lv_aload_n hx hb d_t_onWay_0 rfl (lv_at hl 0 rfl) ?_
  refine ro_V (v := .int (f_t_culprit su wt)) (As := []) (rest := []) (q0 := 0) FX hK (c_t_culprit l D cA t wa go cl se bad fp fq su an sks wt g pa re ps rs sz bu sk) hP hP rfl rfl rfl kc_t_culprit km_t_76 ki_t ks_t_culprit ke_t_culprit rfl ok_t_culprit ⟨Nat.le_of_ble_eq_true rfl, Nat.le_of_ble_eq_true rfl⟩ ⟨Nat.zero_le _, Nat.zero_le _⟩ hl.1 rfl (Nat.le_of_ble_eq_true rfl) d_t_onWay_1 ?_
  refine lv_istore_n (lv' := [(2, .int (f_t_culprit su wt)), (0, .ref t), (1, .int kk)]) hx hb d_t_onWay_4 rfl hl (by decide) rfl (fun ls hl => ?_)
  refine lv_iload_n hx hb d_t_onWay_5 rfl (lv_at hl 0 rfl) ?_
  refine lv_iconst (v := (-1)) hx hb d_t_onWay_6 (by decide) ?_
  refine lv_icmp_eq (tgt := 20) hx hb d_t_onWay_7 (by decide) (fun c1 => ?_) (fun c1 => ?_)
  · have c1 := c1
    refine lv_iconst (v := (-1)) hx hb d_t_onWay_20 (by decide) ?_
    exact ro_iret FX (by rw [f_t_onWay, if_pos c1]) d_t_onWay_21
  · have c1 := c1
    refine lv_iload_n hx hb d_t_onWay_10 rfl (lv_at hl 2 rfl) ?_
    refine lv_if_lt (tgt := 20) hx hb d_t_onWay_11 (by decide) (fun c2 => ?_) (fun c2 => ?_)
    · have c2 := c2
      refine lv_iconst (v := (-1)) hx hb d_t_onWay_20 (by decide) ?_
      exact ro_iret FX (by rw [f_t_onWay, if_neg c1, if_pos c2]) d_t_onWay_21
    · have c2 := c2
      refine lv_iload_n hx hb d_t_onWay_14 rfl (lv_at hl 2 rfl) ?_
      refine lv_bipush (v := 40) hx hb d_t_onWay_15 (by decide) ?_
      refine lv_icmp_lt (tgt := 22) hx hb d_t_onWay_17 (by decide) (fun c3 => ?_) (fun c3 => ?_)
      · have c3 := c3
        obtain ⟨j, hj, hjs⟩ := in_nI2 c2 c3
        refine lv_aload_n hx hb d_t_onWay_22 rfl (lv_at hl 1 rfl) ?_
        refine ro_get (v := .int bad) FX hK hP 0 5 rfl rfl rfl i_t (by decide) kf_t_30 d_t_onWay_23 ?_
        refine lv_istore_n (lv' := [(3, .int bad), (2, .int (f_t_culprit su wt)), (0, .ref t), (1, .int kk)]) hx hb d_t_onWay_26 rfl hl (by decide) rfl (fun ls hl => ?_)
        refine lv_iconst (v := 0) hx hb d_t_onWay_27 (by decide) ?_
        refine lv_istore (lv' := [(4, .int 0), (3, .int bad), (2, .int (f_t_culprit su wt)), (0, .ref t), (1, .int kk)]) hx hb d_t_onWay_28 hl (by decide) rfl (fun ls hl => ?_)
        have loop : ∀ (n k : Nat) (wy : Int32) (xi : Int32) (ls : Array Slot), k + n = 41 → k ≤ 40 → xi = nI k → lv_has ls 5 [(0, .ref t), (1, .int kk), (2, .int (f_t_culprit su wt)), (3, .int wy), (4, .int xi)] → W p l e (rmd 3) s m args below meth c s.heap [] 0 0 (MQ below (Qro (.int (L_t_onWay_30 bad su wt ps rs sz kk n wy xi))) args s 0 0 nof) (F0 m 30 ls []) := by
          intro n
          induction n with
          | zero =>
            intro k wy xi ls h1 h2
            exact absurd h1 (by omega)
          | succ n ih =>
            intro k wy xi ls hkn hk hxi hl
            refine lv_iload hx hb d_t_onWay_30 (lv_at hl 4 rfl) ?_
            refine lv_iload_n hx hb d_t_onWay_32 rfl (lv_at hl 1 rfl) ?_
            refine lv_icmp_ge (tgt := 57) hx hb d_t_onWay_33 (by decide) (fun c4 => ?_) (fun c4 => ?_)
            · have c4 := c4
              refine lv_iload_n hx hb d_t_onWay_57 rfl (lv_at hl 3 rfl) ?_
              exact ro_iret FX (by rw [L_t_onWay_30_s, if_pos c4]) d_t_onWay_58
            · have c4 := c4
              have hk1 : k < j := k_lt hxi hjs c4 (by omega)
              refine lv_iload_n hx hb d_t_onWay_36 rfl (lv_at hl 3 rfl) ?_
              refine lv_iconst (v := (-1)) hx hb d_t_onWay_37 (by decide) ?_
              refine lv_icmp_eq (tgt := 57) hx hb d_t_onWay_38 (by decide) (fun c5 => ?_) (fun c5 => ?_)
              · have c5 := c5
                refine lv_iload_n hx hb d_t_onWay_57 rfl (lv_at hl 3 rfl) ?_
                exact ro_iret FX (by rw [L_t_onWay_30_s, if_neg c4, if_pos c5]) d_t_onWay_58
              · have c5 := c5
                refine lv_aload_n hx hb d_t_onWay_41 rfl (lv_at hl 0 rfl) ?_
                refine ro_get (v := .ref g) FX hK hP 0 0 rfl rfl rfl i_t (by decide) kf_t_9 d_t_onWay_42 ?_
                refine lv_iload_n hx hb d_t_onWay_45 rfl (lv_at hl 3 rfl) ?_
                refine lv_iload_n hx hb d_t_onWay_46 rfl (lv_at hl 2 rfl) ?_
                refine ro_V (v := .int (f_g_stepToward ps rs sz wy (f_t_culprit su wt))) (As := [.int wy, .int (f_t_culprit su wt)]) (rest := []) (q0 := 2) FX hK (c_g_stepToward l D cA g pa re ps rs sz bu sk wy (f_t_culprit su wt)) (hP.sub [2, 3, 4] rfl) hP rfl rfl rfl kc_g_stepToward km_t_123 ki_g ks_g_stepToward ke_g_stepToward rfl ok_g_stepToward ⟨Nat.le_of_ble_eq_true rfl, Nat.le_of_ble_eq_true rfl⟩ ⟨Nat.zero_le _, Nat.zero_le _⟩ hl.1 rfl (Nat.le_of_ble_eq_true rfl) d_t_onWay_47 ?_
                refine lv_istore_n (lv' := [(3, .int (f_g_stepToward ps rs sz wy (f_t_culprit su wt))), (0, .ref t), (1, .int kk), (2, .int (f_t_culprit su wt)), (4, .int xi)]) hx hb d_t_onWay_50 rfl hl (by decide) rfl (fun ls hl => ?_)
                refine lv_iinc (v := xi + 1) (lv' := [(4, .int (xi + 1)), (3, .int (f_g_stepToward ps rs sz wy (f_t_culprit su wt))), (0, .ref t), (1, .int kk), (2, .int (f_t_culprit su wt))]) hx hb d_t_onWay_51 hl (k := 4) rfl rfl (by decide) rfl (fun ls hl => ?_)
                refine lv_goto (tgt := 30) hx hb d_t_onWay_54 (by decide) ?_
                refine ro_to (by rw [L_t_onWay_30_s, if_neg c4, if_neg c5]) ?_
                exact ih (k + 1) (f_g_stepToward ps rs sz wy (f_t_culprit su wt)) (xi + 1) ls (by omega) (by omega) (by rw [hxi]; exact nI_1 _)  (lv_sub hl [2, 3, 4, 1, 0] rfl)
        refine ro_to (by rw [f_t_onWay, if_neg c1, if_neg c2, if_pos c3]) ?_
        exact loop 41 0 bad 0 ls rfl (Nat.zero_le _) rfl  (lv_sub hl [3, 4, 2, 1, 0] rfl)
      · have c3 := c3
        refine lv_iconst (v := (-1)) hx hb d_t_onWay_20 (by decide) ?_
        exact ro_iret FX (by rw [f_t_onWay, if_neg c1, if_neg c2, if_neg c3]) d_t_onWay_21
end
section
theorem d_t_markGood_0 : decode b_t_markGood 0 = .ok (.aload_n 0, 1) := by decide +kernel
theorem d_t_markGood_1 : decode b_t_markGood 1 = .ok (.getfield 19, 3) := by decide +kernel
theorem d_t_markGood_4 : decode b_t_markGood 4 = .ok (.iload_n 1, 1) := by decide +kernel
theorem d_t_markGood_5 : decode b_t_markGood 5 = .ok (.invokestatic 49, 3) := by decide +kernel
theorem d_t_markGood_8 : decode b_t_markGood 8 = .ok (.ifCond .eq 5, 3) := by decide +kernel
theorem d_t_markGood_11 : decode b_t_markGood 11 = .ok (.iconst 0, 1) := by decide +kernel
theorem d_t_markGood_12 : decode b_t_markGood 12 = .ok (.ireturn, 1) := by decide +kernel
theorem d_t_markGood_13 : decode b_t_markGood 13 = .ok (.aload_n 0, 1) := by decide +kernel
theorem d_t_markGood_14 : decode b_t_markGood 14 = .ok (.dup, 1) := by decide +kernel
theorem d_t_markGood_15 : decode b_t_markGood 15 = .ok (.getfield 19, 3) := by decide +kernel
theorem d_t_markGood_18 : decode b_t_markGood 18 = .ok (.iload_n 1, 1) := by decide +kernel
theorem d_t_markGood_19 : decode b_t_markGood 19 = .ok (.invokestatic 53, 3) := by decide +kernel
theorem d_t_markGood_22 : decode b_t_markGood 22 = .ok (.lor, 1) := by decide +kernel
theorem d_t_markGood_23 : decode b_t_markGood 23 = .ok (.putfield 19, 3) := by decide +kernel
theorem d_t_markGood_26 : decode b_t_markGood 26 = .ok (.aload_n 0, 1) := by decide +kernel
theorem d_t_markGood_27 : decode b_t_markGood 27 = .ok (.dup, 1) := by decide +kernel
theorem d_t_markGood_28 : decode b_t_markGood 28 = .ok (.getfield 23, 3) := by decide +kernel
theorem d_t_markGood_31 : decode b_t_markGood 31 = .ok (.aload_n 0, 1) := by decide +kernel
theorem d_t_markGood_32 : decode b_t_markGood 32 = .ok (.getfield 9, 3) := by decide +kernel
theorem d_t_markGood_35 : decode b_t_markGood 35 = .ok (.iload_n 1, 1) := by decide +kernel
theorem d_t_markGood_36 : decode b_t_markGood 36 = .ok (.invokevirtual 57, 3) := by decide +kernel
theorem d_t_markGood_39 : decode b_t_markGood 39 = .ok (.lor, 1) := by decide +kernel
theorem d_t_markGood_40 : decode b_t_markGood 40 = .ok (.putfield 23, 3) := by decide +kernel
theorem d_t_markGood_43 : decode b_t_markGood 43 = .ok (.iconst 1, 1) := by decide +kernel
theorem d_t_markGood_44 : decode b_t_markGood 44 = .ok (.ireturn, 1) := by decide +kernel
def f_t_markGood (go : Int64) (cl : Int64) (rs : Nat → Int64) (sz : Int32) (nu : Int32) : Bool × Int64 × Int64 := if (f_x_contains go nu) = true then
    ((false, go, cl))
  else
    ((true, go ||| (f_x_only nu), cl ||| (f_g_reach rs sz nu)))
set_option maxHeartbeats 4000000 in
set_option maxRecDepth 100000 in
theorem c_t_markGood (l : Launch) (D : va_G) (cA : Nat → ClassId) (t wa : Nat) (go cl : Int64) (se : Bool) (bad fp fq su an sks : Int32) (wt : Nat → Int64) (g pa re : Nat) (ps rs : Nat → Int64) (sz : Int32) (bu sk : Int64) (nu : Int32) : Met l y_t_markGood (.code y_t_markGood b_t_markGood 2 (some .boolean) :: tb) (rmd 3) (Pro D cA [.ref t, .int nu] (fun H0 => va_P D classes [(t, .inr (2, [.ref g, .ref wa, .long go, .long cl, .int (bz se), .int bad, .int fp, .int fq, .int su, .int an, .int sks])), (wa, .inl (cA 0, 40, .inr (.inl wt))), (g, .inr (1, [.ref pa, .ref re, .int sz, .long bu, .long sk])), (pa, .inl (cA 0, 40, .inr (.inl ps))), (re, .inl (cA 0, 40, .inr (.inl rs)))] H0 ∧ va_D (fun _ => True) [(t, .inr (2, [.ref g, .ref wa, .long go, .long cl, .int (bz se), .int bad, .int fp, .int fq, .int su, .int an, .int sks])), (wa, .inl (cA 0, 40, .inr (.inl wt))), (g, .inr (1, [.ref pa, .ref re, .int sz, .long bu, .long sk])), (pa, .inl (cA 0, 40, .inr (.inl ps))), (re, .inl (cA 0, 40, .inr (.inl rs)))])) (Qmu (aw [(t, .inr (2, [.ref g, .ref wa, .long go, .long cl, .int (bz se), .int bad, .int fp, .int fq, .int su, .int an, .int sks])), (wa, .inl (cA 0, 40, .inr (.inl wt))), (g, .inr (1, [.ref pa, .ref re, .int sz, .long bu, .long sk])), (pa, .inl (cA 0, 40, .inr (.inl ps))), (re, .inl (cA 0, 40, .inr (.inl rs)))]) (fun v0 H0 => v0 = some (.int (bz ((f_t_markGood go cl rs sz nu).1))) ∧ va_P D classes [(t, .inr (2, [.ref g, .ref wa, .long ((f_t_markGood go cl rs sz nu).2.1), .long ((f_t_markGood go cl rs sz nu).2.2), .int (bz se), .int bad, .int fp, .int fq, .int su, .int an, .int sks])), (wa, .inl (cA 0, 40, .inr (.inl wt))), (g, .inr (1, [.ref pa, .ref re, .int sz, .long bu, .long sk])), (pa, .inl (cA 0, 40, .inr (.inl ps))), (re, .inl (cA 0, 40, .inr (.inl rs)))] H0 ∧ va_D (aw [(t, .inr (2, [.ref g, .ref wa, .long go, .long cl, .int (bz se), .int bad, .int fp, .int fq, .int su, .int an, .int sks])), (wa, .inl (cA 0, 40, .inr (.inl wt))), (g, .inr (1, [.ref pa, .ref re, .int sz, .long bu, .long sk])), (pa, .inl (cA 0, 40, .inr (.inl ps))), (re, .inl (cA 0, 40, .inr (.inl rs)))]) [(t, .inr (2, [.ref g, .ref wa, .long ((f_t_markGood go cl rs sz nu).2.1), .long ((f_t_markGood go cl rs sz nu).2.2), .int (bz se), .int bad, .int fp, .int fq, .int su, .int an, .int sks])), (wa, .inl (cA 0, 40, .inr (.inl wt))), (g, .inr (1, [.ref pa, .ref re, .int sz, .long bu, .long sk])), (pa, .inl (cA 0, 40, .inr (.inl ps))), (re, .inl (cA 0, 40, .inr (.inl rs)))])) 0 0 (aw [(t, .inr (2, [.ref g, .ref wa, .long go, .long cl, .int (bz se), .int bad, .int fp, .int fq, .int su, .int an, .int sks])), (wa, .inl (cA 0, 40, .inr (.inl wt))), (g, .inr (1, [.ref pa, .ref re, .int sz, .long bu, .long sk])), (pa, .inl (cA 0, 40, .inr (.inl ps))), (re, .inl (cA 0, 40, .inr (.inl rs)))]) := by
  refine ro_in (by decide) (Nat.le_of_ble_eq_true rfl) (fun p e s m below meth c ls FX hnm hK hP hl => ?_)
  have hl : lv_has ls 2 [(0, .ref t), (1, .int nu)] := hl
  obtain ⟨hP, hD0⟩ := hP
  have hP : va_P D classes [(t, .inr (2, [.ref g, .ref wa, .long go, .long cl, .int (bz se), .int bad, .int fp, .int fq, .int su, .int an, .int sks])), (wa, .inl (cA 0, 40, .inr (.inl wt))), (g, .inr (1, [.ref pa, .ref re, .int sz, .long bu, .long sk])), (pa, .inl (cA 0, 40, .inr (.inl ps))), (re, .inl (cA 0, 40, .inr (.inl rs)))] s.heap := hP
  have hD : va_D (aw [(t, .inr (2, [.ref g, .ref wa, .long go, .long cl, .int (bz se), .int bad, .int fp, .int fq, .int su, .int an, .int sks])), (wa, .inl (cA 0, 40, .inr (.inl wt))), (g, .inr (1, [.ref pa, .ref re, .int sz, .long bu, .long sk])), (pa, .inl (cA 0, 40, .inr (.inl ps))), (re, .inl (cA 0, 40, .inr (.inl rs)))]) [(t, .inr (2, [.ref g, .ref wa, .long go, .long cl, .int (bz se), .int bad, .int fp, .int fq, .int su, .int an, .int sks])), (wa, .inl (cA 0, 40, .inr (.inl wt))), (g, .inr (1, [.ref pa, .ref re, .int sz, .long bu, .long sk])), (pa, .inl (cA 0, 40, .inr (.inl ps))), (re, .inl (cA 0, 40, .inr (.inl rs)))] := aw_self hD0
  generalize (aw [(t, .inr (2, [.ref g, .ref wa, .long go, .long cl, .int (bz se), .int bad, .int fp, .int fq, .int su, .int an, .int sks])), (wa, .inl (cA 0, 40, .inr (.inl wt))), (g, .inr (1, [.ref pa, .ref re, .int sz, .long bu, .long sk])), (pa, .inl (cA 0, 40, .inr (.inl ps))), (re, .inl (cA 0, 40, .inr (.inl rs)))]) = A at hD ⊢
  have hS : va_S A s.heap s.heap [] := va_S.rf
  generalize ([.ref t, .int nu] : List Value).toArray = args at FX ⊢
  obtain ⟨hx, hb, hml, hown, hts, hr, hlk⟩ := id FX
  refine lv_aload_n hx hb d_t_markGood_0 rfl (lv_at hl 0 rfl) ?_
  refine ro_get (v := .long go) FX hK hP 0 2 rfl rfl rfl i_t (by decide) kf_t_19 d_t_markGood_1 ?_
  refine lv_iload_n hx hb d_t_markGood_4 rfl (lv_at hl 1 rfl) ?_
  refine ro_SN (v := .int (bz (f_x_contains go nu))) (As := [.long go, .int nu]) (rest := []) FX hK (c_x_contains l D cA go nu) trivial kc_x_contains km_t_49 ki_x ks_x_contains rfl ok_x_contains ⟨Nat.le_of_ble_eq_true rfl, Nat.le_of_ble_eq_true rfl⟩ ⟨Nat.zero_le _, Nat.zero_le _⟩ hl.1 rfl (Nat.le_of_ble_eq_true rfl) d_t_markGood_5 ?_
  refine lv_if_eq (tgt := 13) hx hb d_t_markGood_8 (by decide) (fun c1 => ?_) (fun c1 => ?_)
  · have c1 := bz_f c1
    refine lv_aload_n hx hb d_t_markGood_13 rfl (lv_at hl 0 rfl) ?_
    refine lv_dup hx hb d_t_markGood_14 rfl ?_
    refine ro_get (v := .long go) FX hK hP 0 2 rfl rfl rfl i_t (by decide) kf_t_19 d_t_markGood_15 ?_
    refine lv_iload_n hx hb d_t_markGood_18 rfl (lv_at hl 1 rfl) ?_
    refine ro_SN (v := .long (f_x_only nu)) (As := [.int nu]) (rest := [.long go, .ref t]) FX hK (c_x_only l D cA nu) trivial kc_x_only km_t_53 ki_x ks_x_only rfl ok_x_only ⟨Nat.le_of_ble_eq_true rfl, Nat.le_of_ble_eq_true rfl⟩ ⟨Nat.zero_le _, Nat.zero_le _⟩ hl.1 rfl (Nat.le_of_ble_eq_true rfl) d_t_markGood_19 ?_
    refine lv_lor hx hb d_t_markGood_22 ?_
    refine va_put (D := D) (v := .long (go ||| (f_x_only nu))) (ty := .long) hx hb hts i_t t_t t_t_ok n_t hown hK.1 hP hD hS 0 rfl rfl 2 (by decide) (hts _ kf_t_19) (fun _ h9 => h9) rfl (by decide +kernel) rfl rfl (Nat.le_of_ble_eq_true rfl) d_t_markGood_23 (fun H locs hP hD hS => ?_)
    have hP : va_P D classes [(t, .inr (2, [.ref g, .ref wa, .long (go ||| (f_x_only nu)), .long cl, .int (bz se), .int bad, .int fp, .int fq, .int su, .int an, .int sks])), (wa, .inl (cA 0, 40, .inr (.inl wt))), (g, .inr (1, [.ref pa, .ref re, .int sz, .long bu, .long sk])), (pa, .inl (cA 0, 40, .inr (.inl ps))), (re, .inl (cA 0, 40, .inr (.inl rs)))] H := hP
    have hD : va_D A [(t, .inr (2, [.ref g, .ref wa, .long (go ||| (f_x_only nu)), .long cl, .int (bz se), .int bad, .int fp, .int fq, .int su, .int an, .int sks])), (wa, .inl (cA 0, 40, .inr (.inl wt))), (g, .inr (1, [.ref pa, .ref re, .int sz, .long bu, .long sk])), (pa, .inl (cA 0, 40, .inr (.inl ps))), (re, .inl (cA 0, 40, .inr (.inl rs)))] := hD
    refine lv_aload_n hx hb d_t_markGood_26 rfl (lv_at hl 0 rfl) ?_
    refine lv_dup hx hb d_t_markGood_27 rfl ?_
    refine ro_get (v := .long cl) FX hK hP 0 3 rfl rfl rfl i_t (by decide) kf_t_23 d_t_markGood_28 ?_
    refine lv_aload_n hx hb d_t_markGood_31 rfl (lv_at hl 0 rfl) ?_
    refine ro_get (v := .ref g) FX hK hP 0 0 rfl rfl rfl i_t (by decide) kf_t_9 d_t_markGood_32 ?_
    refine lv_iload_n hx hb d_t_markGood_35 rfl (lv_at hl 1 rfl) ?_
    refine ro_V (v := .long (f_g_reach rs sz nu)) (As := [.int nu]) (rest := [.long cl, .ref t]) (q0 := 2) FX hK (c_g_reach l D cA g pa re ps rs sz bu sk nu) (hP.sub [2, 3, 4] rfl) hP rfl rfl rfl kc_g_reach km_t_57 ki_g ks_g_reach ke_g_reach rfl ok_g_reach ⟨Nat.le_of_ble_eq_true rfl, Nat.le_of_ble_eq_true rfl⟩ ⟨Nat.zero_le _, Nat.zero_le _⟩ hl.1 rfl (Nat.le_of_ble_eq_true rfl) d_t_markGood_36 ?_
    refine lv_lor hx hb d_t_markGood_39 ?_
    refine va_put (D := D) (v := .long (cl ||| (f_g_reach rs sz nu))) (ty := .long) hx hb hts i_t t_t t_t_ok n_t hown hK.1 hP hD hS 0 rfl rfl 3 (by decide) (hts _ kf_t_23) (fun _ h9 => h9) rfl (by decide +kernel) rfl rfl (Nat.le_of_ble_eq_true rfl) d_t_markGood_40 (fun H locs hP hD hS => ?_)
    have hP : va_P D classes [(t, .inr (2, [.ref g, .ref wa, .long (go ||| (f_x_only nu)), .long (cl ||| (f_g_reach rs sz nu)), .int (bz se), .int bad, .int fp, .int fq, .int su, .int an, .int sks])), (wa, .inl (cA 0, 40, .inr (.inl wt))), (g, .inr (1, [.ref pa, .ref re, .int sz, .long bu, .long sk])), (pa, .inl (cA 0, 40, .inr (.inl ps))), (re, .inl (cA 0, 40, .inr (.inl rs)))] H := hP
    have hD : va_D A [(t, .inr (2, [.ref g, .ref wa, .long (go ||| (f_x_only nu)), .long (cl ||| (f_g_reach rs sz nu)), .int (bz se), .int bad, .int fp, .int fq, .int su, .int an, .int sks])), (wa, .inl (cA 0, 40, .inr (.inl wt))), (g, .inr (1, [.ref pa, .ref re, .int sz, .long bu, .long sk])), (pa, .inl (cA 0, 40, .inr (.inl ps))), (re, .inl (cA 0, 40, .inr (.inl rs)))] := hD
    refine lv_iconst (v := 1) hx hb d_t_markGood_43 (by decide) ?_
    exact mu_zret true rfl FX hS (by rw [show (f_t_markGood go cl rs sz nu) = (true, go ||| (f_x_only nu), cl ||| (f_g_reach rs sz nu)) from (by rw [f_t_markGood, if_neg c1])]; exact ⟨rfl, hP, hD⟩) d_t_markGood_44
  · have c1 := bz_t c1
    refine lv_iconst (v := 0) hx hb d_t_markGood_11 (by decide) ?_
    exact mu_zret false rfl FX hS (by rw [show (f_t_markGood go cl rs sz nu) = (false, go, cl) from (by rw [f_t_markGood, if_pos c1])]; exact ⟨rfl, hP, hD⟩) d_t_markGood_12
theorem d_t_giveUp_0 : decode b_t_giveUp 0 = .ok (.aload_n 0, 1) := by decide +kernel
theorem d_t_giveUp_1 : decode b_t_giveUp 1 = .ok (.iconst 0, 1) := by decide +kernel
theorem d_t_giveUp_2 : decode b_t_giveUp 2 = .ok (.putfield 26, 3) := by decide +kernel
theorem d_t_giveUp_5 : decode b_t_giveUp 5 = .ok (.return_, 1) := by decide +kernel
def f_t_giveUp  : Bool := false
set_option maxHeartbeats 4000000 in
set_option maxRecDepth 100000 in
theorem c_t_giveUp (l : Launch) (D : va_G) (cA : Nat → ClassId) (t wa : Nat) (go cl : Int64) (se : Bool) (bad fp fq su an sks : Int32) (wt : Nat → Int64) (g pa re : Nat) (ps rs : Nat → Int64) (sz : Int32) (bu sk : Int64) : Met l y_t_giveUp (.code y_t_giveUp b_t_giveUp 1 none :: tb) (rmd 0) (Pro D cA [.ref t] (fun H0 => va_P D classes [(t, .inr (2, [.ref g, .ref wa, .long go, .long cl, .int (bz se), .int bad, .int fp, .int fq, .int su, .int an, .int sks])), (wa, .inl (cA 0, 40, .inr (.inl wt))), (g, .inr (1, [.ref pa, .ref re, .int sz, .long bu, .long sk])), (pa, .inl (cA 0, 40, .inr (.inl ps))), (re, .inl (cA 0, 40, .inr (.inl rs)))] H0 ∧ va_D (fun _ => True) [(t, .inr (2, [.ref g, .ref wa, .long go, .long cl, .int (bz se), .int bad, .int fp, .int fq, .int su, .int an, .int sks])), (wa, .inl (cA 0, 40, .inr (.inl wt))), (g, .inr (1, [.ref pa, .ref re, .int sz, .long bu, .long sk])), (pa, .inl (cA 0, 40, .inr (.inl ps))), (re, .inl (cA 0, 40, .inr (.inl rs)))])) (Qmu (aw [(t, .inr (2, [.ref g, .ref wa, .long go, .long cl, .int (bz se), .int bad, .int fp, .int fq, .int su, .int an, .int sks])), (wa, .inl (cA 0, 40, .inr (.inl wt))), (g, .inr (1, [.ref pa, .ref re, .int sz, .long bu, .long sk])), (pa, .inl (cA 0, 40, .inr (.inl ps))), (re, .inl (cA 0, 40, .inr (.inl rs)))]) (fun v0 H0 => v0 = none ∧ va_P D classes [(t, .inr (2, [.ref g, .ref wa, .long go, .long cl, .int (bz (f_t_giveUp)), .int bad, .int fp, .int fq, .int su, .int an, .int sks])), (wa, .inl (cA 0, 40, .inr (.inl wt))), (g, .inr (1, [.ref pa, .ref re, .int sz, .long bu, .long sk])), (pa, .inl (cA 0, 40, .inr (.inl ps))), (re, .inl (cA 0, 40, .inr (.inl rs)))] H0 ∧ va_D (aw [(t, .inr (2, [.ref g, .ref wa, .long go, .long cl, .int (bz se), .int bad, .int fp, .int fq, .int su, .int an, .int sks])), (wa, .inl (cA 0, 40, .inr (.inl wt))), (g, .inr (1, [.ref pa, .ref re, .int sz, .long bu, .long sk])), (pa, .inl (cA 0, 40, .inr (.inl ps))), (re, .inl (cA 0, 40, .inr (.inl rs)))]) [(t, .inr (2, [.ref g, .ref wa, .long go, .long cl, .int (bz (f_t_giveUp)), .int bad, .int fp, .int fq, .int su, .int an, .int sks])), (wa, .inl (cA 0, 40, .inr (.inl wt))), (g, .inr (1, [.ref pa, .ref re, .int sz, .long bu, .long sk])), (pa, .inl (cA 0, 40, .inr (.inl ps))), (re, .inl (cA 0, 40, .inr (.inl rs)))])) 0 0 (aw [(t, .inr (2, [.ref g, .ref wa, .long go, .long cl, .int (bz se), .int bad, .int fp, .int fq, .int su, .int an, .int sks])), (wa, .inl (cA 0, 40, .inr (.inl wt))), (g, .inr (1, [.ref pa, .ref re, .int sz, .long bu, .long sk])), (pa, .inl (cA 0, 40, .inr (.inl ps))), (re, .inl (cA 0, 40, .inr (.inl rs)))]) := by
  refine ro_in (by decide) (Nat.le_of_ble_eq_true rfl) (fun p e s m below meth c ls FX hnm hK hP hl => ?_)
  have hl : lv_has ls 1 [(0, .ref t)] := hl
  obtain ⟨hP, hD0⟩ := hP
  have hP : va_P D classes [(t, .inr (2, [.ref g, .ref wa, .long go, .long cl, .int (bz se), .int bad, .int fp, .int fq, .int su, .int an, .int sks])), (wa, .inl (cA 0, 40, .inr (.inl wt))), (g, .inr (1, [.ref pa, .ref re, .int sz, .long bu, .long sk])), (pa, .inl (cA 0, 40, .inr (.inl ps))), (re, .inl (cA 0, 40, .inr (.inl rs)))] s.heap := hP
  have hD : va_D (aw [(t, .inr (2, [.ref g, .ref wa, .long go, .long cl, .int (bz se), .int bad, .int fp, .int fq, .int su, .int an, .int sks])), (wa, .inl (cA 0, 40, .inr (.inl wt))), (g, .inr (1, [.ref pa, .ref re, .int sz, .long bu, .long sk])), (pa, .inl (cA 0, 40, .inr (.inl ps))), (re, .inl (cA 0, 40, .inr (.inl rs)))]) [(t, .inr (2, [.ref g, .ref wa, .long go, .long cl, .int (bz se), .int bad, .int fp, .int fq, .int su, .int an, .int sks])), (wa, .inl (cA 0, 40, .inr (.inl wt))), (g, .inr (1, [.ref pa, .ref re, .int sz, .long bu, .long sk])), (pa, .inl (cA 0, 40, .inr (.inl ps))), (re, .inl (cA 0, 40, .inr (.inl rs)))] := aw_self hD0
  generalize (aw [(t, .inr (2, [.ref g, .ref wa, .long go, .long cl, .int (bz se), .int bad, .int fp, .int fq, .int su, .int an, .int sks])), (wa, .inl (cA 0, 40, .inr (.inl wt))), (g, .inr (1, [.ref pa, .ref re, .int sz, .long bu, .long sk])), (pa, .inl (cA 0, 40, .inr (.inl ps))), (re, .inl (cA 0, 40, .inr (.inl rs)))]) = A at hD ⊢
  have hS : va_S A s.heap s.heap [] := va_S.rf
  generalize ([.ref t] : List Value).toArray = args at FX ⊢
  obtain ⟨hx, hb, hml, hown, hts, hr, hlk⟩ := id FX
  refine lv_aload_n hx hb d_t_giveUp_0 rfl (lv_at hl 0 rfl) ?_
  refine lv_iconst (v := 0) hx hb d_t_giveUp_1 (by decide) ?_
  refine W.eq (g2 := F0 m 2 ls [.int (bz false), .ref t]) rfl ?_
  refine va_put (D := D) (v := .int (bz false)) (ty := .boolean) hx hb hts i_t t_t t_t_ok n_t hown hK.1 hP hD hS 0 rfl rfl 4 (by decide) (hts _ kf_t_26) (fun _ h9 => h9) rfl (by decide +kernel) (bz_n _) (bz_ft _) (Nat.le_of_ble_eq_true rfl) d_t_giveUp_2 (fun H locs hP hD hS => ?_)
  have hP : va_P D classes [(t, .inr (2, [.ref g, .ref wa, .long go, .long cl, .int (bz false), .int bad, .int fp, .int fq, .int su, .int an, .int sks])), (wa, .inl (cA 0, 40, .inr (.inl wt))), (g, .inr (1, [.ref pa, .ref re, .int sz, .long bu, .long sk])), (pa, .inl (cA 0, 40, .inr (.inl ps))), (re, .inl (cA 0, 40, .inr (.inl rs)))] H := hP
  have hD : va_D A [(t, .inr (2, [.ref g, .ref wa, .long go, .long cl, .int (bz false), .int bad, .int fp, .int fq, .int su, .int an, .int sks])), (wa, .inl (cA 0, 40, .inr (.inl wt))), (g, .inr (1, [.ref pa, .ref re, .int sz, .long bu, .long sk])), (pa, .inl (cA 0, 40, .inr (.inl ps))), (re, .inl (cA 0, 40, .inr (.inl rs)))] := hD
  exact mu_vret FX hS (by rw [show (f_t_giveUp) = false from (by rw [f_t_giveUp])]; exact ⟨rfl, hP, hD⟩) d_t_giveUp_5
theorem d_t_skip_0 : decode b_t_skip 0 = .ok (.aload_n 0, 1) := by decide +kernel
theorem d_t_skip_1 : decode b_t_skip 1 = .ok (.getfield 9, 3) := by decide +kernel
theorem d_t_skip_4 : decode b_t_skip 4 = .ok (.iload_n 1, 1) := by decide +kernel
theorem d_t_skip_5 : decode b_t_skip 5 = .ok (.invokevirtual 105, 3) := by decide +kernel
theorem d_t_skip_8 : decode b_t_skip 8 = .ok (.aload_n 0, 1) := by decide +kernel
theorem d_t_skip_9 : decode b_t_skip 9 = .ok (.dup, 1) := by decide +kernel
theorem d_t_skip_10 : decode b_t_skip 10 = .ok (.getfield 46, 3) := by decide +kernel
theorem d_t_skip_13 : decode b_t_skip 13 = .ok (.iconst 1, 1) := by decide +kernel
theorem d_t_skip_14 : decode b_t_skip 14 = .ok (.iadd, 1) := by decide +kernel
theorem d_t_skip_15 : decode b_t_skip 15 = .ok (.putfield 46, 3) := by decide +kernel
theorem d_t_skip_18 : decode b_t_skip 18 = .ok (.return_, 1) := by decide +kernel
def f_t_skip (sks : Int32) (sk : Int64) (nu : Int32) : Int64 × Int32 := ((f_g_markSkipped sk nu), sks + 1)
set_option maxHeartbeats 4000000 in
set_option maxRecDepth 100000 in
theorem c_t_skip (l : Launch) (D : va_G) (cA : Nat → ClassId) (t wa : Nat) (go cl : Int64) (se : Bool) (bad fp fq su an sks : Int32) (wt : Nat → Int64) (g pa re : Nat) (ps rs : Nat → Int64) (sz : Int32) (bu sk : Int64) (nu : Int32) : Met l y_t_skip (.code y_t_skip b_t_skip 2 none :: tb) (rmd 3) (Pro D cA [.ref t, .int nu] (fun H0 => va_P D classes [(t, .inr (2, [.ref g, .ref wa, .long go, .long cl, .int (bz se), .int bad, .int fp, .int fq, .int su, .int an, .int sks])), (wa, .inl (cA 0, 40, .inr (.inl wt))), (g, .inr (1, [.ref pa, .ref re, .int sz, .long bu, .long sk])), (pa, .inl (cA 0, 40, .inr (.inl ps))), (re, .inl (cA 0, 40, .inr (.inl rs)))] H0 ∧ va_D (fun _ => True) [(t, .inr (2, [.ref g, .ref wa, .long go, .long cl, .int (bz se), .int bad, .int fp, .int fq, .int su, .int an, .int sks])), (wa, .inl (cA 0, 40, .inr (.inl wt))), (g, .inr (1, [.ref pa, .ref re, .int sz, .long bu, .long sk])), (pa, .inl (cA 0, 40, .inr (.inl ps))), (re, .inl (cA 0, 40, .inr (.inl rs)))])) (Qmu (aw [(t, .inr (2, [.ref g, .ref wa, .long go, .long cl, .int (bz se), .int bad, .int fp, .int fq, .int su, .int an, .int sks])), (wa, .inl (cA 0, 40, .inr (.inl wt))), (g, .inr (1, [.ref pa, .ref re, .int sz, .long bu, .long sk])), (pa, .inl (cA 0, 40, .inr (.inl ps))), (re, .inl (cA 0, 40, .inr (.inl rs)))]) (fun v0 H0 => v0 = none ∧ va_P D classes [(t, .inr (2, [.ref g, .ref wa, .long go, .long cl, .int (bz se), .int bad, .int fp, .int fq, .int su, .int an, .int ((f_t_skip sks sk nu).2)])), (wa, .inl (cA 0, 40, .inr (.inl wt))), (g, .inr (1, [.ref pa, .ref re, .int sz, .long bu, .long ((f_t_skip sks sk nu).1)])), (pa, .inl (cA 0, 40, .inr (.inl ps))), (re, .inl (cA 0, 40, .inr (.inl rs)))] H0 ∧ va_D (aw [(t, .inr (2, [.ref g, .ref wa, .long go, .long cl, .int (bz se), .int bad, .int fp, .int fq, .int su, .int an, .int sks])), (wa, .inl (cA 0, 40, .inr (.inl wt))), (g, .inr (1, [.ref pa, .ref re, .int sz, .long bu, .long sk])), (pa, .inl (cA 0, 40, .inr (.inl ps))), (re, .inl (cA 0, 40, .inr (.inl rs)))]) [(t, .inr (2, [.ref g, .ref wa, .long go, .long cl, .int (bz se), .int bad, .int fp, .int fq, .int su, .int an, .int ((f_t_skip sks sk nu).2)])), (wa, .inl (cA 0, 40, .inr (.inl wt))), (g, .inr (1, [.ref pa, .ref re, .int sz, .long bu, .long ((f_t_skip sks sk nu).1)])), (pa, .inl (cA 0, 40, .inr (.inl ps))), (re, .inl (cA 0, 40, .inr (.inl rs)))])) 0 0 (aw [(t, .inr (2, [.ref g, .ref wa, .long go, .long cl, .int (bz se), .int bad, .int fp, .int fq, .int su, .int an, .int sks])), (wa, .inl (cA 0, 40, .inr (.inl wt))), (g, .inr (1, [.ref pa, .ref re, .int sz, .long bu, .long sk])), (pa, .inl (cA 0, 40, .inr (.inl ps))), (re, .inl (cA 0, 40, .inr (.inl rs)))]) := by
  refine ro_in (by decide) (Nat.le_of_ble_eq_true rfl) (fun p e s m below meth c ls FX hnm hK hP hl => ?_)
  have hl : lv_has ls 2 [(0, .ref t), (1, .int nu)] := hl
  obtain ⟨hP, hD0⟩ := hP
  have hP : va_P D classes [(t, .inr (2, [.ref g, .ref wa, .long go, .long cl, .int (bz se), .int bad, .int fp, .int fq, .int su, .int an, .int sks])), (wa, .inl (cA 0, 40, .inr (.inl wt))), (g, .inr (1, [.ref pa, .ref re, .int sz, .long bu, .long sk])), (pa, .inl (cA 0, 40, .inr (.inl ps))), (re, .inl (cA 0, 40, .inr (.inl rs)))] s.heap := hP
  have hD : va_D (aw [(t, .inr (2, [.ref g, .ref wa, .long go, .long cl, .int (bz se), .int bad, .int fp, .int fq, .int su, .int an, .int sks])), (wa, .inl (cA 0, 40, .inr (.inl wt))), (g, .inr (1, [.ref pa, .ref re, .int sz, .long bu, .long sk])), (pa, .inl (cA 0, 40, .inr (.inl ps))), (re, .inl (cA 0, 40, .inr (.inl rs)))]) [(t, .inr (2, [.ref g, .ref wa, .long go, .long cl, .int (bz se), .int bad, .int fp, .int fq, .int su, .int an, .int sks])), (wa, .inl (cA 0, 40, .inr (.inl wt))), (g, .inr (1, [.ref pa, .ref re, .int sz, .long bu, .long sk])), (pa, .inl (cA 0, 40, .inr (.inl ps))), (re, .inl (cA 0, 40, .inr (.inl rs)))] := aw_self hD0
  generalize (aw [(t, .inr (2, [.ref g, .ref wa, .long go, .long cl, .int (bz se), .int bad, .int fp, .int fq, .int su, .int an, .int sks])), (wa, .inl (cA 0, 40, .inr (.inl wt))), (g, .inr (1, [.ref pa, .ref re, .int sz, .long bu, .long sk])), (pa, .inl (cA 0, 40, .inr (.inl ps))), (re, .inl (cA 0, 40, .inr (.inl rs)))]) = A at hD ⊢
  have hS : va_S A s.heap s.heap [] := va_S.rf
  generalize ([.ref t, .int nu] : List Value).toArray = args at FX ⊢
  obtain ⟨hx, hb, hml, hown, hts, hr, hlk⟩ := id FX
  refine lv_aload_n hx hb d_t_skip_0 rfl (lv_at hl 0 rfl) ?_
  refine ro_get (v := .ref g) FX hK hP 0 0 rfl rfl rfl i_t (by decide) kf_t_9 d_t_skip_1 ?_
  refine lv_iload_n hx hb d_t_skip_4 rfl (lv_at hl 1 rfl) ?_
  refine mu_V (As := [.int nu]) (rest := []) (q0 := 2) FX hK (c_g_markSkipped l D cA g pa re ps rs sz bu sk nu) (hP.sub [2, 3, 4] rfl) (hD.sub [2, 3, 4] (by decide) rfl) hP rfl rfl rfl kc_g_markSkipped km_t_105 ki_g ks_g_markSkipped ke_g_markSkipped rfl ok_g_markSkipped ⟨Nat.le_of_ble_eq_true rfl, Nat.le_of_ble_eq_true rfl⟩ ⟨Nat.zero_le _, Nat.zero_le _⟩ hl.1 rfl (Nat.le_of_ble_eq_true rfl) d_t_skip_5 hS (fun q hq => aw_in hD [2, 3, 4] rfl q hq) (fun v0 H1 locs hv0 hz0 hk0 hS => ?_)
  obtain ⟨rfl, hP1, hD1⟩ := hv0
  obtain ⟨hP, hD⟩ := mu_join (wr := [(t, .inr (2, [.ref g, .ref wa, .long go, .long cl, .int (bz se), .int bad, .int fp, .int fq, .int su, .int an, .int sks])), (wa, .inl (cA 0, 40, .inr (.inl wt)))]) (w1 := [(g, .inr (1, [.ref pa, .ref re, .int sz, .long bu, .long (f_g_markSkipped sk nu)])), (pa, .inl (cA 0, 40, .inr (.inl ps))), (re, .inl (cA 0, 40, .inr (.inl rs)))]) hP hD [2, 3, 4] [0, 1] rfl rfl (by decide) (by decide) hk0 hP1 hD1
  have hP : va_P D classes [(t, .inr (2, [.ref g, .ref wa, .long go, .long cl, .int (bz se), .int bad, .int fp, .int fq, .int su, .int an, .int sks])), (wa, .inl (cA 0, 40, .inr (.inl wt))), (g, .inr (1, [.ref pa, .ref re, .int sz, .long bu, .long (f_g_markSkipped sk nu)])), (pa, .inl (cA 0, 40, .inr (.inl ps))), (re, .inl (cA 0, 40, .inr (.inl rs)))] H1 := hP.sub [0, 1, 2, 3, 4] rfl
  have hD : va_D A [(t, .inr (2, [.ref g, .ref wa, .long go, .long cl, .int (bz se), .int bad, .int fp, .int fq, .int su, .int an, .int sks])), (wa, .inl (cA 0, 40, .inr (.inl wt))), (g, .inr (1, [.ref pa, .ref re, .int sz, .long bu, .long (f_g_markSkipped sk nu)])), (pa, .inl (cA 0, 40, .inr (.inl ps))), (re, .inl (cA 0, 40, .inr (.inl rs)))] := hD.sub [0, 1, 2, 3, 4] (by decide) rfl
  generalize H1 = H at hP hS ⊢
  refine W.eq (g2 := F0 m 8 ls []) rfl ?_
  refine lv_aload_n hx hb d_t_skip_8 rfl (lv_at hl 0 rfl) ?_
  refine lv_dup hx hb d_t_skip_9 rfl ?_
  refine ro_get (v := .int sks) FX hK hP 0 10 rfl rfl rfl i_t (by decide) kf_t_46 d_t_skip_10 ?_
  refine lv_iconst (v := 1) hx hb d_t_skip_13 (by decide) ?_
  refine lv_iadd hx hb d_t_skip_14 ?_
  refine va_put (D := D) (v := .int (sks + 1)) (ty := .int) hx hb hts i_t t_t t_t_ok n_t hown hK.1 hP hD hS 0 rfl rfl 10 (by decide) (hts _ kf_t_46) (fun _ h9 => h9) rfl (by decide +kernel) rfl rfl (Nat.le_of_ble_eq_true rfl) d_t_skip_15 (fun H locs hP hD hS => ?_)
  have hP : va_P D classes [(t, .inr (2, [.ref g, .ref wa, .long go, .long cl, .int (bz se), .int bad, .int fp, .int fq, .int su, .int an, .int (sks + 1)])), (wa, .inl (cA 0, 40, .inr (.inl wt))), (g, .inr (1, [.ref pa, .ref re, .int sz, .long bu, .long (f_g_markSkipped sk nu)])), (pa, .inl (cA 0, 40, .inr (.inl ps))), (re, .inl (cA 0, 40, .inr (.inl rs)))] H := hP
  have hD : va_D A [(t, .inr (2, [.ref g, .ref wa, .long go, .long cl, .int (bz se), .int bad, .int fp, .int fq, .int su, .int an, .int (sks + 1)])), (wa, .inl (cA 0, 40, .inr (.inl wt))), (g, .inr (1, [.ref pa, .ref re, .int sz, .long bu, .long (f_g_markSkipped sk nu)])), (pa, .inl (cA 0, 40, .inr (.inl ps))), (re, .inl (cA 0, 40, .inr (.inl rs)))] := hD
  exact mu_vret FX hS (by rw [show (f_t_skip sks sk nu) = ((f_g_markSkipped sk nu), sks + 1) from (by rw [f_t_skip])]; exact ⟨rfl, hP, hD⟩) d_t_skip_18
theorem d_t_start_0 : decode b_t_start 0 = .ok (.aload_n 0, 1) := by decide +kernel
theorem d_t_start_1 : decode b_t_start 1 = .ok (.iconst 1, 1) := by decide +kernel
theorem d_t_start_2 : decode b_t_start 2 = .ok (.putfield 26, 3) := by decide +kernel
theorem d_t_start_5 : decode b_t_start 5 = .ok (.aload_n 0, 1) := by decide +kernel
theorem d_t_start_6 : decode b_t_start 6 = .ok (.iload_n 1, 1) := by decide +kernel
theorem d_t_start_7 : decode b_t_start 7 = .ok (.putfield 30, 3) := by decide +kernel
theorem d_t_start_10 : decode b_t_start 10 = .ok (.aload_n 0, 1) := by decide +kernel
theorem d_t_start_11 : decode b_t_start 11 = .ok (.iload_n 2, 1) := by decide +kernel
theorem d_t_start_12 : decode b_t_start 12 = .ok (.putfield 34, 3) := by decide +kernel
theorem d_t_start_15 : decode b_t_start 15 = .ok (.aload_n 0, 1) := by decide +kernel
theorem d_t_start_16 : decode b_t_start 16 = .ok (.iload_n 3, 1) := by decide +kernel
theorem d_t_start_17 : decode b_t_start 17 = .ok (.putfield 37, 3) := by decide +kernel
theorem d_t_start_20 : decode b_t_start 20 = .ok (.aload_n 0, 1) := by decide +kernel
theorem d_t_start_21 : decode b_t_start 21 = .ok (.iload 4, 2) := by decide +kernel
theorem d_t_start_23 : decode b_t_start 23 = .ok (.putfield 40, 3) := by decide +kernel
theorem d_t_start_26 : decode b_t_start 26 = .ok (.aload_n 0, 1) := by decide +kernel
theorem d_t_start_27 : decode b_t_start 27 = .ok (.iconst 0, 1) := by decide +kernel
theorem d_t_start_28 : decode b_t_start 28 = .ok (.putfield 43, 3) := by decide +kernel
theorem d_t_start_31 : decode b_t_start 31 = .ok (.aload_n 0, 1) := by decide +kernel
theorem d_t_start_32 : decode b_t_start 32 = .ok (.getfield 9, 3) := by decide +kernel
theorem d_t_start_35 : decode b_t_start 35 = .ok (.iload_n 1, 1) := by decide +kernel
theorem d_t_start_36 : decode b_t_start 36 = .ok (.invokevirtual 57, 3) := by decide +kernel
theorem d_t_start_39 : decode b_t_start 39 = .ok (.aload_n 0, 1) := by decide +kernel
theorem d_t_start_40 : decode b_t_start 40 = .ok (.getfield 23, 3) := by decide +kernel
theorem d_t_start_43 : decode b_t_start 43 = .ok (.ldc2_w 62, 3) := by decide +kernel
theorem d_t_start_46 : decode b_t_start 46 = .ok (.lxor, 1) := by decide +kernel
theorem d_t_start_47 : decode b_t_start 47 = .ok (.land, 1) := by decide +kernel
theorem d_t_start_48 : decode b_t_start 48 = .ok (.lstore 5, 2) := by decide +kernel
theorem d_t_start_50 : decode b_t_start 50 = .ok (.iconst 0, 1) := by decide +kernel
theorem d_t_start_51 : decode b_t_start 51 = .ok (.istore 7, 2) := by decide +kernel
theorem d_t_start_53 : decode b_t_start 53 = .ok (.iload 7, 2) := by decide +kernel
theorem d_t_start_55 : decode b_t_start 55 = .ok (.aload_n 0, 1) := by decide +kernel
theorem d_t_start_56 : decode b_t_start 56 = .ok (.getfield 15, 3) := by decide +kernel
theorem d_t_start_59 : decode b_t_start 59 = .ok (.arraylength, 1) := by decide +kernel
theorem d_t_start_60 : decode b_t_start 60 = .ok (.if_icmp .ge 31, 3) := by decide +kernel
theorem d_t_start_63 : decode b_t_start 63 = .ok (.aload_n 0, 1) := by decide +kernel
theorem d_t_start_64 : decode b_t_start 64 = .ok (.getfield 15, 3) := by decide +kernel
theorem d_t_start_67 : decode b_t_start 67 = .ok (.iload 7, 2) := by decide +kernel
theorem d_t_start_69 : decode b_t_start 69 = .ok (.lload 5, 2) := by decide +kernel
theorem d_t_start_71 : decode b_t_start 71 = .ok (.iload 7, 2) := by decide +kernel
theorem d_t_start_73 : decode b_t_start 73 = .ok (.invokestatic 49, 3) := by decide +kernel
theorem d_t_start_76 : decode b_t_start 76 = .ok (.ifCond .eq 7, 3) := by decide +kernel
theorem d_t_start_79 : decode b_t_start 79 = .ok (.lconst 1, 1) := by decide +kernel
theorem d_t_start_80 : decode b_t_start 80 = .ok (.goto 4, 3) := by decide +kernel
theorem d_t_start_83 : decode b_t_start 83 = .ok (.lconst 0, 1) := by decide +kernel
theorem d_t_start_84 : decode b_t_start 84 = .ok (.lastore, 1) := by decide +kernel
theorem d_t_start_85 : decode b_t_start 85 = .ok (.iinc 7 1, 3) := by decide +kernel
theorem d_t_start_88 : decode b_t_start 88 = .ok (.goto (-35), 3) := by decide +kernel
theorem d_t_start_91 : decode b_t_start 91 = .ok (.lload 5, 2) := by decide +kernel
theorem d_t_start_93 : decode b_t_start 93 = .ok (.invokestatic 64, 3) := by decide +kernel
theorem d_t_start_96 : decode b_t_start 96 = .ok (.ireturn, 1) := by decide +kernel
def L_t_start_53 (cl : Int64) (wt : Nat → Int64) (rs : Nat → Int64) (sz : Int32) (zb : Int32) (zp : Int32) (zq : Int32) (zu : Int32) : Nat → Int32 → (Nat → Int64) → Int32 × Bool × Int32 × Int32 × Int32 × Int32 × Int32 × (Nat → Int64)
  | 0, _, wq => (0, false, 0, 0, 0, 0, 0, wq)
  | n + 1, xi, wq => if 40 ≤ xi then
    ((f_lo_bitCount ((f_g_reach rs sz zb) &&& (cl ^^^ (-1))), true, zb, zp, zq, zu, 0, wq))
  else
    (if (f_x_contains ((f_g_reach rs sz zb) &&& (cl ^^^ (-1))) xi) = true then
      (L_t_start_53 cl wt rs sz zb zp zq zu n (xi + 1) (vp_updL wq xi.toNatClampNeg 1))
    else
      (L_t_start_53 cl wt rs sz zb zp zq zu n (xi + 1) (vp_updL wq xi.toNatClampNeg 0)))
theorem L_t_start_53_s (cl : Int64) (wt : Nat → Int64) (rs : Nat → Int64) (sz : Int32) (zb : Int32) (zp : Int32) (zq : Int32) (zu : Int32) (n : Nat) (xi : Int32) (wq : Nat → Int64) : L_t_start_53 cl wt rs sz zb zp zq zu (n + 1) xi wq = if 40 ≤ xi then
    ((f_lo_bitCount ((f_g_reach rs sz zb) &&& (cl ^^^ (-1))), true, zb, zp, zq, zu, 0, wq))
  else
    (if (f_x_contains ((f_g_reach rs sz zb) &&& (cl ^^^ (-1))) xi) = true then
      (L_t_start_53 cl wt rs sz zb zp zq zu n (xi + 1) (vp_updL wq xi.toNatClampNeg 1))
    else
      (L_t_start_53 cl wt rs sz zb zp zq zu n (xi + 1) (vp_updL wq xi.toNatClampNeg 0))) := rfl
def f_t_start (cl : Int64) (wt : Nat → Int64) (rs : Nat → Int64) (sz : Int32) (zb : Int32) (zp : Int32) (zq : Int32) (zu : Int32) : Int32 × Bool × Int32 × Int32 × Int32 × Int32 × Int32 × (Nat → Int64) := L_t_start_53 cl wt rs sz zb zp zq zu 41 0 wt
set_option maxHeartbeats 4000000 in
set_option maxRecDepth 100000 in
theorem c_t_start (l : Launch) (D : va_G) (cA : Nat → ClassId) (t wa : Nat) (go cl : Int64) (se : Bool) (bad fp fq su an sks : Int32) (wt : Nat → Int64) (g pa re : Nat) (ps rs : Nat → Int64) (sz : Int32) (bu sk : Int64) (zb : Int32) (zp : Int32) (zq : Int32) (zu : Int32) : Met l y_t_start (.code y_t_start b_t_start 8 (some .int) :: tb) (rmd 3) (Pro D cA [.ref t, .int zb, .int zp, .int zq, .int zu] (fun H0 => va_P D classes [(t, .inr (2, [.ref g, .ref wa, .long go, .long cl, .int (bz se), .int bad, .int fp, .int fq, .int su, .int an, .int sks])), (wa, .inl (cA 0, 40, .inr (.inl wt))), (g, .inr (1, [.ref pa, .ref re, .int sz, .long bu, .long sk])), (pa, .inl (cA 0, 40, .inr (.inl ps))), (re, .inl (cA 0, 40, .inr (.inl rs)))] H0 ∧ va_D (fun _ => True) [(t, .inr (2, [.ref g, .ref wa, .long go, .long cl, .int (bz se), .int bad, .int fp, .int fq, .int su, .int an, .int sks])), (wa, .inl (cA 0, 40, .inr (.inl wt))), (g, .inr (1, [.ref pa, .ref re, .int sz, .long bu, .long sk])), (pa, .inl (cA 0, 40, .inr (.inl ps))), (re, .inl (cA 0, 40, .inr (.inl rs)))])) (Qmu (aw [(t, .inr (2, [.ref g, .ref wa, .long go, .long cl, .int (bz se), .int bad, .int fp, .int fq, .int su, .int an, .int sks])), (wa, .inl (cA 0, 40, .inr (.inl wt))), (g, .inr (1, [.ref pa, .ref re, .int sz, .long bu, .long sk])), (pa, .inl (cA 0, 40, .inr (.inl ps))), (re, .inl (cA 0, 40, .inr (.inl rs)))]) (fun v0 H0 => v0 = some (.int ((f_t_start cl wt rs sz zb zp zq zu).1)) ∧ va_P D classes [(t, .inr (2, [.ref g, .ref wa, .long go, .long cl, .int (bz ((f_t_start cl wt rs sz zb zp zq zu).2.1)), .int ((f_t_start cl wt rs sz zb zp zq zu).2.2.1), .int ((f_t_start cl wt rs sz zb zp zq zu).2.2.2.1), .int ((f_t_start cl wt rs sz zb zp zq zu).2.2.2.2.1), .int ((f_t_start cl wt rs sz zb zp zq zu).2.2.2.2.2.1), .int ((f_t_start cl wt rs sz zb zp zq zu).2.2.2.2.2.2.1), .int sks])), (wa, .inl (cA 0, 40, .inr (.inl ((f_t_start cl wt rs sz zb zp zq zu).2.2.2.2.2.2.2)))), (g, .inr (1, [.ref pa, .ref re, .int sz, .long bu, .long sk])), (pa, .inl (cA 0, 40, .inr (.inl ps))), (re, .inl (cA 0, 40, .inr (.inl rs)))] H0 ∧ va_D (aw [(t, .inr (2, [.ref g, .ref wa, .long go, .long cl, .int (bz se), .int bad, .int fp, .int fq, .int su, .int an, .int sks])), (wa, .inl (cA 0, 40, .inr (.inl wt))), (g, .inr (1, [.ref pa, .ref re, .int sz, .long bu, .long sk])), (pa, .inl (cA 0, 40, .inr (.inl ps))), (re, .inl (cA 0, 40, .inr (.inl rs)))]) [(t, .inr (2, [.ref g, .ref wa, .long go, .long cl, .int (bz ((f_t_start cl wt rs sz zb zp zq zu).2.1)), .int ((f_t_start cl wt rs sz zb zp zq zu).2.2.1), .int ((f_t_start cl wt rs sz zb zp zq zu).2.2.2.1), .int ((f_t_start cl wt rs sz zb zp zq zu).2.2.2.2.1), .int ((f_t_start cl wt rs sz zb zp zq zu).2.2.2.2.2.1), .int ((f_t_start cl wt rs sz zb zp zq zu).2.2.2.2.2.2.1), .int sks])), (wa, .inl (cA 0, 40, .inr (.inl ((f_t_start cl wt rs sz zb zp zq zu).2.2.2.2.2.2.2)))), (g, .inr (1, [.ref pa, .ref re, .int sz, .long bu, .long sk])), (pa, .inl (cA 0, 40, .inr (.inl ps))), (re, .inl (cA 0, 40, .inr (.inl rs)))])) 0 0 (aw [(t, .inr (2, [.ref g, .ref wa, .long go, .long cl, .int (bz se), .int bad, .int fp, .int fq, .int su, .int an, .int sks])), (wa, .inl (cA 0, 40, .inr (.inl wt))), (g, .inr (1, [.ref pa, .ref re, .int sz, .long bu, .long sk])), (pa, .inl (cA 0, 40, .inr (.inl ps))), (re, .inl (cA 0, 40, .inr (.inl rs)))]) := by
  refine ro_in (by decide) (Nat.le_of_ble_eq_true rfl) (fun p e s m below meth c ls FX hnm hK hP hl => ?_)
  have hl : lv_has ls 8 [(0, .ref t), (1, .int zb), (2, .int zp), (3, .int zq), (4, .int zu)] := hl
  obtain ⟨hP, hD0⟩ := hP
  have hP : va_P D classes [(t, .inr (2, [.ref g, .ref wa, .long go, .long cl, .int (bz se), .int bad, .int fp, .int fq, .int su, .int an, .int sks])), (wa, .inl (cA 0, 40, .inr (.inl wt))), (g, .inr (1, [.ref pa, .ref re, .int sz, .long bu, .long sk])), (pa, .inl (cA 0, 40, .inr (.inl ps))), (re, .inl (cA 0, 40, .inr (.inl rs)))] s.heap := hP
  have hD : va_D (aw [(t, .inr (2, [.ref g, .ref wa, .long go, .long cl, .int (bz se), .int bad, .int fp, .int fq, .int su, .int an, .int sks])), (wa, .inl (cA 0, 40, .inr (.inl wt))), (g, .inr (1, [.ref pa, .ref re, .int sz, .long bu, .long sk])), (pa, .inl (cA 0, 40, .inr (.inl ps))), (re, .inl (cA 0, 40, .inr (.inl rs)))]) [(t, .inr (2, [.ref g, .ref wa, .long go, .long cl, .int (bz se), .int bad, .int fp, .int fq, .int su, .int an, .int sks])), (wa, .inl (cA 0, 40, .inr (.inl wt))), (g, .inr (1, [.ref pa, .ref re, .int sz, .long bu, .long sk])), (pa, .inl (cA 0, 40, .inr (.inl ps))), (re, .inl (cA 0, 40, .inr (.inl rs)))] := aw_self hD0
  generalize (aw [(t, .inr (2, [.ref g, .ref wa, .long go, .long cl, .int (bz se), .int bad, .int fp, .int fq, .int su, .int an, .int sks])), (wa, .inl (cA 0, 40, .inr (.inl wt))), (g, .inr (1, [.ref pa, .ref re, .int sz, .long bu, .long sk])), (pa, .inl (cA 0, 40, .inr (.inl ps))), (re, .inl (cA 0, 40, .inr (.inl rs)))]) = A at hD ⊢
  have hS : va_S A s.heap s.heap [] := va_S.rf
  generalize ([.ref t, .int zb, .int zp, .int zq, .int zu] : List Value).toArray = args at FX ⊢
  obtain ⟨hx, hb, hml, hown, hts, hr, hlk⟩ := id FX
  refine lv_aload_n hx hb d_t_start_0 rfl (lv_at hl 0 rfl) ?_
  refine lv_iconst (v := 1) hx hb d_t_start_1 (by decide) ?_
  refine W.eq (g2 := F0 m 2 ls [.int (bz true), .ref t]) rfl ?_
  refine va_put (D := D) (v := .int (bz true)) (ty := .boolean) hx hb hts i_t t_t t_t_ok n_t hown hK.1 hP hD hS 0 rfl rfl 4 (by decide) (hts _ kf_t_26) (fun _ h9 => h9) rfl (by decide +kernel) (bz_n _) (bz_ft _) (Nat.le_of_ble_eq_true rfl) d_t_start_2 (fun H locs hP hD hS => ?_)
  have hP : va_P D classes [(t, .inr (2, [.ref g, .ref wa, .long go, .long cl, .int (bz true), .int bad, .int fp, .int fq, .int su, .int an, .int sks])), (wa, .inl (cA 0, 40, .inr (.inl wt))), (g, .inr (1, [.ref pa, .ref re, .int sz, .long bu, .long sk])), (pa, .inl (cA 0, 40, .inr (.inl ps))), (re, .inl (cA 0, 40, .inr (.inl rs)))] H := hP
  have hD : va_D A [(t, .inr (2, [.ref g, .ref wa, .long go, .long cl, .int (bz true), .int bad, .int fp, .int fq, .int su, .int an, .int sks])), (wa, .inl (cA 0, 40, .inr (.inl wt))), (g, .inr (1, [.ref pa, .ref re, .int sz, .long bu, .long sk])), (pa, .inl (cA 0, 40, .inr (.inl ps))), (re, .inl (cA 0, 40, .inr (.inl rs)))] := hD
  refine lv_aload_n hx hb d_t_start_5 rfl (lv_at hl 0 rfl) ?_
  refine lv_iload_n hx hb d_t_start_6 rfl (lv_at hl 1 rfl) ?_
  refine va_put (D := D) (v := .int zb) (ty := .int) hx hb hts i_t t_t t_t_ok n_t hown hK.1 hP hD hS 0 rfl rfl 5 (by decide) (hts _ kf_t_30) (fun _ h9 => h9) rfl (by decide +kernel) rfl rfl (Nat.le_of_ble_eq_true rfl) d_t_start_7 (fun H locs hP hD hS => ?_)
  have hP : va_P D classes [(t, .inr (2, [.ref g, .ref wa, .long go, .long cl, .int (bz true), .int zb, .int fp, .int fq, .int su, .int an, .int sks])), (wa, .inl (cA 0, 40, .inr (.inl wt))), (g, .inr (1, [.ref pa, .ref re, .int sz, .long bu, .long sk])), (pa, .inl (cA 0, 40, .inr (.inl ps))), (re, .inl (cA 0, 40, .inr (.inl rs)))] H := hP
  have hD : va_D A [(t, .inr (2, [.ref g, .ref wa, .long go, .long cl, .int (bz true), .int zb, .int fp, .int fq, .int su, .int an, .int sks])), (wa, .inl (cA 0, 40, .inr (.inl wt))), (g, .inr (1, [.ref pa, .ref re, .int sz, .long bu, .long sk])), (pa, .inl (cA 0, 40, .inr (.inl ps))), (re, .inl (cA 0, 40, .inr (.inl rs)))] := hD
  refine lv_aload_n hx hb d_t_start_10 rfl (lv_at hl 0 rfl) ?_
  refine lv_iload_n hx hb d_t_start_11 rfl (lv_at hl 2 rfl) ?_
  refine va_put (D := D) (v := .int zp) (ty := .int) hx hb hts i_t t_t t_t_ok n_t hown hK.1 hP hD hS 0 rfl rfl 6 (by decide) (hts _ kf_t_34) (fun _ h9 => h9) rfl (by decide +kernel) rfl rfl (Nat.le_of_ble_eq_true rfl) d_t_start_12 (fun H locs hP hD hS => ?_)
  have hP : va_P D classes [(t, .inr (2, [.ref g, .ref wa, .long go, .long cl, .int (bz true), .int zb, .int zp, .int fq, .int su, .int an, .int sks])), (wa, .inl (cA 0, 40, .inr (.inl wt))), (g, .inr (1, [.ref pa, .ref re, .int sz, .long bu, .long sk])), (pa, .inl (cA 0, 40, .inr (.inl ps))), (re, .inl (cA 0, 40, .inr (.inl rs)))] H := hP
  have hD : va_D A [(t, .inr (2, [.ref g, .ref wa, .long go, .long cl, .int (bz true), .int zb, .int zp, .int fq, .int su, .int an, .int sks])), (wa, .inl (cA 0, 40, .inr (.inl wt))), (g, .inr (1, [.ref pa, .ref re, .int sz, .long bu, .long sk])), (pa, .inl (cA 0, 40, .inr (.inl ps))), (re, .inl (cA 0, 40, .inr (.inl rs)))] := hD
  refine lv_aload_n hx hb d_t_start_15 rfl (lv_at hl 0 rfl) ?_
  refine lv_iload_n hx hb d_t_start_16 rfl (lv_at hl 3 rfl) ?_
  refine va_put (D := D) (v := .int zq) (ty := .int) hx hb hts i_t t_t t_t_ok n_t hown hK.1 hP hD hS 0 rfl rfl 7 (by decide) (hts _ kf_t_37) (fun _ h9 => h9) rfl (by decide +kernel) rfl rfl (Nat.le_of_ble_eq_true rfl) d_t_start_17 (fun H locs hP hD hS => ?_)
  have hP : va_P D classes [(t, .inr (2, [.ref g, .ref wa, .long go, .long cl, .int (bz true), .int zb, .int zp, .int zq, .int su, .int an, .int sks])), (wa, .inl (cA 0, 40, .inr (.inl wt))), (g, .inr (1, [.ref pa, .ref re, .int sz, .long bu, .long sk])), (pa, .inl (cA 0, 40, .inr (.inl ps))), (re, .inl (cA 0, 40, .inr (.inl rs)))] H := hP
  have hD : va_D A [(t, .inr (2, [.ref g, .ref wa, .long go, .long cl, .int (bz true), .int zb, .int zp, .int zq, .int su, .int an, .int sks])), (wa, .inl (cA 0, 40, .inr (.inl wt))), (g, .inr (1, [.ref pa, .ref re, .int sz, .long bu, .long sk])), (pa, .inl (cA 0, 40, .inr (.inl ps))), (re, .inl (cA 0, 40, .inr (.inl rs)))] := hD
  refine lv_aload_n hx hb d_t_start_20 rfl (lv_at hl 0 rfl) ?_
  refine lv_iload hx hb d_t_start_21 (lv_at hl 4 rfl) ?_
  refine va_put (D := D) (v := .int zu) (ty := .int) hx hb hts i_t t_t t_t_ok n_t hown hK.1 hP hD hS 0 rfl rfl 8 (by decide) (hts _ kf_t_40) (fun _ h9 => h9) rfl (by decide +kernel) rfl rfl (Nat.le_of_ble_eq_true rfl) d_t_start_23 (fun H locs hP hD hS => ?_)
  have hP : va_P D classes [(t, .inr (2, [.ref g, .ref wa, .long go, .long cl, .int (bz true), .int zb, .int zp, .int zq, .int zu, .int an, .int sks])), (wa, .inl (cA 0, 40, .inr (.inl wt))), (g, .inr (1, [.ref pa, .ref re, .int sz, .long bu, .long sk])), (pa, .inl (cA 0, 40, .inr (.inl ps))), (re, .inl (cA 0, 40, .inr (.inl rs)))] H := hP
  have hD : va_D A [(t, .inr (2, [.ref g, .ref wa, .long go, .long cl, .int (bz true), .int zb, .int zp, .int zq, .int zu, .int an, .int sks])), (wa, .inl (cA 0, 40, .inr (.inl wt))), (g, .inr (1, [.ref pa, .ref re, .int sz, .long bu, .long sk])), (pa, .inl (cA 0, 40, .inr (.inl ps))), (re, .inl (cA 0, 40, .inr (.inl rs)))] := hD
  refine lv_aload_n hx hb d_t_start_26 rfl (lv_at hl 0 rfl) ?_
  refine lv_iconst (v := 0) hx hb d_t_start_27 (by decide) ?_
  refine va_put (D := D) (v := .int 0) (ty := .int) hx hb hts i_t t_t t_t_ok n_t hown hK.1 hP hD hS 0 rfl rfl 9 (by decide) (hts _ kf_t_43) (fun _ h9 => h9) rfl (by decide +kernel) rfl rfl (Nat.le_of_ble_eq_true rfl) d_t_start_28 (fun H locs hP hD hS => ?_)
  have hP : va_P D classes [(t, .inr (2, [.ref g, .ref wa, .long go, .long cl, .int (bz true), .int zb, .int zp, .int zq, .int zu, .int 0, .int sks])), (wa, .inl (cA 0, 40, .inr (.inl wt))), (g, .inr (1, [.ref pa, .ref re, .int sz, .long bu, .long sk])), (pa, .inl (cA 0, 40, .inr (.inl ps))), (re, .inl (cA 0, 40, .inr (.inl rs)))] H := hP
  have hD : va_D A [(t, .inr (2, [.ref g, .ref wa, .long go, .long cl, .int (bz true), .int zb, .int zp, .int zq, .int zu, .int 0, .int sks])), (wa, .inl (cA 0, 40, .inr (.inl wt))), (g, .inr (1, [.ref pa, .ref re, .int sz, .long bu, .long sk])), (pa, .inl (cA 0, 40, .inr (.inl ps))), (re, .inl (cA 0, 40, .inr (.inl rs)))] := hD
  refine lv_aload_n hx hb d_t_start_31 rfl (lv_at hl 0 rfl) ?_
  refine ro_get (v := .ref g) FX hK hP 0 0 rfl rfl rfl i_t (by decide) kf_t_9 d_t_start_32 ?_
  refine lv_iload_n hx hb d_t_start_35 rfl (lv_at hl 1 rfl) ?_
  refine ro_V (v := .long (f_g_reach rs sz zb)) (As := [.int zb]) (rest := []) (q0 := 2) FX hK (c_g_reach l D cA g pa re ps rs sz bu sk zb) (hP.sub [2, 3, 4] rfl) hP rfl rfl rfl kc_g_reach km_t_57 ki_g ks_g_reach ke_g_reach rfl ok_g_reach ⟨Nat.le_of_ble_eq_true rfl, Nat.le_of_ble_eq_true rfl⟩ ⟨Nat.zero_le _, Nat.zero_le _⟩ hl.1 rfl (Nat.le_of_ble_eq_true rfl) d_t_start_36 ?_
  refine lv_aload_n hx hb d_t_start_39 rfl (lv_at hl 0 rfl) ?_
  refine ro_get (v := .long cl) FX hK hP 0 3 rfl rfl rfl i_t (by decide) kf_t_23 d_t_start_40 ?_
  refine lv_ldc2 (v := (-1)) hx hb hown (hts _ kl_t_62) d_t_start_43 ?_
  refine lv_lxor hx hb d_t_start_46 ?_
  refine lv_land hx hb d_t_start_47 ?_
  refine lv_lstore (lv' := [(5, .long ((f_g_reach rs sz zb) &&& (cl ^^^ (-1)))), (0, .ref t), (1, .int zb), (2, .int zp), (3, .int zq), (4, .int zu)]) hx hb d_t_start_48 hl (by decide) rfl (fun ls hl => ?_)
  refine lv_iconst (v := 0) hx hb d_t_start_50 (by decide) ?_
  refine lv_istore (lv' := [(7, .int 0), (5, .long ((f_g_reach rs sz zb) &&& (cl ^^^ (-1)))), (0, .ref t), (1, .int zb), (2, .int zp), (3, .int zq), (4, .int zu)]) hx hb d_t_start_51 hl (by decide) rfl (fun ls hl => ?_)
  have loop : ∀ (n k : Nat) (xi : Int32) (wq : Nat → Int64) (ls : Array Slot) (H : Heap) (locs : List Loc), k + n = 41 → k ≤ 40 → xi = nI k → va_P D classes [(t, .inr (2, [.ref g, .ref wa, .long go, .long cl, .int (bz true), .int zb, .int zp, .int zq, .int zu, .int 0, .int sks])), (wa, .inl (cA 0, 40, .inr (.inl wq))), (g, .inr (1, [.ref pa, .ref re, .int sz, .long bu, .long sk])), (pa, .inl (cA 0, 40, .inr (.inl ps))), (re, .inl (cA 0, 40, .inr (.inl rs)))] H → va_D A [(t, .inr (2, [.ref g, .ref wa, .long go, .long cl, .int (bz true), .int zb, .int zp, .int zq, .int zu, .int 0, .int sks])), (wa, .inl (cA 0, 40, .inr (.inl wq))), (g, .inr (1, [.ref pa, .ref re, .int sz, .long bu, .long sk])), (pa, .inl (cA 0, 40, .inr (.inl ps))), (re, .inl (cA 0, 40, .inr (.inl rs)))] → va_S A s.heap H locs → lv_has ls 8 [(0, .ref t), (5, .long ((f_g_reach rs sz zb) &&& (cl ^^^ (-1)))), (7, .int xi)] → W p l e (rmd 3) s m args below meth c H locs 0 0 (MQ below (Qmu A (fun v0 H0 => v0 = some (.int ((L_t_start_53 cl wt rs sz zb zp zq zu n xi wq).1)) ∧ va_P D classes [(t, .inr (2, [.ref g, .ref wa, .long go, .long cl, .int (bz ((L_t_start_53 cl wt rs sz zb zp zq zu n xi wq).2.1)), .int ((L_t_start_53 cl wt rs sz zb zp zq zu n xi wq).2.2.1), .int ((L_t_start_53 cl wt rs sz zb zp zq zu n xi wq).2.2.2.1), .int ((L_t_start_53 cl wt rs sz zb zp zq zu n xi wq).2.2.2.2.1), .int ((L_t_start_53 cl wt rs sz zb zp zq zu n xi wq).2.2.2.2.2.1), .int ((L_t_start_53 cl wt rs sz zb zp zq zu n xi wq).2.2.2.2.2.2.1), .int sks])), (wa, .inl (cA 0, 40, .inr (.inl ((L_t_start_53 cl wt rs sz zb zp zq zu n xi wq).2.2.2.2.2.2.2)))), (g, .inr (1, [.ref pa, .ref re, .int sz, .long bu, .long sk])), (pa, .inl (cA 0, 40, .inr (.inl ps))), (re, .inl (cA 0, 40, .inr (.inl rs)))] H0 ∧ va_D A [(t, .inr (2, [.ref g, .ref wa, .long go, .long cl, .int (bz ((L_t_start_53 cl wt rs sz zb zp zq zu n xi wq).2.1)), .int ((L_t_start_53 cl wt rs sz zb zp zq zu n xi wq).2.2.1), .int ((L_t_start_53 cl wt rs sz zb zp zq zu n xi wq).2.2.2.1), .int ((L_t_start_53 cl wt rs sz zb zp zq zu n xi wq).2.2.2.2.1), .int ((L_t_start_53 cl wt rs sz zb zp zq zu n xi wq).2.2.2.2.2.1), .int ((L_t_start_53 cl wt rs sz zb zp zq zu n xi wq).2.2.2.2.2.2.1), .int sks])), (wa, .inl (cA 0, 40, .inr (.inl ((L_t_start_53 cl wt rs sz zb zp zq zu n xi wq).2.2.2.2.2.2.2)))), (g, .inr (1, [.ref pa, .ref re, .int sz, .long bu, .long sk])), (pa, .inl (cA 0, 40, .inr (.inl ps))), (re, .inl (cA 0, 40, .inr (.inl rs)))])) args s 0 0 A) (F0 m 53 ls []) := by
    intro n
    induction n with
    | zero =>
      intro k xi wq ls H locs h1 h2
      exact absurd h1 (by omega)
    | succ n ih =>
      intro k xi wq ls H locs hkn hk hxi hP hD hS hl
      refine lv_iload hx hb d_t_start_53 (lv_at hl 2 rfl) ?_
      refine lv_aload_n hx hb d_t_start_55 rfl (lv_at hl 0 rfl) ?_
      refine ro_get (v := .ref wa) FX hK hP 0 1 rfl rfl rfl i_t (by decide) kf_t_15 d_t_start_56 ?_
      refine va_alen (v := 40) hx hb hK.1 hP 1 0 rfl rfl rfl d_t_start_59 ?_
      refine lv_icmp_ge (tgt := 91) hx hb d_t_start_60 (by decide) (fun c1 => ?_) (fun c1 => ?_)
      · have c1 := c1
        refine lv_lload hx hb d_t_start_91 (lv_at hl 1 rfl) ?_
        refine ro_S (v := .int (f_lo_bitCount ((f_g_reach rs sz zb) &&& (cl ^^^ (-1))))) (As := [.long ((f_g_reach rs sz zb) &&& (cl ^^^ (-1)))]) (rest := []) FX hK (c_lo_bitCount l D cA ((f_g_reach rs sz zb) &&& (cl ^^^ (-1)))) trivial kc_lo_bitCount km_t_64 ki_lo ks_lo_bitCount rfl ok_lo_bitCount ⟨Nat.le_of_ble_eq_true rfl, Nat.le_of_ble_eq_true rfl⟩ ⟨Nat.zero_le _, Nat.zero_le _⟩ hl.1 rfl (Nat.le_of_ble_eq_true rfl) d_t_start_93 ?_
        exact mu_iret FX hS (by rw [show (L_t_start_53 cl wt rs sz zb zp zq zu (n + 1) xi wq) = (f_lo_bitCount ((f_g_reach rs sz zb) &&& (cl ^^^ (-1))), true, zb, zp, zq, zu, 0, wq) from (by rw [L_t_start_53_s, if_pos c1])]; exact ⟨rfl, hP, hD⟩) d_t_start_96
      · have c1 := c1
        have hk1 : k < 40 := k_lt hxi rfl c1 (by omega)
        refine lv_aload_n hx hb d_t_start_63 rfl (lv_at hl 0 rfl) ?_
        refine ro_get (v := .ref wa) FX hK hP 0 1 rfl rfl rfl i_t (by decide) kf_t_15 d_t_start_64 ?_
        refine lv_iload hx hb d_t_start_67 (lv_at hl 2 rfl) ?_
        refine lv_lload hx hb d_t_start_69 (lv_at hl 1 rfl) ?_
        refine lv_iload hx hb d_t_start_71 (lv_at hl 2 rfl) ?_
        refine ro_SN (v := .int (bz (f_x_contains ((f_g_reach rs sz zb) &&& (cl ^^^ (-1))) xi))) (As := [.long ((f_g_reach rs sz zb) &&& (cl ^^^ (-1))), .int xi]) (rest := [.int xi, .ref wa]) FX hK (c_x_contains l D cA ((f_g_reach rs sz zb) &&& (cl ^^^ (-1))) xi) trivial kc_x_contains km_t_49 ki_x ks_x_contains rfl ok_x_contains ⟨Nat.le_of_ble_eq_true rfl, Nat.le_of_ble_eq_true rfl⟩ ⟨Nat.zero_le _, Nat.zero_le _⟩ hl.1 rfl (Nat.le_of_ble_eq_true rfl) d_t_start_73 ?_
        refine lv_if_eq (tgt := 83) hx hb d_t_start_76 (by decide) (fun c2 => ?_) (fun c2 => ?_)
        · have c2 := bz_f c2
          refine lv_lconst (v := 0) hx hb d_t_start_83 (by decide) ?_
          refine va_last (x := 0) hx hb hK.1 hP hD hS 1 0 rfl rfl (vin hxi hk1 (by decide)) d_t_start_84 (fun H locs hP hD hS => ?_)
          have hP : va_P D classes [(t, .inr (2, [.ref g, .ref wa, .long go, .long cl, .int (bz true), .int zb, .int zp, .int zq, .int zu, .int 0, .int sks])), (wa, .inl (cA 0, 40, .inr (.inl (vp_updL wq xi.toNatClampNeg 0)))), (g, .inr (1, [.ref pa, .ref re, .int sz, .long bu, .long sk])), (pa, .inl (cA 0, 40, .inr (.inl ps))), (re, .inl (cA 0, 40, .inr (.inl rs)))] H := hP
          have hD : va_D A [(t, .inr (2, [.ref g, .ref wa, .long go, .long cl, .int (bz true), .int zb, .int zp, .int zq, .int zu, .int 0, .int sks])), (wa, .inl (cA 0, 40, .inr (.inl (vp_updL wq xi.toNatClampNeg 0)))), (g, .inr (1, [.ref pa, .ref re, .int sz, .long bu, .long sk])), (pa, .inl (cA 0, 40, .inr (.inl ps))), (re, .inl (cA 0, 40, .inr (.inl rs)))] := hD
          refine lv_iinc (v := xi + 1) (lv' := [(7, .int (xi + 1)), (0, .ref t), (5, .long ((f_g_reach rs sz zb) &&& (cl ^^^ (-1))))]) hx hb d_t_start_85 hl (k := 2) rfl rfl (by decide) rfl (fun ls hl => ?_)
          refine lv_goto (tgt := 53) hx hb d_t_start_88 (by decide) ?_
          rw [show (L_t_start_53 cl wt rs sz zb zp zq zu (n + 1) xi wq) = L_t_start_53 cl wt rs sz zb zp zq zu n (xi + 1) (vp_updL wq xi.toNatClampNeg 0) from (by rw [L_t_start_53_s, if_neg c1, if_neg c2])]
          exact ih (k + 1) (xi + 1) (vp_updL wq xi.toNatClampNeg 0) ls H locs (by omega) (by omega) (by rw [hxi]; exact nI_1 _)  hP hD hS (lv_sub hl [1, 2, 0] rfl)
        · have c2 := bz_t c2
          refine lv_lconst (v := 1) hx hb d_t_start_79 (by decide) ?_
          refine lv_goto (tgt := 84) hx hb d_t_start_80 (by decide) ?_
          refine va_last (x := 1) hx hb hK.1 hP hD hS 1 0 rfl rfl (vin hxi hk1 (by decide)) d_t_start_84 (fun H locs hP hD hS => ?_)
          have hP : va_P D classes [(t, .inr (2, [.ref g, .ref wa, .long go, .long cl, .int (bz true), .int zb, .int zp, .int zq, .int zu, .int 0, .int sks])), (wa, .inl (cA 0, 40, .inr (.inl (vp_updL wq xi.toNatClampNeg 1)))), (g, .inr (1, [.ref pa, .ref re, .int sz, .long bu, .long sk])), (pa, .inl (cA 0, 40, .inr (.inl ps))), (re, .inl (cA 0, 40, .inr (.inl rs)))] H := hP
          have hD : va_D A [(t, .inr (2, [.ref g, .ref wa, .long go, .long cl, .int (bz true), .int zb, .int zp, .int zq, .int zu, .int 0, .int sks])), (wa, .inl (cA 0, 40, .inr (.inl (vp_updL wq xi.toNatClampNeg 1)))), (g, .inr (1, [.ref pa, .ref re, .int sz, .long bu, .long sk])), (pa, .inl (cA 0, 40, .inr (.inl ps))), (re, .inl (cA 0, 40, .inr (.inl rs)))] := hD
          refine lv_iinc (v := xi + 1) (lv' := [(7, .int (xi + 1)), (0, .ref t), (5, .long ((f_g_reach rs sz zb) &&& (cl ^^^ (-1))))]) hx hb d_t_start_85 hl (k := 2) rfl rfl (by decide) rfl (fun ls hl => ?_)
          refine lv_goto (tgt := 53) hx hb d_t_start_88 (by decide) ?_
          rw [show (L_t_start_53 cl wt rs sz zb zp zq zu (n + 1) xi wq) = L_t_start_53 cl wt rs sz zb zp zq zu n (xi + 1) (vp_updL wq xi.toNatClampNeg 1) from (by rw [L_t_start_53_s, if_neg c1, if_pos c2])]
          exact ih (k + 1) (xi + 1) (vp_updL wq xi.toNatClampNeg 1) ls H locs (by omega) (by omega) (by rw [hxi]; exact nI_1 _)  hP hD hS (lv_sub hl [1, 2, 0] rfl)
  rw [show (f_t_start cl wt rs sz zb zp zq zu) = L_t_start_53 cl wt rs sz zb zp zq zu 41 0 wt from (by rw [f_t_start])]
  exact loop 41 0 0 wt ls H locs rfl (Nat.zero_le _) rfl  hP hD hS (lv_sub hl [2, 1, 0] rfl)
theorem d_t_learn_0 : decode b_t_learn 0 = .ok (.aload_n 0, 1) := by decide +kernel
theorem d_t_learn_1 : decode b_t_learn 1 = .ok (.getfield 9, 3) := by decide +kernel
theorem d_t_learn_4 : decode b_t_learn 4 = .ok (.iload_n 1, 1) := by decide +kernel
theorem d_t_learn_5 : decode b_t_learn 5 = .ok (.invokevirtual 109, 3) := by decide +kernel
theorem d_t_learn_8 : decode b_t_learn 8 = .ok (.aload_n 0, 1) := by decide +kernel
theorem d_t_learn_9 : decode b_t_learn 9 = .ok (.dup, 1) := by decide +kernel
theorem d_t_learn_10 : decode b_t_learn 10 = .ok (.getfield 43, 3) := by decide +kernel
theorem d_t_learn_13 : decode b_t_learn 13 = .ok (.iconst 1, 1) := by decide +kernel
theorem d_t_learn_14 : decode b_t_learn 14 = .ok (.iadd, 1) := by decide +kernel
theorem d_t_learn_15 : decode b_t_learn 15 = .ok (.putfield 43, 3) := by decide +kernel
theorem d_t_learn_18 : decode b_t_learn 18 = .ok (.aload_n 0, 1) := by decide +kernel
theorem d_t_learn_19 : decode b_t_learn 19 = .ok (.getfield 9, 3) := by decide +kernel
theorem d_t_learn_22 : decode b_t_learn 22 = .ok (.iload_n 1, 1) := by decide +kernel
theorem d_t_learn_23 : decode b_t_learn 23 = .ok (.invokevirtual 57, 3) := by decide +kernel
theorem d_t_learn_26 : decode b_t_learn 26 = .ok (.lstore_n 3, 1) := by decide +kernel
theorem d_t_learn_27 : decode b_t_learn 27 = .ok (.iconst 0, 1) := by decide +kernel
theorem d_t_learn_28 : decode b_t_learn 28 = .ok (.istore 5, 2) := by decide +kernel
theorem d_t_learn_30 : decode b_t_learn 30 = .ok (.iload 5, 2) := by decide +kernel
theorem d_t_learn_32 : decode b_t_learn 32 = .ok (.aload_n 0, 1) := by decide +kernel
theorem d_t_learn_33 : decode b_t_learn 33 = .ok (.getfield 15, 3) := by decide +kernel
theorem d_t_learn_36 : decode b_t_learn 36 = .ok (.arraylength, 1) := by decide +kernel
theorem d_t_learn_37 : decode b_t_learn 37 = .ok (.if_icmp .ge 30, 3) := by decide +kernel
theorem d_t_learn_40 : decode b_t_learn 40 = .ok (.aload_n 0, 1) := by decide +kernel
theorem d_t_learn_41 : decode b_t_learn 41 = .ok (.getfield 15, 3) := by decide +kernel
theorem d_t_learn_44 : decode b_t_learn 44 = .ok (.iload 5, 2) := by decide +kernel
theorem d_t_learn_46 : decode b_t_learn 46 = .ok (.dup2, 1) := by decide +kernel
theorem d_t_learn_47 : decode b_t_learn 47 = .ok (.laload, 1) := by decide +kernel
theorem d_t_learn_48 : decode b_t_learn 48 = .ok (.aload_n 0, 1) := by decide +kernel
theorem d_t_learn_49 : decode b_t_learn 49 = .ok (.iload_n 2, 1) := by decide +kernel
theorem d_t_learn_50 : decode b_t_learn 50 = .ok (.lload_n 3, 1) := by decide +kernel
theorem d_t_learn_51 : decode b_t_learn 51 = .ok (.iload 5, 2) := by decide +kernel
theorem d_t_learn_53 : decode b_t_learn 53 = .ok (.invokestatic 49, 3) := by decide +kernel
theorem d_t_learn_56 : decode b_t_learn 56 = .ok (.invokevirtual 112, 3) := by decide +kernel
theorem d_t_learn_59 : decode b_t_learn 59 = .ok (.lmul, 1) := by decide +kernel
theorem d_t_learn_60 : decode b_t_learn 60 = .ok (.lastore, 1) := by decide +kernel
theorem d_t_learn_61 : decode b_t_learn 61 = .ok (.iinc 5 1, 3) := by decide +kernel
theorem d_t_learn_64 : decode b_t_learn 64 = .ok (.goto (-34), 3) := by decide +kernel
theorem d_t_learn_67 : decode b_t_learn 67 = .ok (.return_, 1) := by decide +kernel
def L_t_learn_30 (fp : Int32) (fq : Int32) (an : Int32) (wt : Nat → Int64) (rs : Nat → Int64) (sz : Int32) (bu : Int64) (nu : Int32) (ou : Int32) : Nat → Int32 → (Nat → Int64) → Int64 × Int32 × (Nat → Int64)
  | 0, _, wq => (0, 0, wq)
  | n + 1, xi, wq => if 40 ≤ xi then
    (((f_g_markBuilt bu nu), an + 1, wq))
  else
    (L_t_learn_30 fp fq an wt rs sz bu nu ou n (xi + 1) (vp_updL wq xi.toNatClampNeg ((wq xi.toNatClampNeg) * (f_t_likelihood fp fq ou (f_x_contains (f_g_reach rs sz nu) xi)))))
theorem L_t_learn_30_s (fp : Int32) (fq : Int32) (an : Int32) (wt : Nat → Int64) (rs : Nat → Int64) (sz : Int32) (bu : Int64) (nu : Int32) (ou : Int32) (n : Nat) (xi : Int32) (wq : Nat → Int64) : L_t_learn_30 fp fq an wt rs sz bu nu ou (n + 1) xi wq = if 40 ≤ xi then
    (((f_g_markBuilt bu nu), an + 1, wq))
  else
    (L_t_learn_30 fp fq an wt rs sz bu nu ou n (xi + 1) (vp_updL wq xi.toNatClampNeg ((wq xi.toNatClampNeg) * (f_t_likelihood fp fq ou (f_x_contains (f_g_reach rs sz nu) xi))))) := rfl
def f_t_learn (fp : Int32) (fq : Int32) (an : Int32) (wt : Nat → Int64) (rs : Nat → Int64) (sz : Int32) (bu : Int64) (nu : Int32) (ou : Int32) : Int64 × Int32 × (Nat → Int64) := L_t_learn_30 fp fq an wt rs sz bu nu ou 41 0 wt
set_option maxHeartbeats 4000000 in
set_option maxRecDepth 100000 in
theorem c_t_learn (l : Launch) (D : va_G) (cA : Nat → ClassId) (t wa : Nat) (go cl : Int64) (se : Bool) (bad fp fq su an sks : Int32) (wt : Nat → Int64) (g pa re : Nat) (ps rs : Nat → Int64) (sz : Int32) (bu sk : Int64) (nu : Int32) (ou : Int32) : Met l y_t_learn (.code y_t_learn b_t_learn 6 none :: tb) (rmd 3) (Pro D cA [.ref t, .int nu, .int ou] (fun H0 => va_P D classes [(t, .inr (2, [.ref g, .ref wa, .long go, .long cl, .int (bz se), .int bad, .int fp, .int fq, .int su, .int an, .int sks])), (wa, .inl (cA 0, 40, .inr (.inl wt))), (g, .inr (1, [.ref pa, .ref re, .int sz, .long bu, .long sk])), (pa, .inl (cA 0, 40, .inr (.inl ps))), (re, .inl (cA 0, 40, .inr (.inl rs)))] H0 ∧ va_D (fun _ => True) [(t, .inr (2, [.ref g, .ref wa, .long go, .long cl, .int (bz se), .int bad, .int fp, .int fq, .int su, .int an, .int sks])), (wa, .inl (cA 0, 40, .inr (.inl wt))), (g, .inr (1, [.ref pa, .ref re, .int sz, .long bu, .long sk])), (pa, .inl (cA 0, 40, .inr (.inl ps))), (re, .inl (cA 0, 40, .inr (.inl rs)))])) (Qmu (aw [(t, .inr (2, [.ref g, .ref wa, .long go, .long cl, .int (bz se), .int bad, .int fp, .int fq, .int su, .int an, .int sks])), (wa, .inl (cA 0, 40, .inr (.inl wt))), (g, .inr (1, [.ref pa, .ref re, .int sz, .long bu, .long sk])), (pa, .inl (cA 0, 40, .inr (.inl ps))), (re, .inl (cA 0, 40, .inr (.inl rs)))]) (fun v0 H0 => v0 = none ∧ va_P D classes [(t, .inr (2, [.ref g, .ref wa, .long go, .long cl, .int (bz se), .int bad, .int fp, .int fq, .int su, .int ((f_t_learn fp fq an wt rs sz bu nu ou).2.1), .int sks])), (wa, .inl (cA 0, 40, .inr (.inl ((f_t_learn fp fq an wt rs sz bu nu ou).2.2)))), (g, .inr (1, [.ref pa, .ref re, .int sz, .long ((f_t_learn fp fq an wt rs sz bu nu ou).1), .long sk])), (pa, .inl (cA 0, 40, .inr (.inl ps))), (re, .inl (cA 0, 40, .inr (.inl rs)))] H0 ∧ va_D (aw [(t, .inr (2, [.ref g, .ref wa, .long go, .long cl, .int (bz se), .int bad, .int fp, .int fq, .int su, .int an, .int sks])), (wa, .inl (cA 0, 40, .inr (.inl wt))), (g, .inr (1, [.ref pa, .ref re, .int sz, .long bu, .long sk])), (pa, .inl (cA 0, 40, .inr (.inl ps))), (re, .inl (cA 0, 40, .inr (.inl rs)))]) [(t, .inr (2, [.ref g, .ref wa, .long go, .long cl, .int (bz se), .int bad, .int fp, .int fq, .int su, .int ((f_t_learn fp fq an wt rs sz bu nu ou).2.1), .int sks])), (wa, .inl (cA 0, 40, .inr (.inl ((f_t_learn fp fq an wt rs sz bu nu ou).2.2)))), (g, .inr (1, [.ref pa, .ref re, .int sz, .long ((f_t_learn fp fq an wt rs sz bu nu ou).1), .long sk])), (pa, .inl (cA 0, 40, .inr (.inl ps))), (re, .inl (cA 0, 40, .inr (.inl rs)))])) 0 0 (aw [(t, .inr (2, [.ref g, .ref wa, .long go, .long cl, .int (bz se), .int bad, .int fp, .int fq, .int su, .int an, .int sks])), (wa, .inl (cA 0, 40, .inr (.inl wt))), (g, .inr (1, [.ref pa, .ref re, .int sz, .long bu, .long sk])), (pa, .inl (cA 0, 40, .inr (.inl ps))), (re, .inl (cA 0, 40, .inr (.inl rs)))]) := by
  refine ro_in (by decide) (Nat.le_of_ble_eq_true rfl) (fun p e s m below meth c ls FX hnm hK hP hl => ?_)
  have hl : lv_has ls 6 [(0, .ref t), (1, .int nu), (2, .int ou)] := hl
  obtain ⟨hP, hD0⟩ := hP
  have hP : va_P D classes [(t, .inr (2, [.ref g, .ref wa, .long go, .long cl, .int (bz se), .int bad, .int fp, .int fq, .int su, .int an, .int sks])), (wa, .inl (cA 0, 40, .inr (.inl wt))), (g, .inr (1, [.ref pa, .ref re, .int sz, .long bu, .long sk])), (pa, .inl (cA 0, 40, .inr (.inl ps))), (re, .inl (cA 0, 40, .inr (.inl rs)))] s.heap := hP
  have hD : va_D (aw [(t, .inr (2, [.ref g, .ref wa, .long go, .long cl, .int (bz se), .int bad, .int fp, .int fq, .int su, .int an, .int sks])), (wa, .inl (cA 0, 40, .inr (.inl wt))), (g, .inr (1, [.ref pa, .ref re, .int sz, .long bu, .long sk])), (pa, .inl (cA 0, 40, .inr (.inl ps))), (re, .inl (cA 0, 40, .inr (.inl rs)))]) [(t, .inr (2, [.ref g, .ref wa, .long go, .long cl, .int (bz se), .int bad, .int fp, .int fq, .int su, .int an, .int sks])), (wa, .inl (cA 0, 40, .inr (.inl wt))), (g, .inr (1, [.ref pa, .ref re, .int sz, .long bu, .long sk])), (pa, .inl (cA 0, 40, .inr (.inl ps))), (re, .inl (cA 0, 40, .inr (.inl rs)))] := aw_self hD0
  generalize (aw [(t, .inr (2, [.ref g, .ref wa, .long go, .long cl, .int (bz se), .int bad, .int fp, .int fq, .int su, .int an, .int sks])), (wa, .inl (cA 0, 40, .inr (.inl wt))), (g, .inr (1, [.ref pa, .ref re, .int sz, .long bu, .long sk])), (pa, .inl (cA 0, 40, .inr (.inl ps))), (re, .inl (cA 0, 40, .inr (.inl rs)))]) = A at hD ⊢
  have hS : va_S A s.heap s.heap [] := va_S.rf
  generalize ([.ref t, .int nu, .int ou] : List Value).toArray = args at FX ⊢
  obtain ⟨hx, hb, hml, hown, hts, hr, hlk⟩ := id FX
  refine lv_aload_n hx hb d_t_learn_0 rfl (lv_at hl 0 rfl) ?_
  refine ro_get (v := .ref g) FX hK hP 0 0 rfl rfl rfl i_t (by decide) kf_t_9 d_t_learn_1 ?_
  refine lv_iload_n hx hb d_t_learn_4 rfl (lv_at hl 1 rfl) ?_
  refine mu_V (As := [.int nu]) (rest := []) (q0 := 2) FX hK (c_g_markBuilt l D cA g pa re ps rs sz bu sk nu) (hP.sub [2, 3, 4] rfl) (hD.sub [2, 3, 4] (by decide) rfl) hP rfl rfl rfl kc_g_markBuilt km_t_109 ki_g ks_g_markBuilt ke_g_markBuilt rfl ok_g_markBuilt ⟨Nat.le_of_ble_eq_true rfl, Nat.le_of_ble_eq_true rfl⟩ ⟨Nat.zero_le _, Nat.zero_le _⟩ hl.1 rfl (Nat.le_of_ble_eq_true rfl) d_t_learn_5 hS (fun q hq => aw_in hD [2, 3, 4] rfl q hq) (fun v0 H1 locs hv0 hz0 hk0 hS => ?_)
  obtain ⟨rfl, hP1, hD1⟩ := hv0
  obtain ⟨hP, hD⟩ := mu_join (wr := [(t, .inr (2, [.ref g, .ref wa, .long go, .long cl, .int (bz se), .int bad, .int fp, .int fq, .int su, .int an, .int sks])), (wa, .inl (cA 0, 40, .inr (.inl wt)))]) (w1 := [(g, .inr (1, [.ref pa, .ref re, .int sz, .long (f_g_markBuilt bu nu), .long sk])), (pa, .inl (cA 0, 40, .inr (.inl ps))), (re, .inl (cA 0, 40, .inr (.inl rs)))]) hP hD [2, 3, 4] [0, 1] rfl rfl (by decide) (by decide) hk0 hP1 hD1
  have hP : va_P D classes [(t, .inr (2, [.ref g, .ref wa, .long go, .long cl, .int (bz se), .int bad, .int fp, .int fq, .int su, .int an, .int sks])), (wa, .inl (cA 0, 40, .inr (.inl wt))), (g, .inr (1, [.ref pa, .ref re, .int sz, .long (f_g_markBuilt bu nu), .long sk])), (pa, .inl (cA 0, 40, .inr (.inl ps))), (re, .inl (cA 0, 40, .inr (.inl rs)))] H1 := hP.sub [0, 1, 2, 3, 4] rfl
  have hD : va_D A [(t, .inr (2, [.ref g, .ref wa, .long go, .long cl, .int (bz se), .int bad, .int fp, .int fq, .int su, .int an, .int sks])), (wa, .inl (cA 0, 40, .inr (.inl wt))), (g, .inr (1, [.ref pa, .ref re, .int sz, .long (f_g_markBuilt bu nu), .long sk])), (pa, .inl (cA 0, 40, .inr (.inl ps))), (re, .inl (cA 0, 40, .inr (.inl rs)))] := hD.sub [0, 1, 2, 3, 4] (by decide) rfl
  generalize H1 = H at hP hS ⊢
  refine W.eq (g2 := F0 m 8 ls []) rfl ?_
  refine lv_aload_n hx hb d_t_learn_8 rfl (lv_at hl 0 rfl) ?_
  refine lv_dup hx hb d_t_learn_9 rfl ?_
  refine ro_get (v := .int an) FX hK hP 0 9 rfl rfl rfl i_t (by decide) kf_t_43 d_t_learn_10 ?_
  refine lv_iconst (v := 1) hx hb d_t_learn_13 (by decide) ?_
  refine lv_iadd hx hb d_t_learn_14 ?_
  refine va_put (D := D) (v := .int (an + 1)) (ty := .int) hx hb hts i_t t_t t_t_ok n_t hown hK.1 hP hD hS 0 rfl rfl 9 (by decide) (hts _ kf_t_43) (fun _ h9 => h9) rfl (by decide +kernel) rfl rfl (Nat.le_of_ble_eq_true rfl) d_t_learn_15 (fun H locs hP hD hS => ?_)
  have hP : va_P D classes [(t, .inr (2, [.ref g, .ref wa, .long go, .long cl, .int (bz se), .int bad, .int fp, .int fq, .int su, .int (an + 1), .int sks])), (wa, .inl (cA 0, 40, .inr (.inl wt))), (g, .inr (1, [.ref pa, .ref re, .int sz, .long (f_g_markBuilt bu nu), .long sk])), (pa, .inl (cA 0, 40, .inr (.inl ps))), (re, .inl (cA 0, 40, .inr (.inl rs)))] H := hP
  have hD : va_D A [(t, .inr (2, [.ref g, .ref wa, .long go, .long cl, .int (bz se), .int bad, .int fp, .int fq, .int su, .int (an + 1), .int sks])), (wa, .inl (cA 0, 40, .inr (.inl wt))), (g, .inr (1, [.ref pa, .ref re, .int sz, .long (f_g_markBuilt bu nu), .long sk])), (pa, .inl (cA 0, 40, .inr (.inl ps))), (re, .inl (cA 0, 40, .inr (.inl rs)))] := hD
  refine lv_aload_n hx hb d_t_learn_18 rfl (lv_at hl 0 rfl) ?_
  refine ro_get (v := .ref g) FX hK hP 0 0 rfl rfl rfl i_t (by decide) kf_t_9 d_t_learn_19 ?_
  refine lv_iload_n hx hb d_t_learn_22 rfl (lv_at hl 1 rfl) ?_
  refine ro_V (v := .long (f_g_reach rs sz nu)) (As := [.int nu]) (rest := []) (q0 := 2) FX hK (c_g_reach l D cA g pa re ps rs sz (f_g_markBuilt bu nu) sk nu) (hP.sub [2, 3, 4] rfl) hP rfl rfl rfl kc_g_reach km_t_57 ki_g ks_g_reach ke_g_reach rfl ok_g_reach ⟨Nat.le_of_ble_eq_true rfl, Nat.le_of_ble_eq_true rfl⟩ ⟨Nat.zero_le _, Nat.zero_le _⟩ hl.1 rfl (Nat.le_of_ble_eq_true rfl) d_t_learn_23 ?_
  refine lv_lstore_n (lv' := [(3, .long (f_g_reach rs sz nu)), (0, .ref t), (1, .int nu), (2, .int ou)]) hx hb d_t_learn_26 rfl hl (by decide) rfl (fun ls hl => ?_)
  refine lv_iconst (v := 0) hx hb d_t_learn_27 (by decide) ?_
  refine lv_istore (lv' := [(5, .int 0), (3, .long (f_g_reach rs sz nu)), (0, .ref t), (1, .int nu), (2, .int ou)]) hx hb d_t_learn_28 hl (by decide) rfl (fun ls hl => ?_)
  have loop : ∀ (n k : Nat) (xi : Int32) (wq : Nat → Int64) (ls : Array Slot) (H : Heap) (locs : List Loc), k + n = 41 → k ≤ 40 → xi = nI k → va_P D classes [(t, .inr (2, [.ref g, .ref wa, .long go, .long cl, .int (bz se), .int bad, .int fp, .int fq, .int su, .int (an + 1), .int sks])), (wa, .inl (cA 0, 40, .inr (.inl wq))), (g, .inr (1, [.ref pa, .ref re, .int sz, .long (f_g_markBuilt bu nu), .long sk])), (pa, .inl (cA 0, 40, .inr (.inl ps))), (re, .inl (cA 0, 40, .inr (.inl rs)))] H → va_D A [(t, .inr (2, [.ref g, .ref wa, .long go, .long cl, .int (bz se), .int bad, .int fp, .int fq, .int su, .int (an + 1), .int sks])), (wa, .inl (cA 0, 40, .inr (.inl wq))), (g, .inr (1, [.ref pa, .ref re, .int sz, .long (f_g_markBuilt bu nu), .long sk])), (pa, .inl (cA 0, 40, .inr (.inl ps))), (re, .inl (cA 0, 40, .inr (.inl rs)))] → va_S A s.heap H locs → lv_has ls 6 [(0, .ref t), (2, .int ou), (3, .long (f_g_reach rs sz nu)), (5, .int xi)] → W p l e (rmd 3) s m args below meth c H locs 0 0 (MQ below (Qmu A (fun v0 H0 => v0 = none ∧ va_P D classes [(t, .inr (2, [.ref g, .ref wa, .long go, .long cl, .int (bz se), .int bad, .int fp, .int fq, .int su, .int ((L_t_learn_30 fp fq an wt rs sz bu nu ou n xi wq).2.1), .int sks])), (wa, .inl (cA 0, 40, .inr (.inl ((L_t_learn_30 fp fq an wt rs sz bu nu ou n xi wq).2.2)))), (g, .inr (1, [.ref pa, .ref re, .int sz, .long ((L_t_learn_30 fp fq an wt rs sz bu nu ou n xi wq).1), .long sk])), (pa, .inl (cA 0, 40, .inr (.inl ps))), (re, .inl (cA 0, 40, .inr (.inl rs)))] H0 ∧ va_D A [(t, .inr (2, [.ref g, .ref wa, .long go, .long cl, .int (bz se), .int bad, .int fp, .int fq, .int su, .int ((L_t_learn_30 fp fq an wt rs sz bu nu ou n xi wq).2.1), .int sks])), (wa, .inl (cA 0, 40, .inr (.inl ((L_t_learn_30 fp fq an wt rs sz bu nu ou n xi wq).2.2)))), (g, .inr (1, [.ref pa, .ref re, .int sz, .long ((L_t_learn_30 fp fq an wt rs sz bu nu ou n xi wq).1), .long sk])), (pa, .inl (cA 0, 40, .inr (.inl ps))), (re, .inl (cA 0, 40, .inr (.inl rs)))])) args s 0 0 A) (F0 m 30 ls []) := by
    intro n
    induction n with
    | zero =>
      intro k xi wq ls H locs h1 h2
      exact absurd h1 (by omega)
    | succ n ih =>
      intro k xi wq ls H locs hkn hk hxi hP hD hS hl
      refine lv_iload hx hb d_t_learn_30 (lv_at hl 3 rfl) ?_
      refine lv_aload_n hx hb d_t_learn_32 rfl (lv_at hl 0 rfl) ?_
      refine ro_get (v := .ref wa) FX hK hP 0 1 rfl rfl rfl i_t (by decide) kf_t_15 d_t_learn_33 ?_
      refine va_alen (v := 40) hx hb hK.1 hP 1 0 rfl rfl rfl d_t_learn_36 ?_
      refine lv_icmp_ge (tgt := 67) hx hb d_t_learn_37 (by decide) (fun c1 => ?_) (fun c1 => ?_)
      · have c1 := c1
        exact mu_vret FX hS (by rw [show (L_t_learn_30 fp fq an wt rs sz bu nu ou (n + 1) xi wq) = ((f_g_markBuilt bu nu), an + 1, wq) from (by rw [L_t_learn_30_s, if_pos c1])]; exact ⟨rfl, hP, hD⟩) d_t_learn_67
      · have c1 := c1
        have hk1 : k < 40 := k_lt hxi rfl c1 (by omega)
        refine lv_aload_n hx hb d_t_learn_40 rfl (lv_at hl 0 rfl) ?_
        refine ro_get (v := .ref wa) FX hK hP 0 1 rfl rfl rfl i_t (by decide) kf_t_15 d_t_learn_41 ?_
        refine lv_iload hx hb d_t_learn_44 (lv_at hl 3 rfl) ?_
        refine lv_dup2_11 hx hb d_t_learn_46 rfl rfl ?_
        refine va_lald hx hb hK.1 hP 1 0 rfl rfl (vin hxi hk1 (by decide)) d_t_learn_47 ?_
        refine lv_aload_n hx hb d_t_learn_48 rfl (lv_at hl 0 rfl) ?_
        refine lv_iload_n hx hb d_t_learn_49 rfl (lv_at hl 1 rfl) ?_
        refine lv_lload_n hx hb d_t_learn_50 rfl (lv_at hl 2 rfl) ?_
        refine lv_iload hx hb d_t_learn_51 (lv_at hl 3 rfl) ?_
        refine ro_SN (v := .int (bz (f_x_contains (f_g_reach rs sz nu) xi))) (As := [.long (f_g_reach rs sz nu), .int xi]) (rest := [.int ou, .ref t, .long (wq xi.toNatClampNeg), .int xi, .ref wa]) FX hK (c_x_contains l D cA (f_g_reach rs sz nu) xi) trivial kc_x_contains km_t_49 ki_x ks_x_contains rfl ok_x_contains ⟨Nat.le_of_ble_eq_true rfl, Nat.le_of_ble_eq_true rfl⟩ ⟨Nat.zero_le _, Nat.zero_le _⟩ hl.1 rfl (Nat.le_of_ble_eq_true rfl) d_t_learn_53 ?_
        refine ro_V (v := .long (f_t_likelihood fp fq ou (f_x_contains (f_g_reach rs sz nu) xi))) (As := [.int ou, .int (bz (f_x_contains (f_g_reach rs sz nu) xi))]) (rest := [.long (wq xi.toNatClampNeg), .int xi, .ref wa]) (q0 := 0) FX hK (c_t_likelihood l D cA t wa go cl se bad fp fq su (an + 1) sks wq g pa re ps rs sz (f_g_markBuilt bu nu) sk ou (f_x_contains (f_g_reach rs sz nu) xi)) hP hP rfl rfl rfl kc_t_likelihood km_t_112 ki_t ks_t_likelihood ke_t_likelihood rfl ok_t_likelihood ⟨Nat.le_of_ble_eq_true rfl, Nat.le_of_ble_eq_true rfl⟩ ⟨Nat.zero_le _, Nat.zero_le _⟩ hl.1 rfl (Nat.le_of_ble_eq_true rfl) d_t_learn_56 ?_
        refine lv_lmul hx hb d_t_learn_59 ?_
        refine va_last (x := (wq xi.toNatClampNeg) * (f_t_likelihood fp fq ou (f_x_contains (f_g_reach rs sz nu) xi))) hx hb hK.1 hP hD hS 1 0 rfl rfl (vin hxi hk1 (by decide)) d_t_learn_60 (fun H locs hP hD hS => ?_)
        have hP : va_P D classes [(t, .inr (2, [.ref g, .ref wa, .long go, .long cl, .int (bz se), .int bad, .int fp, .int fq, .int su, .int (an + 1), .int sks])), (wa, .inl (cA 0, 40, .inr (.inl (vp_updL wq xi.toNatClampNeg ((wq xi.toNatClampNeg) * (f_t_likelihood fp fq ou (f_x_contains (f_g_reach rs sz nu) xi))))))), (g, .inr (1, [.ref pa, .ref re, .int sz, .long (f_g_markBuilt bu nu), .long sk])), (pa, .inl (cA 0, 40, .inr (.inl ps))), (re, .inl (cA 0, 40, .inr (.inl rs)))] H := hP
        have hD : va_D A [(t, .inr (2, [.ref g, .ref wa, .long go, .long cl, .int (bz se), .int bad, .int fp, .int fq, .int su, .int (an + 1), .int sks])), (wa, .inl (cA 0, 40, .inr (.inl (vp_updL wq xi.toNatClampNeg ((wq xi.toNatClampNeg) * (f_t_likelihood fp fq ou (f_x_contains (f_g_reach rs sz nu) xi))))))), (g, .inr (1, [.ref pa, .ref re, .int sz, .long (f_g_markBuilt bu nu), .long sk])), (pa, .inl (cA 0, 40, .inr (.inl ps))), (re, .inl (cA 0, 40, .inr (.inl rs)))] := hD
        refine lv_iinc (v := xi + 1) (lv' := [(5, .int (xi + 1)), (0, .ref t), (2, .int ou), (3, .long (f_g_reach rs sz nu))]) hx hb d_t_learn_61 hl (k := 3) rfl rfl (by decide) rfl (fun ls hl => ?_)
        refine lv_goto (tgt := 30) hx hb d_t_learn_64 (by decide) ?_
        rw [show (L_t_learn_30 fp fq an wt rs sz bu nu ou (n + 1) xi wq) = L_t_learn_30 fp fq an wt rs sz bu nu ou n (xi + 1) (vp_updL wq xi.toNatClampNeg ((wq xi.toNatClampNeg) * (f_t_likelihood fp fq ou (f_x_contains (f_g_reach rs sz nu) xi)))) from (by rw [L_t_learn_30_s, if_neg c1])]
        exact ih (k + 1) (xi + 1) (vp_updL wq xi.toNatClampNeg ((wq xi.toNatClampNeg) * (f_t_likelihood fp fq ou (f_x_contains (f_g_reach rs sz nu) xi)))) ls H locs (by omega) (by omega) (by rw [hxi]; exact nI_1 _)  hP hD hS (lv_sub hl [1, 2, 3, 0] rfl)
  rw [show (f_t_learn fp fq an wt rs sz bu nu ou) = L_t_learn_30 fp fq an wt rs sz bu nu ou 41 0 wt from (by rw [f_t_learn])]
  exact loop 41 0 0 wt ls H locs rfl (Nat.zero_le _) rfl  hP hD hS (lv_sub hl [2, 4, 1, 0] rfl)
end
section
theorem d_x_init_0 : decode b_x_init 0 = .ok (.aload_n 0, 1) := by decide +kernel
theorem d_x_init_1 : decode b_x_init 1 = .ok (.invokespecial 1, 3) := by decide +kernel
theorem d_x_init_4 : decode b_x_init 4 = .ok (.aload_n 0, 1) := by decide +kernel
theorem d_x_init_5 : decode b_x_init 5 = .ok (.new 7, 3) := by decide +kernel
theorem d_x_init_8 : decode b_x_init 8 = .ok (.dup, 1) := by decide +kernel
theorem d_x_init_9 : decode b_x_init 9 = .ok (.invokespecial 9, 3) := by decide +kernel
theorem d_x_init_12 : decode b_x_init 12 = .ok (.putfield 10, 3) := by decide +kernel
theorem d_x_init_15 : decode b_x_init 15 = .ok (.aload_n 0, 1) := by decide +kernel
theorem d_x_init_16 : decode b_x_init 16 = .ok (.iconst 4, 1) := by decide +kernel
theorem d_x_init_17 : decode b_x_init 17 = .ok (.anewarray 16, 3) := by decide +kernel
theorem d_x_init_20 : decode b_x_init 20 = .ok (.putfield 18, 3) := by decide +kernel
theorem d_x_init_23 : decode b_x_init 23 = .ok (.aload_n 0, 1) := by decide +kernel
theorem d_x_init_24 : decode b_x_init 24 = .ok (.iconst 0, 1) := by decide +kernel
theorem d_x_init_25 : decode b_x_init 25 = .ok (.putfield 22, 3) := by decide +kernel
theorem d_x_init_28 : decode b_x_init 28 = .ok (.return_, 1) := by decide +kernel
set_option maxHeartbeats 4000000 in
set_option maxRecDepth 100000 in
theorem c_x_init (l : Launch) (D : va_G) (cA : Nat → ClassId) (x : Nat) (sz : Nat) : Met l y_x_init (.code y_x_init b_x_init 1 none :: tb) (rma 2 4 89) (Pro D cA [.ref x] (fun H0 => H0.size = sz ∧ va_P D classes [(x, .inr (0, [.null, .null, .int 0]))] H0 ∧ va_D (fun _ => True) [(x, .inr (0, [.null, .null, .int 0]))])) (Qmu (va_A [(x, .inr (0, [.null, .null, .int 0]))] sz) (fun v0 H0 => v0 = none ∧ ∃ n0 n1 n2 n3 : Nat, va_P D classes [(x, .inr (0, [.ref n1, .ref n0, .int 0])), (n0, .inl (cA 1, 4, .inr (.inr (.inr (.inr (fun _ => none)))))), (n1, .inr (1, [.ref n2, .ref n3, .int 0, .long 0, .long 0])), (n2, .inl (cA 0, 40, .inr (.inl (fun _ => 0)))), (n3, .inl (cA 0, 40, .inr (.inl (fun _ => 0))))] H0 ∧ va_D (va_A [(x, .inr (0, [.null, .null, .int 0]))] sz) [(x, .inr (0, [.ref n1, .ref n0, .int 0])), (n0, .inl (cA 1, 4, .inr (.inr (.inr (.inr (fun _ => none)))))), (n1, .inr (1, [.ref n2, .ref n3, .int 0, .long 0, .long 0])), (n2, .inl (cA 0, 40, .inr (.inl (fun _ => 0)))), (n3, .inl (cA 0, 40, .inr (.inl (fun _ => 0))))])) 4 89 (va_A [(x, .inr (0, [.null, .null, .int 0]))] sz) := by
  refine ro_in (by decide) (Nat.le_of_ble_eq_true rfl) (fun p e s m below meth c ls FX hnm hK hP hl => ?_)
  have hl : lv_has ls 1 [(0, .ref x)] := hl
  obtain ⟨hsz, hP, hD0⟩ := hP
  subst hsz
  have hP : va_P D classes [(x, .inr (0, [.null, .null, .int 0]))] s.heap := hP
  have hD := hD0.self (sz := s.heap.size)
  generalize hAe : va_A [(x, .inr (0, [.null, .null, .int 0]))] s.heap.size = A at hD ⊢
  have hA : ∀ q : Nat, s.heap.size ≤ q → A q := fun q h => by rw [← hAe]; exact Or.inr h
  have hS : va_S A s.heap s.heap [] := va_S.rf
  generalize ([.ref x] : List Value).toArray = args at FX ⊢
  obtain ⟨hx, hb, hml, hown, hts, hr, hlk⟩ := id FX
  have hin : meth.name = "<init>" := hnm
  refine lv_aload_n hx hb d_x_init_0 rfl (lv_at hl 0 rfl) ?_
  refine W.objInit hx hb hown (hts _ km_x_1) (hts _ ks_objInit) (hts _ kc_objInit) rfl (by rw [hml]; exact hl.1) rfl d_x_init_1 (Nat.le_of_ble_eq_true rfl) (Nat.le_of_ble_eq_true rfl) ?_
  refine W.eq (g2 := F0 m 4 ls []) rfl ?_
  refine lv_aload_n hx hb d_x_init_4 rfl (lv_at hl 0 rfl) ?_
  refine va_new (ci := 1) (fs := [.null, .null, .int 0, .long 0, .long 0]) hx hb hts i_g t_g t_g_ok hown (hts _ kk_x_7) (hts _ kz_g) (hts _ ki_g) hK.1 hP hD hS hA rfl (fun j hj => by rcases (show j = 0 ∨ j = 1 ∨ j = 2 ∨ j = 3 ∨ j = 4 by omega) with rfl | rfl | rfl | rfl | rfl <;> rfl) (Nat.le_of_ble_eq_true rfl) (Nat.le_of_ble_eq_true rfl) d_x_init_5 (fun q1 H hP hD hS => ?_)
  have hP : va_P D classes [(x, .inr (0, [.null, .null, .int 0])), (q1, .inr (1, [.null, .null, .int 0, .long 0, .long 0]))] H := hP
  have hD : va_D A [(x, .inr (0, [.null, .null, .int 0])), (q1, .inr (1, [.null, .null, .int 0, .long 0, .long 0]))] := hD
  refine lv_dup hx hb d_x_init_8 rfl ?_
  have hFc := va_free (wc := [(q1, .inr (1, [.null, .null, .int 0, .long 0, .long 0]))]) hD hS hA [1] rfl
  refine al_I (As := []) (rest := [.ref q1, .ref x]) FX hK (c_g_init l D cA q1 H.size) (hP.sub [1] rfl) (hD.sub [1] (by decide) rfl) kc_g_init km_x_9 ki_g ks_g_init rfl rfl ok_g_init ⟨Nat.le_of_ble_eq_true rfl, Nat.le_of_ble_eq_true rfl⟩ ⟨Nat.le_of_ble_eq_true rfl, Nat.le_of_ble_eq_true rfl⟩ hl.1 rfl (Nat.le_of_ble_eq_true rfl) d_x_init_9 hS hFc (fun v0 H1 locs hv0 hz0 hk0 hS => ?_)
  obtain ⟨rfl, q2, q3, hP1, hD1⟩ := hv0
  obtain ⟨hP, hD⟩ := va_join (wr := [(x, .inr (0, [.null, .null, .int 0]))]) (w1 := [(q1, .inr (1, [.ref q2, .ref q3, .int 0, .long 0, .long 0])), (q2, .inl (cA 0, 40, .inr (.inl (fun _ => 0)))), (q3, .inl (cA 0, 40, .inr (.inl (fun _ => 0))))]) hP hD [1] [0] rfl rfl (by decide) (by decide) hk0 hFc hP1 hD1
  have hP : va_P D classes [(x, .inr (0, [.null, .null, .int 0])), (q1, .inr (1, [.ref q2, .ref q3, .int 0, .long 0, .long 0])), (q2, .inl (cA 0, 40, .inr (.inl (fun _ => 0)))), (q3, .inl (cA 0, 40, .inr (.inl (fun _ => 0))))] H1 := hP
  have hD : va_D A [(x, .inr (0, [.null, .null, .int 0])), (q1, .inr (1, [.ref q2, .ref q3, .int 0, .long 0, .long 0])), (q2, .inl (cA 0, 40, .inr (.inl (fun _ => 0)))), (q3, .inl (cA 0, 40, .inr (.inl (fun _ => 0))))] := hD
  generalize H1 = H at hP hS ⊢
  refine W.eq (g2 := F0 m 12 ls [.ref q1, .ref x]) rfl ?_
  refine va_putF (D := D) (v := .ref q1) (ty := (.object "CulpritSearch$Graph")) hx hb hts i_x t_x t_x_ok n_x hown hK.1 hP hD hS 0 rfl rfl 0 (by decide) (hts _ kf_x_10) (fun _ h9 => h9) rfl hin rfl (by decide +kernel) rfl rfl (Nat.le_of_ble_eq_true rfl) d_x_init_12 (fun H locs hP hD hS => ?_)
  have hP : va_P D classes [(x, .inr (0, [.ref q1, .null, .int 0])), (q1, .inr (1, [.ref q2, .ref q3, .int 0, .long 0, .long 0])), (q2, .inl (cA 0, 40, .inr (.inl (fun _ => 0)))), (q3, .inl (cA 0, 40, .inr (.inl (fun _ => 0))))] H := hP
  have hD : va_D A [(x, .inr (0, [.ref q1, .null, .int 0])), (q1, .inr (1, [.ref q2, .ref q3, .int 0, .long 0, .long 0])), (q2, .inl (cA 0, 40, .inr (.inl (fun _ => 0)))), (q3, .inl (cA 0, 40, .inr (.inl (fun _ => 0))))] := hD
  refine lv_aload_n hx hb d_x_init_15 rfl (lv_at hl 0 rfl) ?_
  refine lv_iconst (v := 4) hx hb d_x_init_16 (by decide) ?_
  refine va_newq hx hb hown (hts _ kk_x_16) (hK.2.2 "CulpritSearch$Target" (by decide)) hK.1 hP hD hS hA (n := 4) (N' := 4) (by decide) rfl (by decide) (Nat.le_of_ble_eq_true rfl) (Nat.le_of_ble_eq_true rfl) d_x_init_17 (fun q4 cL H hKK hP hD hS => ?_)
  obtain rfl := arr_same 1 rfl hK hKK (fun _ _ => ra_obj)
  have hP : va_P D classes [(x, .inr (0, [.ref q1, .null, .int 0])), (q1, .inr (1, [.ref q2, .ref q3, .int 0, .long 0, .long 0])), (q2, .inl (cA 0, 40, .inr (.inl (fun _ => 0)))), (q3, .inl (cA 0, 40, .inr (.inl (fun _ => 0)))), (q4, .inl (cA 1, 4, .inr (.inr (.inr (.inr (fun _ => none))))))] H := hP
  have hD : va_D A [(x, .inr (0, [.ref q1, .null, .int 0])), (q1, .inr (1, [.ref q2, .ref q3, .int 0, .long 0, .long 0])), (q2, .inl (cA 0, 40, .inr (.inl (fun _ => 0)))), (q3, .inl (cA 0, 40, .inr (.inl (fun _ => 0)))), (q4, .inl (cA 1, 4, .inr (.inr (.inr (.inr (fun _ => none))))))] := hD
  refine va_putF (D := D) (v := .ref q4) (ty := (.array (.object "CulpritSearch$Target"))) hx hb hts i_x t_x t_x_ok n_x hown hK.1 hP hD hS 0 rfl rfl 1 (by decide) (hts _ kf_x_18) (fun _ h9 => h9) rfl hin rfl (by decide +kernel) rfl rfl (Nat.le_of_ble_eq_true rfl) d_x_init_20 (fun H locs hP hD hS => ?_)
  have hP : va_P D classes [(x, .inr (0, [.ref q1, .ref q4, .int 0])), (q1, .inr (1, [.ref q2, .ref q3, .int 0, .long 0, .long 0])), (q2, .inl (cA 0, 40, .inr (.inl (fun _ => 0)))), (q3, .inl (cA 0, 40, .inr (.inl (fun _ => 0)))), (q4, .inl (cA 1, 4, .inr (.inr (.inr (.inr (fun _ => none))))))] H := hP
  have hD : va_D A [(x, .inr (0, [.ref q1, .ref q4, .int 0])), (q1, .inr (1, [.ref q2, .ref q3, .int 0, .long 0, .long 0])), (q2, .inl (cA 0, 40, .inr (.inl (fun _ => 0)))), (q3, .inl (cA 0, 40, .inr (.inl (fun _ => 0)))), (q4, .inl (cA 1, 4, .inr (.inr (.inr (.inr (fun _ => none))))))] := hD
  refine lv_aload_n hx hb d_x_init_23 rfl (lv_at hl 0 rfl) ?_
  refine lv_iconst (v := 0) hx hb d_x_init_24 (by decide) ?_
  refine va_put (D := D) (v := .int 0) (ty := .int) hx hb hts i_x t_x t_x_ok n_x hown hK.1 hP hD hS 0 rfl rfl 2 (by decide) (hts _ kf_x_22) (fun _ h9 => h9) rfl (by decide +kernel) rfl rfl (Nat.le_of_ble_eq_true rfl) d_x_init_25 (fun H locs hP hD hS => ?_)
  have hP : va_P D classes [(x, .inr (0, [.ref q1, .ref q4, .int 0])), (q1, .inr (1, [.ref q2, .ref q3, .int 0, .long 0, .long 0])), (q2, .inl (cA 0, 40, .inr (.inl (fun _ => 0)))), (q3, .inl (cA 0, 40, .inr (.inl (fun _ => 0)))), (q4, .inl (cA 1, 4, .inr (.inr (.inr (.inr (fun _ => none))))))] H := hP
  have hD : va_D A [(x, .inr (0, [.ref q1, .ref q4, .int 0])), (q1, .inr (1, [.ref q2, .ref q3, .int 0, .long 0, .long 0])), (q2, .inl (cA 0, 40, .inr (.inl (fun _ => 0)))), (q3, .inl (cA 0, 40, .inr (.inl (fun _ => 0)))), (q4, .inl (cA 1, 4, .inr (.inr (.inr (.inr (fun _ => none))))))] := hD
  have hP : va_P D classes [(x, .inr (0, [.ref q1, .ref q4, .int 0])), (q4, .inl (cA 1, 4, .inr (.inr (.inr (.inr (fun _ => none)))))), (q1, .inr (1, [.ref q2, .ref q3, .int 0, .long 0, .long 0])), (q2, .inl (cA 0, 40, .inr (.inl (fun _ => 0)))), (q3, .inl (cA 0, 40, .inr (.inl (fun _ => 0))))] H := hP.sub [0, 4, 1, 2, 3] rfl
  have hD : va_D A [(x, .inr (0, [.ref q1, .ref q4, .int 0])), (q4, .inl (cA 1, 4, .inr (.inr (.inr (.inr (fun _ => none)))))), (q1, .inr (1, [.ref q2, .ref q3, .int 0, .long 0, .long 0])), (q2, .inl (cA 0, 40, .inr (.inl (fun _ => 0)))), (q3, .inl (cA 0, 40, .inr (.inl (fun _ => 0))))] := hD.sub [0, 4, 1, 2, 3] (by decide) rfl
  exact mu_vret FX hS ⟨rfl, q4, q1, q2, q3, hP, hD⟩ d_x_init_28
theorem d_x_targetAt_0 : decode b_x_targetAt 0 = .ok (.iload_n 1, 1) := by decide +kernel
theorem d_x_targetAt_1 : decode b_x_targetAt 1 = .ok (.ifCond .lt 20, 3) := by decide +kernel
theorem d_x_targetAt_4 : decode b_x_targetAt 4 = .ok (.iload_n 1, 1) := by decide +kernel
theorem d_x_targetAt_5 : decode b_x_targetAt 5 = .ok (.aload_n 0, 1) := by decide +kernel
theorem d_x_targetAt_6 : decode b_x_targetAt 6 = .ok (.getfield 22, 3) := by decide +kernel
theorem d_x_targetAt_9 : decode b_x_targetAt 9 = .ok (.if_icmp .ge 12, 3) := by decide +kernel
theorem d_x_targetAt_12 : decode b_x_targetAt 12 = .ok (.iload_n 1, 1) := by decide +kernel
theorem d_x_targetAt_13 : decode b_x_targetAt 13 = .ok (.aload_n 0, 1) := by decide +kernel
theorem d_x_targetAt_14 : decode b_x_targetAt 14 = .ok (.getfield 18, 3) := by decide +kernel
theorem d_x_targetAt_17 : decode b_x_targetAt 17 = .ok (.arraylength, 1) := by decide +kernel
theorem d_x_targetAt_18 : decode b_x_targetAt 18 = .ok (.if_icmp .lt 5, 3) := by decide +kernel
theorem d_x_targetAt_21 : decode b_x_targetAt 21 = .ok (.aconst_null, 1) := by decide +kernel
theorem d_x_targetAt_22 : decode b_x_targetAt 22 = .ok (.areturn, 1) := by decide +kernel
theorem d_x_targetAt_23 : decode b_x_targetAt 23 = .ok (.aload_n 0, 1) := by decide +kernel
theorem d_x_targetAt_24 : decode b_x_targetAt 24 = .ok (.getfield 18, 3) := by decide +kernel
theorem d_x_targetAt_27 : decode b_x_targetAt 27 = .ok (.iload_n 1, 1) := by decide +kernel
theorem d_x_targetAt_28 : decode b_x_targetAt 28 = .ok (.aaload, 1) := by decide +kernel
theorem d_x_targetAt_29 : decode b_x_targetAt 29 = .ok (.areturn, 1) := by decide +kernel
def f_x_targetAt (nt : Nat) (nu : Int32) : Option Nat := if nu < 0 then
    (none)
  else
    (if (nI nt) ≤ nu then
      (none)
    else
      (if nu < 4 then
        (some nu.toNatClampNeg)
      else
        (none)))
set_option maxHeartbeats 4000000 in
set_option maxRecDepth 100000 in
theorem c_x_targetAt (l : Launch) (D : va_G) (cA : Nat → ClassId) (ad : Nat → Nat) (nt : Nat) (G : GS) (TT : Nat → TS) (nu : Int32) (hnt : nt ≤ 4) (S : Nat) (hS40 : S ≤ 40) (hsz : G.2.2.1 = nI S) : Met l y_x_targetAt (.code y_x_targetAt b_x_targetAt 2 (some (.object "CulpritSearch$Target")) :: tb) (rmd 0) (Pro D cA [.ref (ad 0), .int nu] (WX D cA ad nt G TT)) (Qro (va_rf ((f_x_targetAt nt nu).map (fun j => ad (5 + 2 * j))))) 0 0 nof := by
  refine ro_in (by decide) (Nat.le_of_ble_eq_true rfl) (fun p e s m below meth c ls FX hnm hK hW hl => ?_)
  have hl : lv_has ls 2 [(0, .ref (ad 0)), (1, .int nu)] := hl
  have hP : va_P D classes [(ad 0, .inr (0, [.ref (ad 2), .ref (ad 1), .int (nI nt)])), (ad 1, .inl (cA 1, 4, .inr (.inr (.inr (.inr (tvf ad nt)))))), (ad 2, .inr (1, [.ref (ad 3), .ref (ad 4), .int G.2.2.1, .long G.2.2.2.1, .long G.2.2.2.2])), (ad 3, .inl (cA 0, 40, .inr (.inl G.1))), (ad 4, .inl (cA 0, 40, .inr (.inl G.2.1)))] s.heap := hW.1
  generalize ([.ref (ad 0), .int nu] : List Value).toArray = args at FX ⊢
  obtain ⟨hx, hb, hml, hown, hts, hr, hlk⟩ := id FX
  refine lv_iload_n hx hb d_x_targetAt_0 rfl (lv_at hl 1 rfl) ?_
  refine lv_if_lt (tgt := 21) hx hb d_x_targetAt_1 (by decide) (fun c1 => ?_) (fun c1 => ?_)
  · have c1 := c1
    refine lv_null hx hb d_x_targetAt_21 ?_
    exact ro_aret FX (by rw [f_x_targetAt, if_pos c1] <;> rfl) d_x_targetAt_22
  · have c1 := c1
    refine lv_iload_n hx hb d_x_targetAt_4 rfl (lv_at hl 1 rfl) ?_
    refine lv_aload_n hx hb d_x_targetAt_5 rfl (lv_at hl 0 rfl) ?_
    refine ro_get (v := .int (nI nt)) FX hK hP 0 2 rfl rfl rfl i_x (by decide) kf_x_22 d_x_targetAt_6 ?_
    refine lv_icmp_ge (tgt := 21) hx hb d_x_targetAt_9 (by decide) (fun c2 => ?_) (fun c2 => ?_)
    · have c2 := c2
      refine lv_null hx hb d_x_targetAt_21 ?_
      exact ro_aret FX (by rw [f_x_targetAt, if_neg c1, if_pos c2] <;> rfl) d_x_targetAt_22
    · have c2 := c2
      refine lv_iload_n hx hb d_x_targetAt_12 rfl (lv_at hl 1 rfl) ?_
      refine lv_aload_n hx hb d_x_targetAt_13 rfl (lv_at hl 0 rfl) ?_
      refine ro_get (v := .ref (ad 1)) FX hK hP 0 1 rfl rfl rfl i_x (by decide) kf_x_18 d_x_targetAt_14 ?_
      refine va_alen (v := 4) hx hb hK.1 hP 1 1 rfl rfl rfl d_x_targetAt_17 ?_
      refine lv_icmp_lt (tgt := 23) hx hb d_x_targetAt_18 (by decide) (fun c3 => ?_) (fun c3 => ?_)
      · have c3 := c3
        refine lv_aload_n hx hb d_x_targetAt_23 rfl (lv_at hl 0 rfl) ?_
        refine ro_get (v := .ref (ad 1)) FX hK hP 0 1 rfl rfl rfl i_x (by decide) kf_x_18 d_x_targetAt_24 ?_
        refine lv_iload_n hx hb d_x_targetAt_27 rfl (lv_at hl 1 rfl) ?_
        refine va_aldq hx hb hK.1 hP 1 1 rfl rfl (vin3 c1 c3) d_x_targetAt_28 ?_
        exact ro_aret FX (by rw [f_x_targetAt, if_neg c1, if_neg c2, if_pos c3, tvf_at hnt c1 c2] <;> rfl) d_x_targetAt_29
      · have c3 := c3
        refine lv_null hx hb d_x_targetAt_21 ?_
        exact ro_aret FX (by rw [f_x_targetAt, if_neg c1, if_neg c2, if_neg c3] <;> rfl) d_x_targetAt_22
theorem ta_lt {nt j : Nat} {nu : Int32} (hnt : nt ≤ 4) (h : f_x_targetAt nt nu = some j) : j < nt := by
  unfold f_x_targetAt at h
  by_cases h0 : nu < 0
  · rw [if_pos h0] at h; cases h
  · rw [if_neg h0] at h
    by_cases h1 : nI nt ≤ nu
    · rw [if_pos h1] at h; cases h
    · rw [if_neg h1] at h
      by_cases h2 : nu < 4
      · rw [if_pos h2] at h
        obtain ⟨i, hi, e⟩ := nI_of h0
        have h3 : i < nt := k_lt e rfl h1 hi
        subst e
        rw [nI_clamp hi] at h
        cases h
        exact h3
      · rw [if_neg h2] at h; cases h
theorem d_x_searchAt_0 : decode b_x_searchAt 0 = .ok (.aload_n 0, 1) := by decide +kernel
theorem d_x_searchAt_1 : decode b_x_searchAt 1 = .ok (.iload_n 1, 1) := by decide +kernel
theorem d_x_searchAt_2 : decode b_x_searchAt 2 = .ok (.invokevirtual 51, 3) := by decide +kernel
theorem d_x_searchAt_5 : decode b_x_searchAt 5 = .ok (.astore_n 2, 1) := by decide +kernel
theorem d_x_searchAt_6 : decode b_x_searchAt 6 = .ok (.aload_n 2, 1) := by decide +kernel
theorem d_x_searchAt_7 : decode b_x_searchAt 7 = .ok (.ifnull 14, 3) := by decide +kernel
theorem d_x_searchAt_10 : decode b_x_searchAt 10 = .ok (.aload_n 2, 1) := by decide +kernel
theorem d_x_searchAt_11 : decode b_x_searchAt 11 = .ok (.invokevirtual 55, 3) := by decide +kernel
theorem d_x_searchAt_14 : decode b_x_searchAt 14 = .ok (.ifCond .eq 7, 3) := by decide +kernel
theorem d_x_searchAt_17 : decode b_x_searchAt 17 = .ok (.aload_n 2, 1) := by decide +kernel
theorem d_x_searchAt_18 : decode b_x_searchAt 18 = .ok (.goto 4, 3) := by decide +kernel
theorem d_x_searchAt_21 : decode b_x_searchAt 21 = .ok (.aconst_null, 1) := by decide +kernel
theorem d_x_searchAt_22 : decode b_x_searchAt 22 = .ok (.areturn, 1) := by decide +kernel
def f_x_searchAt (nt : Nat) (TT : Nat → TS) (nu : Int32) : Option Nat := om (f_x_targetAt nt nu)
    (none)
    (fun j => if (f_t_isSearched ((TT j).2.2.1)) = true then
      (some j)
    else
      (none))
set_option maxHeartbeats 4000000 in
set_option maxRecDepth 100000 in
theorem c_x_searchAt (l : Launch) (D : va_G) (cA : Nat → ClassId) (ad : Nat → Nat) (nt : Nat) (G : GS) (TT : Nat → TS) (nu : Int32) (hnt : nt ≤ 4) (S : Nat) (hS40 : S ≤ 40) (hsz : G.2.2.1 = nI S) : Met l y_x_searchAt (.code y_x_searchAt b_x_searchAt 3 (some (.object "CulpritSearch$Target")) :: tb) (rmd 1) (Pro D cA [.ref (ad 0), .int nu] (WX D cA ad nt G TT)) (Qro (va_rf ((f_x_searchAt nt TT nu).map (fun j => ad (5 + 2 * j))))) 0 0 nof := by
  refine ro_in (by decide) (Nat.le_of_ble_eq_true rfl) (fun p e s m below meth c ls FX hnm hK hW hl => ?_)
  have hl : lv_has ls 3 [(0, .ref (ad 0)), (1, .int nu)] := hl
  have hP : va_P D classes [(ad 0, .inr (0, [.ref (ad 2), .ref (ad 1), .int (nI nt)])), (ad 1, .inl (cA 1, 4, .inr (.inr (.inr (.inr (tvf ad nt)))))), (ad 2, .inr (1, [.ref (ad 3), .ref (ad 4), .int G.2.2.1, .long G.2.2.2.1, .long G.2.2.2.2])), (ad 3, .inl (cA 0, 40, .inr (.inl G.1))), (ad 4, .inl (cA 0, 40, .inr (.inl G.2.1)))] s.heap := hW.1
  generalize ([.ref (ad 0), .int nu] : List Value).toArray = args at FX ⊢
  obtain ⟨hx, hb, hml, hown, hts, hr, hlk⟩ := id FX
  refine lv_aload_n hx hb d_x_searchAt_0 rfl (lv_at hl 0 rfl) ?_
  refine lv_iload_n hx hb d_x_searchAt_1 rfl (lv_at hl 1 rfl) ?_
  refine ro_V (v := va_rf ((f_x_targetAt nt nu).map (fun j => ad (5 + 2 * j)))) (As := [.int nu]) (rest := []) (q0 := 0) FX hK (c_x_targetAt l D cA ad nt G TT nu hnt S hS40 hsz) hW hP rfl rfl rfl kc_x_targetAt km_x_51 ki_x ks_x_targetAt ke_x_targetAt rfl ok_x_targetAt ⟨Nat.le_of_ble_eq_true rfl, Nat.le_of_ble_eq_true rfl⟩ ⟨Nat.zero_le _, Nat.zero_le _⟩ hl.1 rfl (Nat.le_of_ble_eq_true rfl) d_x_searchAt_2 ?_
  cases hq1 : (f_x_targetAt nt nu) with
  | none =>
    refine W.eq (g2 := F0 m 5 ls [.null]) rfl ?_
    refine lv_astore_nN (lv' := [(2, .null), (0, .ref (ad 0)), (1, .int nu)]) hx hb d_x_searchAt_5 rfl hl (by decide) rfl (fun ls hl => ?_)
    refine lv_aload_nN hx hb d_x_searchAt_6 rfl (lv_at hl 0 rfl) ?_
    refine lv_ifnullN (tgt := 21) hx hb d_x_searchAt_7 (by decide) ?_
    refine lv_null hx hb d_x_searchAt_21 ?_
    exact ro_aret FX (by rw [f_x_searchAt, om_none hq1] <;> rfl) d_x_searchAt_22
  | some j =>
    have hj : j < nt := ta_lt hnt hq1
    have hP : va_P D classes [(ad (5 + 2 * j), .inr (2, [.ref (ad 2), .ref (ad (6 + 2 * j)), .long ((TT j).1), .long ((TT j).2.1), .int (bz (TT j).2.2.1), .int ((TT j).2.2.2.1), .int ((TT j).2.2.2.2.1), .int ((TT j).2.2.2.2.2.1), .int ((TT j).2.2.2.2.2.2.1), .int ((TT j).2.2.2.2.2.2.2.1), .int ((TT j).2.2.2.2.2.2.2.2.1)])), (ad (6 + 2 * j), .inl (cA 0, 40, .inr (.inl ((TT j).2.2.2.2.2.2.2.2.2)))), (ad 0, .inr (0, [.ref (ad 2), .ref (ad 1), .int (nI nt)])), (ad 1, .inl (cA 1, 4, .inr (.inr (.inr (.inr (tvf ad nt)))))), (ad 2, .inr (1, [.ref (ad 3), .ref (ad 4), .int G.2.2.1, .long G.2.2.2.1, .long G.2.2.2.2])), (ad 3, .inl (cA 0, 40, .inr (.inl G.1))), (ad 4, .inl (cA 0, 40, .inr (.inl G.2.1)))] s.heap := (hW.2 j hj).app hP
    refine W.eq (g2 := F0 m 5 ls [.ref (ad (5 + 2 * j))]) rfl ?_
    refine lv_astore_n (lv' := [(2, .ref (ad (5 + 2 * j))), (0, .ref (ad 0)), (1, .int nu)]) hx hb d_x_searchAt_5 rfl hl (by decide) rfl (fun ls hl => ?_)
    refine lv_aload_n hx hb d_x_searchAt_6 rfl (lv_at hl 0 rfl) ?_
    refine lv_ifnull hx hb d_x_searchAt_7 ?_
    refine lv_aload_n hx hb d_x_searchAt_10 rfl (lv_at hl 0 rfl) ?_
    refine ro_V (v := .int (bz (f_t_isSearched ((TT j).2.2.1)))) (As := []) (rest := []) (q0 := 0) FX hK (c_t_isSearched l D cA (ad (5 + 2 * j)) (ad (6 + 2 * j)) ((TT j).1) ((TT j).2.1) ((TT j).2.2.1) ((TT j).2.2.2.1) ((TT j).2.2.2.2.1) ((TT j).2.2.2.2.2.1) ((TT j).2.2.2.2.2.2.1) ((TT j).2.2.2.2.2.2.2.1) ((TT j).2.2.2.2.2.2.2.2.1) ((TT j).2.2.2.2.2.2.2.2.2) (ad 2) (ad 3) (ad 4) G.1 G.2.1 G.2.2.1 G.2.2.2.1 G.2.2.2.2) (hP.sub [0, 1, 4, 5, 6] rfl) hP rfl rfl rfl kc_t_isSearched km_x_55 ki_t ks_t_isSearched ke_t_isSearched rfl ok_t_isSearched ⟨Nat.le_of_ble_eq_true rfl, Nat.le_of_ble_eq_true rfl⟩ ⟨Nat.zero_le _, Nat.zero_le _⟩ hl.1 rfl (Nat.le_of_ble_eq_true rfl) d_x_searchAt_11 ?_
    refine lv_if_eq (tgt := 21) hx hb d_x_searchAt_14 (by decide) (fun c2 => ?_) (fun c2 => ?_)
    · have c2 := bz_f c2
      refine lv_null hx hb d_x_searchAt_21 ?_
      exact ro_aret FX (by rw [f_x_searchAt, om_some hq1, if_neg c2] <;> rfl) d_x_searchAt_22
    · have c2 := bz_t c2
      refine lv_aload_n hx hb d_x_searchAt_17 rfl (lv_at hl 0 rfl) ?_
      refine lv_goto (tgt := 22) hx hb d_x_searchAt_18 (by decide) ?_
      exact ro_aret FX (by rw [f_x_searchAt, om_some hq1, if_pos c2] <;> rfl) d_x_searchAt_22
theorem sa_lt {nt j : Nat} {TT : Nat → TS} {nu : Int32} (hnt : nt ≤ 4) (h : f_x_searchAt nt TT nu = some j) : j < nt := by
  unfold f_x_searchAt at h
  cases hq : f_x_targetAt nt nu with
  | none => rw [om_none hq] at h; cases h
  | some i =>
    rw [om_some hq] at h
    by_cases h1 : f_t_isSearched (TT i).2.2.1 = true
    · rw [if_pos h1] at h
      cases h
      exact ta_lt hnt hq
    · rw [if_neg h1] at h; cases h
theorem d_x_has_0 : decode b_x_has 0 = .ok (.aload_n 0, 1) := by decide +kernel
theorem d_x_has_1 : decode b_x_has 1 = .ok (.getfield 10, 3) := by decide +kernel
theorem d_x_has_4 : decode b_x_has 4 = .ok (.iload_n 2, 1) := by decide +kernel
theorem d_x_has_5 : decode b_x_has 5 = .ok (.invokevirtual 38, 3) := by decide +kernel
theorem d_x_has_8 : decode b_x_has 8 = .ok (.ifCond .eq 22, 3) := by decide +kernel
theorem d_x_has_11 : decode b_x_has 11 = .ok (.aload_n 0, 1) := by decide +kernel
theorem d_x_has_12 : decode b_x_has 12 = .ok (.getfield 10, 3) := by decide +kernel
theorem d_x_has_15 : decode b_x_has 15 = .ok (.iload_n 1, 1) := by decide +kernel
theorem d_x_has_16 : decode b_x_has 16 = .ok (.invokevirtual 41, 3) := by decide +kernel
theorem d_x_has_19 : decode b_x_has 19 = .ok (.iload_n 2, 1) := by decide +kernel
theorem d_x_has_20 : decode b_x_has 20 = .ok (.invokestatic 44, 3) := by decide +kernel
theorem d_x_has_23 : decode b_x_has 23 = .ok (.ifCond .eq 7, 3) := by decide +kernel
theorem d_x_has_26 : decode b_x_has 26 = .ok (.iconst 1, 1) := by decide +kernel
theorem d_x_has_27 : decode b_x_has 27 = .ok (.goto 4, 3) := by decide +kernel
theorem d_x_has_30 : decode b_x_has 30 = .ok (.iconst 0, 1) := by decide +kernel
theorem d_x_has_31 : decode b_x_has 31 = .ok (.ireturn, 1) := by decide +kernel
def f_x_has (G : GS) (ch : Int32) (ot : Int32) : Bool := if (f_g_holds G.2.2.1 ot) = true then
    (if (f_x_contains (f_g_reach G.2.1 G.2.2.1 ch) ot) = true then
      (true)
    else
      (false))
  else
    (false)
set_option maxHeartbeats 4000000 in
set_option maxRecDepth 100000 in
theorem c_x_has (l : Launch) (D : va_G) (cA : Nat → ClassId) (ad : Nat → Nat) (nt : Nat) (G : GS) (TT : Nat → TS) (ch : Int32) (ot : Int32) (hnt : nt ≤ 4) (S : Nat) (hS40 : S ≤ 40) (hsz : G.2.2.1 = nI S) : Met l y_x_has (.code y_x_has b_x_has 3 (some .boolean) :: tb) (rmd 3) (Pro D cA [.ref (ad 0), .int ch, .int ot] (WX D cA ad nt G TT)) (Qro (.int (bz (f_x_has G ch ot)))) 0 0 nof := by
  refine ro_in (by decide) (Nat.le_of_ble_eq_true rfl) (fun p e s m below meth c ls FX hnm hK hW hl => ?_)
  have hl : lv_has ls 3 [(0, .ref (ad 0)), (1, .int ch), (2, .int ot)] := hl
  have hP : va_P D classes [(ad 0, .inr (0, [.ref (ad 2), .ref (ad 1), .int (nI nt)])), (ad 1, .inl (cA 1, 4, .inr (.inr (.inr (.inr (tvf ad nt)))))), (ad 2, .inr (1, [.ref (ad 3), .ref (ad 4), .int G.2.2.1, .long G.2.2.2.1, .long G.2.2.2.2])), (ad 3, .inl (cA 0, 40, .inr (.inl G.1))), (ad 4, .inl (cA 0, 40, .inr (.inl G.2.1)))] s.heap := hW.1
  generalize ([.ref (ad 0), .int ch, .int ot] : List Value).toArray = args at FX ⊢
  obtain ⟨hx, hb, hml, hown, hts, hr, hlk⟩ := id FX
  refine lv_aload_n hx hb d_x_has_0 rfl (lv_at hl 0 rfl) ?_
  refine ro_get (v := .ref (ad 2)) FX hK hP 0 0 rfl rfl rfl i_x (by decide) kf_x_10 d_x_has_1 ?_
  refine lv_iload_n hx hb d_x_has_4 rfl (lv_at hl 2 rfl) ?_
  refine ro_V (v := .int (bz (f_g_holds G.2.2.1 ot))) (As := [.int ot]) (rest := []) (q0 := 2) FX hK (c_g_holds l D cA (ad 2) (ad 3) (ad 4) G.1 G.2.1 G.2.2.1 G.2.2.2.1 G.2.2.2.2 ot) (hP.sub [2, 3, 4] rfl) hP rfl rfl rfl kc_g_holds km_x_38 ki_g ks_g_holds ke_g_holds rfl ok_g_holds ⟨Nat.le_of_ble_eq_true rfl, Nat.le_of_ble_eq_true rfl⟩ ⟨Nat.zero_le _, Nat.zero_le _⟩ hl.1 rfl (Nat.le_of_ble_eq_true rfl) d_x_has_5 ?_
  refine lv_if_eq (tgt := 30) hx hb d_x_has_8 (by decide) (fun c1 => ?_) (fun c1 => ?_)
  · have c1 := bz_f c1
    refine lv_iconst (v := 0) hx hb d_x_has_30 (by decide) ?_
    exact ro_zret FX (by rw [f_x_has, if_neg c1] <;> rfl) d_x_has_31
  · have c1 := bz_t c1
    refine lv_aload_n hx hb d_x_has_11 rfl (lv_at hl 0 rfl) ?_
    refine ro_get (v := .ref (ad 2)) FX hK hP 0 0 rfl rfl rfl i_x (by decide) kf_x_10 d_x_has_12 ?_
    refine lv_iload_n hx hb d_x_has_15 rfl (lv_at hl 1 rfl) ?_
    refine ro_V (v := .long (f_g_reach G.2.1 G.2.2.1 ch)) (As := [.int ch]) (rest := []) (q0 := 2) FX hK (c_g_reach l D cA (ad 2) (ad 3) (ad 4) G.1 G.2.1 G.2.2.1 G.2.2.2.1 G.2.2.2.2 ch) (hP.sub [2, 3, 4] rfl) hP rfl rfl rfl kc_g_reach km_x_41 ki_g ks_g_reach ke_g_reach rfl ok_g_reach ⟨Nat.le_of_ble_eq_true rfl, Nat.le_of_ble_eq_true rfl⟩ ⟨Nat.zero_le _, Nat.zero_le _⟩ hl.1 rfl (Nat.le_of_ble_eq_true rfl) d_x_has_16 ?_
    refine lv_iload_n hx hb d_x_has_19 rfl (lv_at hl 2 rfl) ?_
    refine ro_S (v := .int (bz (f_x_contains (f_g_reach G.2.1 G.2.2.1 ch) ot))) (As := [.long (f_g_reach G.2.1 G.2.2.1 ch), .int ot]) (rest := []) FX hK (c_x_contains l D cA (f_g_reach G.2.1 G.2.2.1 ch) ot) trivial kc_x_contains km_x_44 ki_x ks_x_contains rfl ok_x_contains ⟨Nat.le_of_ble_eq_true rfl, Nat.le_of_ble_eq_true rfl⟩ ⟨Nat.zero_le _, Nat.zero_le _⟩ hl.1 rfl (Nat.le_of_ble_eq_true rfl) d_x_has_20 ?_
    refine lv_if_eq (tgt := 30) hx hb d_x_has_23 (by decide) (fun c2 => ?_) (fun c2 => ?_)
    · have c2 := bz_f c2
      refine lv_iconst (v := 0) hx hb d_x_has_30 (by decide) ?_
      exact ro_zret FX (by rw [f_x_has, if_pos c1, if_neg c2] <;> rfl) d_x_has_31
    · have c2 := bz_t c2
      refine lv_iconst (v := 1) hx hb d_x_has_26 (by decide) ?_
      refine lv_goto (tgt := 31) hx hb d_x_has_27 (by decide) ?_
      exact ro_zret FX (by rw [f_x_has, if_pos c1, if_pos c2] <;> rfl) d_x_has_31
theorem d_x_state_0 : decode b_x_state 0 = .ok (.aload_n 0, 1) := by decide +kernel
theorem d_x_state_1 : decode b_x_state 1 = .ok (.iload_n 1, 1) := by decide +kernel
theorem d_x_state_2 : decode b_x_state 2 = .ok (.invokevirtual 76, 3) := by decide +kernel
theorem d_x_state_5 : decode b_x_state 5 = .ok (.astore_n 2, 1) := by decide +kernel
theorem d_x_state_6 : decode b_x_state 6 = .ok (.aload_n 2, 1) := by decide +kernel
theorem d_x_state_7 : decode b_x_state 7 = .ok (.ifnonnull 7, 3) := by decide +kernel
theorem d_x_state_10 : decode b_x_state 10 = .ok (.iconst (-1), 1) := by decide +kernel
theorem d_x_state_11 : decode b_x_state 11 = .ok (.goto 7, 3) := by decide +kernel
theorem d_x_state_14 : decode b_x_state 14 = .ok (.aload_n 2, 1) := by decide +kernel
theorem d_x_state_15 : decode b_x_state 15 = .ok (.invokevirtual 82, 3) := by decide +kernel
theorem d_x_state_18 : decode b_x_state 18 = .ok (.ireturn, 1) := by decide +kernel
def f_x_state (nt : Nat) (G : GS) (TT : Nat → TS) (ta : Int32) : Int32 := om (f_x_searchAt nt TT ta)
    ((-1))
    (fun j => f_t_standing ((TT j).2.2.2.2.2.2.1) ((TT j).2.2.2.2.2.2.2.1) ((TT j).2.2.2.2.2.2.2.2.2) G.2.1 G.2.2.1 G.2.2.2.1 G.2.2.2.2)
set_option maxHeartbeats 4000000 in
set_option maxRecDepth 100000 in
theorem c_x_state (l : Launch) (D : va_G) (cA : Nat → ClassId) (ad : Nat → Nat) (nt : Nat) (G : GS) (TT : Nat → TS) (ta : Int32) (hnt : nt ≤ 4) (S : Nat) (hS40 : S ≤ 40) (hsz : G.2.2.1 = nI S) : Met l y_x_state (.code y_x_state b_x_state 3 (some .int) :: tb) (rmd 5) (Pro D cA [.ref (ad 0), .int ta] (WX D cA ad nt G TT)) (Qro (.int (f_x_state nt G TT ta))) 0 0 nof := by
  refine ro_in (by decide) (Nat.le_of_ble_eq_true rfl) (fun p e s m below meth c ls FX hnm hK hW hl => ?_)
  have hl : lv_has ls 3 [(0, .ref (ad 0)), (1, .int ta)] := hl
  have hP : va_P D classes [(ad 0, .inr (0, [.ref (ad 2), .ref (ad 1), .int (nI nt)])), (ad 1, .inl (cA 1, 4, .inr (.inr (.inr (.inr (tvf ad nt)))))), (ad 2, .inr (1, [.ref (ad 3), .ref (ad 4), .int G.2.2.1, .long G.2.2.2.1, .long G.2.2.2.2])), (ad 3, .inl (cA 0, 40, .inr (.inl G.1))), (ad 4, .inl (cA 0, 40, .inr (.inl G.2.1)))] s.heap := hW.1
  generalize ([.ref (ad 0), .int ta] : List Value).toArray = args at FX ⊢
  obtain ⟨hx, hb, hml, hown, hts, hr, hlk⟩ := id FX
  refine lv_aload_n hx hb d_x_state_0 rfl (lv_at hl 0 rfl) ?_
  refine lv_iload_n hx hb d_x_state_1 rfl (lv_at hl 1 rfl) ?_
  refine ro_V (v := va_rf ((f_x_searchAt nt TT ta).map (fun j => ad (5 + 2 * j)))) (As := [.int ta]) (rest := []) (q0 := 0) FX hK (c_x_searchAt l D cA ad nt G TT ta hnt S hS40 hsz) hW hP rfl rfl rfl kc_x_searchAt km_x_76 ki_x ks_x_searchAt ke_x_searchAt rfl ok_x_searchAt ⟨Nat.le_of_ble_eq_true rfl, Nat.le_of_ble_eq_true rfl⟩ ⟨Nat.zero_le _, Nat.zero_le _⟩ hl.1 rfl (Nat.le_of_ble_eq_true rfl) d_x_state_2 ?_
  cases hq1 : (f_x_searchAt nt TT ta) with
  | none =>
    refine W.eq (g2 := F0 m 5 ls [.null]) rfl ?_
    refine lv_astore_nN (lv' := [(2, .null), (0, .ref (ad 0)), (1, .int ta)]) hx hb d_x_state_5 rfl hl (by decide) rfl (fun ls hl => ?_)
    refine lv_aload_nN hx hb d_x_state_6 rfl (lv_at hl 0 rfl) ?_
    refine lv_ifnonnullN hx hb d_x_state_7 ?_
    refine lv_iconst (v := (-1)) hx hb d_x_state_10 (by decide) ?_
    refine lv_goto (tgt := 18) hx hb d_x_state_11 (by decide) ?_
    exact ro_iret FX (by rw [f_x_state, om_none hq1]) d_x_state_18
  | some j =>
    have hj : j < nt := sa_lt hnt hq1
    have hP : va_P D classes [(ad (5 + 2 * j), .inr (2, [.ref (ad 2), .ref (ad (6 + 2 * j)), .long ((TT j).1), .long ((TT j).2.1), .int (bz (TT j).2.2.1), .int ((TT j).2.2.2.1), .int ((TT j).2.2.2.2.1), .int ((TT j).2.2.2.2.2.1), .int ((TT j).2.2.2.2.2.2.1), .int ((TT j).2.2.2.2.2.2.2.1), .int ((TT j).2.2.2.2.2.2.2.2.1)])), (ad (6 + 2 * j), .inl (cA 0, 40, .inr (.inl ((TT j).2.2.2.2.2.2.2.2.2)))), (ad 0, .inr (0, [.ref (ad 2), .ref (ad 1), .int (nI nt)])), (ad 1, .inl (cA 1, 4, .inr (.inr (.inr (.inr (tvf ad nt)))))), (ad 2, .inr (1, [.ref (ad 3), .ref (ad 4), .int G.2.2.1, .long G.2.2.2.1, .long G.2.2.2.2])), (ad 3, .inl (cA 0, 40, .inr (.inl G.1))), (ad 4, .inl (cA 0, 40, .inr (.inl G.2.1)))] s.heap := (hW.2 j hj).app hP
    refine W.eq (g2 := F0 m 5 ls [.ref (ad (5 + 2 * j))]) rfl ?_
    refine lv_astore_n (lv' := [(2, .ref (ad (5 + 2 * j))), (0, .ref (ad 0)), (1, .int ta)]) hx hb d_x_state_5 rfl hl (by decide) rfl (fun ls hl => ?_)
    refine lv_aload_n hx hb d_x_state_6 rfl (lv_at hl 0 rfl) ?_
    refine lv_ifnonnull (tgt := 14) hx hb d_x_state_7 (by decide) ?_
    refine lv_aload_n hx hb d_x_state_14 rfl (lv_at hl 0 rfl) ?_
    refine ro_V (v := .int (f_t_standing ((TT j).2.2.2.2.2.2.1) ((TT j).2.2.2.2.2.2.2.1) ((TT j).2.2.2.2.2.2.2.2.2) G.2.1 G.2.2.1 G.2.2.2.1 G.2.2.2.2)) (As := []) (rest := []) (q0 := 0) FX hK (c_t_standing l D cA (ad (5 + 2 * j)) (ad (6 + 2 * j)) ((TT j).1) ((TT j).2.1) ((TT j).2.2.1) ((TT j).2.2.2.1) ((TT j).2.2.2.2.1) ((TT j).2.2.2.2.2.1) ((TT j).2.2.2.2.2.2.1) ((TT j).2.2.2.2.2.2.2.1) ((TT j).2.2.2.2.2.2.2.2.1) ((TT j).2.2.2.2.2.2.2.2.2) (ad 2) (ad 3) (ad 4) G.1 G.2.1 G.2.2.1 G.2.2.2.1 G.2.2.2.2 S hS40 hsz) (hP.sub [0, 1, 4, 5, 6] rfl) hP rfl rfl rfl kc_t_standing km_x_82 ki_t ks_t_standing ke_t_standing rfl ok_t_standing ⟨Nat.le_of_ble_eq_true rfl, Nat.le_of_ble_eq_true rfl⟩ ⟨Nat.zero_le _, Nat.zero_le _⟩ hl.1 rfl (Nat.le_of_ble_eq_true rfl) d_x_state_15 ?_
    exact ro_iret FX (by rw [f_x_state, om_some hq1]) d_x_state_18
theorem d_x_next_0 : decode b_x_next 0 = .ok (.aload_n 0, 1) := by decide +kernel
theorem d_x_next_1 : decode b_x_next 1 = .ok (.iload_n 1, 1) := by decide +kernel
theorem d_x_next_2 : decode b_x_next 2 = .ok (.invokevirtual 76, 3) := by decide +kernel
theorem d_x_next_5 : decode b_x_next 5 = .ok (.astore_n 2, 1) := by decide +kernel
theorem d_x_next_6 : decode b_x_next 6 = .ok (.aload_n 2, 1) := by decide +kernel
theorem d_x_next_7 : decode b_x_next 7 = .ok (.ifnonnull 7, 3) := by decide +kernel
theorem d_x_next_10 : decode b_x_next 10 = .ok (.iconst (-1), 1) := by decide +kernel
theorem d_x_next_11 : decode b_x_next 11 = .ok (.goto 7, 3) := by decide +kernel
theorem d_x_next_14 : decode b_x_next 14 = .ok (.aload_n 2, 1) := by decide +kernel
theorem d_x_next_15 : decode b_x_next 15 = .ok (.invokevirtual 86, 3) := by decide +kernel
theorem d_x_next_18 : decode b_x_next 18 = .ok (.ireturn, 1) := by decide +kernel
def f_x_next (nt : Nat) (G : GS) (TT : Nat → TS) (ta : Int32) : Int32 := om (f_x_searchAt nt TT ta)
    ((-1))
    (fun j => f_t_asked ((TT j).2.2.2.2.2.2.1) ((TT j).2.2.2.2.2.2.2.1) ((TT j).2.2.2.2.2.2.2.2.2) G.2.1 G.2.2.1 G.2.2.2.1 G.2.2.2.2)
set_option maxHeartbeats 4000000 in
set_option maxRecDepth 100000 in
theorem c_x_next (l : Launch) (D : va_G) (cA : Nat → ClassId) (ad : Nat → Nat) (nt : Nat) (G : GS) (TT : Nat → TS) (ta : Int32) (hnt : nt ≤ 4) (S : Nat) (hS40 : S ≤ 40) (hsz : G.2.2.1 = nI S) : Met l y_x_next (.code y_x_next b_x_next 3 (some .int) :: tb) (rmd 6) (Pro D cA [.ref (ad 0), .int ta] (WX D cA ad nt G TT)) (Qro (.int (f_x_next nt G TT ta))) 0 0 nof := by
  refine ro_in (by decide) (Nat.le_of_ble_eq_true rfl) (fun p e s m below meth c ls FX hnm hK hW hl => ?_)
  have hl : lv_has ls 3 [(0, .ref (ad 0)), (1, .int ta)] := hl
  have hP : va_P D classes [(ad 0, .inr (0, [.ref (ad 2), .ref (ad 1), .int (nI nt)])), (ad 1, .inl (cA 1, 4, .inr (.inr (.inr (.inr (tvf ad nt)))))), (ad 2, .inr (1, [.ref (ad 3), .ref (ad 4), .int G.2.2.1, .long G.2.2.2.1, .long G.2.2.2.2])), (ad 3, .inl (cA 0, 40, .inr (.inl G.1))), (ad 4, .inl (cA 0, 40, .inr (.inl G.2.1)))] s.heap := hW.1
  generalize ([.ref (ad 0), .int ta] : List Value).toArray = args at FX ⊢
  obtain ⟨hx, hb, hml, hown, hts, hr, hlk⟩ := id FX
  refine lv_aload_n hx hb d_x_next_0 rfl (lv_at hl 0 rfl) ?_
  refine lv_iload_n hx hb d_x_next_1 rfl (lv_at hl 1 rfl) ?_
  refine ro_V (v := va_rf ((f_x_searchAt nt TT ta).map (fun j => ad (5 + 2 * j)))) (As := [.int ta]) (rest := []) (q0 := 0) FX hK (c_x_searchAt l D cA ad nt G TT ta hnt S hS40 hsz) hW hP rfl rfl rfl kc_x_searchAt km_x_76 ki_x ks_x_searchAt ke_x_searchAt rfl ok_x_searchAt ⟨Nat.le_of_ble_eq_true rfl, Nat.le_of_ble_eq_true rfl⟩ ⟨Nat.zero_le _, Nat.zero_le _⟩ hl.1 rfl (Nat.le_of_ble_eq_true rfl) d_x_next_2 ?_
  cases hq1 : (f_x_searchAt nt TT ta) with
  | none =>
    refine W.eq (g2 := F0 m 5 ls [.null]) rfl ?_
    refine lv_astore_nN (lv' := [(2, .null), (0, .ref (ad 0)), (1, .int ta)]) hx hb d_x_next_5 rfl hl (by decide) rfl (fun ls hl => ?_)
    refine lv_aload_nN hx hb d_x_next_6 rfl (lv_at hl 0 rfl) ?_
    refine lv_ifnonnullN hx hb d_x_next_7 ?_
    refine lv_iconst (v := (-1)) hx hb d_x_next_10 (by decide) ?_
    refine lv_goto (tgt := 18) hx hb d_x_next_11 (by decide) ?_
    exact ro_iret FX (by rw [f_x_next, om_none hq1]) d_x_next_18
  | some j =>
    have hj : j < nt := sa_lt hnt hq1
    have hP : va_P D classes [(ad (5 + 2 * j), .inr (2, [.ref (ad 2), .ref (ad (6 + 2 * j)), .long ((TT j).1), .long ((TT j).2.1), .int (bz (TT j).2.2.1), .int ((TT j).2.2.2.1), .int ((TT j).2.2.2.2.1), .int ((TT j).2.2.2.2.2.1), .int ((TT j).2.2.2.2.2.2.1), .int ((TT j).2.2.2.2.2.2.2.1), .int ((TT j).2.2.2.2.2.2.2.2.1)])), (ad (6 + 2 * j), .inl (cA 0, 40, .inr (.inl ((TT j).2.2.2.2.2.2.2.2.2)))), (ad 0, .inr (0, [.ref (ad 2), .ref (ad 1), .int (nI nt)])), (ad 1, .inl (cA 1, 4, .inr (.inr (.inr (.inr (tvf ad nt)))))), (ad 2, .inr (1, [.ref (ad 3), .ref (ad 4), .int G.2.2.1, .long G.2.2.2.1, .long G.2.2.2.2])), (ad 3, .inl (cA 0, 40, .inr (.inl G.1))), (ad 4, .inl (cA 0, 40, .inr (.inl G.2.1)))] s.heap := (hW.2 j hj).app hP
    refine W.eq (g2 := F0 m 5 ls [.ref (ad (5 + 2 * j))]) rfl ?_
    refine lv_astore_n (lv' := [(2, .ref (ad (5 + 2 * j))), (0, .ref (ad 0)), (1, .int ta)]) hx hb d_x_next_5 rfl hl (by decide) rfl (fun ls hl => ?_)
    refine lv_aload_n hx hb d_x_next_6 rfl (lv_at hl 0 rfl) ?_
    refine lv_ifnonnull (tgt := 14) hx hb d_x_next_7 (by decide) ?_
    refine lv_aload_n hx hb d_x_next_14 rfl (lv_at hl 0 rfl) ?_
    refine ro_V (v := .int (f_t_asked ((TT j).2.2.2.2.2.2.1) ((TT j).2.2.2.2.2.2.2.1) ((TT j).2.2.2.2.2.2.2.2.2) G.2.1 G.2.2.1 G.2.2.2.1 G.2.2.2.2)) (As := []) (rest := []) (q0 := 0) FX hK (c_t_asked l D cA (ad (5 + 2 * j)) (ad (6 + 2 * j)) ((TT j).1) ((TT j).2.1) ((TT j).2.2.1) ((TT j).2.2.2.1) ((TT j).2.2.2.2.1) ((TT j).2.2.2.2.2.1) ((TT j).2.2.2.2.2.2.1) ((TT j).2.2.2.2.2.2.2.1) ((TT j).2.2.2.2.2.2.2.2.1) ((TT j).2.2.2.2.2.2.2.2.2) (ad 2) (ad 3) (ad 4) G.1 G.2.1 G.2.2.1 G.2.2.2.1 G.2.2.2.2 S hS40 hsz) (hP.sub [0, 1, 4, 5, 6] rfl) hP rfl rfl rfl kc_t_asked km_x_86 ki_t ks_t_asked ke_t_asked rfl ok_t_asked ⟨Nat.le_of_ble_eq_true rfl, Nat.le_of_ble_eq_true rfl⟩ ⟨Nat.zero_le _, Nat.zero_le _⟩ hl.1 rfl (Nat.le_of_ble_eq_true rfl) d_x_next_15 ?_
    exact ro_iret FX (by rw [f_x_next, om_some hq1]) d_x_next_18
theorem d_x_weight_0 : decode b_x_weight 0 = .ok (.aload_n 0, 1) := by decide +kernel
theorem d_x_weight_1 : decode b_x_weight 1 = .ok (.iload_n 1, 1) := by decide +kernel
theorem d_x_weight_2 : decode b_x_weight 2 = .ok (.invokevirtual 76, 3) := by decide +kernel
theorem d_x_weight_5 : decode b_x_weight 5 = .ok (.astore_n 3, 1) := by decide +kernel
theorem d_x_weight_6 : decode b_x_weight 6 = .ok (.aload_n 3, 1) := by decide +kernel
theorem d_x_weight_7 : decode b_x_weight 7 = .ok (.ifnonnull 7, 3) := by decide +kernel
theorem d_x_weight_10 : decode b_x_weight 10 = .ok (.lconst 0, 1) := by decide +kernel
theorem d_x_weight_11 : decode b_x_weight 11 = .ok (.goto 8, 3) := by decide +kernel
theorem d_x_weight_14 : decode b_x_weight 14 = .ok (.aload_n 3, 1) := by decide +kernel
theorem d_x_weight_15 : decode b_x_weight 15 = .ok (.iload_n 2, 1) := by decide +kernel
theorem d_x_weight_16 : decode b_x_weight 16 = .ok (.invokevirtual 97, 3) := by decide +kernel
theorem d_x_weight_19 : decode b_x_weight 19 = .ok (.lreturn, 1) := by decide +kernel
def f_x_weight (nt : Nat) (TT : Nat → TS) (ta : Int32) (ch : Int32) : Int64 := om (f_x_searchAt nt TT ta)
    (0)
    (fun j => f_t_weightOf ((TT j).2.2.2.2.2.2.2.2.2) ch)
set_option maxHeartbeats 4000000 in
set_option maxRecDepth 100000 in
theorem c_x_weight (l : Launch) (D : va_G) (cA : Nat → ClassId) (ad : Nat → Nat) (nt : Nat) (G : GS) (TT : Nat → TS) (ta : Int32) (ch : Int32) (hnt : nt ≤ 4) (S : Nat) (hS40 : S ≤ 40) (hsz : G.2.2.1 = nI S) : Met l y_x_weight (.code y_x_weight b_x_weight 4 (some .long) :: tb) (rmd 2) (Pro D cA [.ref (ad 0), .int ta, .int ch] (WX D cA ad nt G TT)) (Qro (.long (f_x_weight nt TT ta ch))) 0 0 nof := by
  refine ro_in (by decide) (Nat.le_of_ble_eq_true rfl) (fun p e s m below meth c ls FX hnm hK hW hl => ?_)
  have hl : lv_has ls 4 [(0, .ref (ad 0)), (1, .int ta), (2, .int ch)] := hl
  have hP : va_P D classes [(ad 0, .inr (0, [.ref (ad 2), .ref (ad 1), .int (nI nt)])), (ad 1, .inl (cA 1, 4, .inr (.inr (.inr (.inr (tvf ad nt)))))), (ad 2, .inr (1, [.ref (ad 3), .ref (ad 4), .int G.2.2.1, .long G.2.2.2.1, .long G.2.2.2.2])), (ad 3, .inl (cA 0, 40, .inr (.inl G.1))), (ad 4, .inl (cA 0, 40, .inr (.inl G.2.1)))] s.heap := hW.1
  generalize ([.ref (ad 0), .int ta, .int ch] : List Value).toArray = args at FX ⊢
  obtain ⟨hx, hb, hml, hown, hts, hr, hlk⟩ := id FX
  refine lv_aload_n hx hb d_x_weight_0 rfl (lv_at hl 0 rfl) ?_
  refine lv_iload_n hx hb d_x_weight_1 rfl (lv_at hl 1 rfl) ?_
  refine ro_V (v := va_rf ((f_x_searchAt nt TT ta).map (fun j => ad (5 + 2 * j)))) (As := [.int ta]) (rest := []) (q0 := 0) FX hK (c_x_searchAt l D cA ad nt G TT ta hnt S hS40 hsz) hW hP rfl rfl rfl kc_x_searchAt km_x_76 ki_x ks_x_searchAt ke_x_searchAt rfl ok_x_searchAt ⟨Nat.le_of_ble_eq_true rfl, Nat.le_of_ble_eq_true rfl⟩ ⟨Nat.zero_le _, Nat.zero_le _⟩ hl.1 rfl (Nat.le_of_ble_eq_true rfl) d_x_weight_2 ?_
  cases hq1 : (f_x_searchAt nt TT ta) with
  | none =>
    refine W.eq (g2 := F0 m 5 ls [.null]) rfl ?_
    refine lv_astore_nN (lv' := [(3, .null), (0, .ref (ad 0)), (1, .int ta), (2, .int ch)]) hx hb d_x_weight_5 rfl hl (by decide) rfl (fun ls hl => ?_)
    refine lv_aload_nN hx hb d_x_weight_6 rfl (lv_at hl 0 rfl) ?_
    refine lv_ifnonnullN hx hb d_x_weight_7 ?_
    refine lv_lconst (v := 0) hx hb d_x_weight_10 (by decide) ?_
    refine lv_goto (tgt := 19) hx hb d_x_weight_11 (by decide) ?_
    exact ro_lret FX (by rw [f_x_weight, om_none hq1]) d_x_weight_19
  | some j =>
    have hj : j < nt := sa_lt hnt hq1
    have hP : va_P D classes [(ad (5 + 2 * j), .inr (2, [.ref (ad 2), .ref (ad (6 + 2 * j)), .long ((TT j).1), .long ((TT j).2.1), .int (bz (TT j).2.2.1), .int ((TT j).2.2.2.1), .int ((TT j).2.2.2.2.1), .int ((TT j).2.2.2.2.2.1), .int ((TT j).2.2.2.2.2.2.1), .int ((TT j).2.2.2.2.2.2.2.1), .int ((TT j).2.2.2.2.2.2.2.2.1)])), (ad (6 + 2 * j), .inl (cA 0, 40, .inr (.inl ((TT j).2.2.2.2.2.2.2.2.2)))), (ad 0, .inr (0, [.ref (ad 2), .ref (ad 1), .int (nI nt)])), (ad 1, .inl (cA 1, 4, .inr (.inr (.inr (.inr (tvf ad nt)))))), (ad 2, .inr (1, [.ref (ad 3), .ref (ad 4), .int G.2.2.1, .long G.2.2.2.1, .long G.2.2.2.2])), (ad 3, .inl (cA 0, 40, .inr (.inl G.1))), (ad 4, .inl (cA 0, 40, .inr (.inl G.2.1)))] s.heap := (hW.2 j hj).app hP
    refine W.eq (g2 := F0 m 5 ls [.ref (ad (5 + 2 * j))]) rfl ?_
    refine lv_astore_n (lv' := [(3, .ref (ad (5 + 2 * j))), (0, .ref (ad 0)), (1, .int ta), (2, .int ch)]) hx hb d_x_weight_5 rfl hl (by decide) rfl (fun ls hl => ?_)
    refine lv_aload_n hx hb d_x_weight_6 rfl (lv_at hl 0 rfl) ?_
    refine lv_ifnonnull (tgt := 14) hx hb d_x_weight_7 (by decide) ?_
    refine lv_aload_n hx hb d_x_weight_14 rfl (lv_at hl 0 rfl) ?_
    refine lv_iload_n hx hb d_x_weight_15 rfl (lv_at hl 3 rfl) ?_
    refine ro_V (v := .long (f_t_weightOf ((TT j).2.2.2.2.2.2.2.2.2) ch)) (As := [.int ch]) (rest := []) (q0 := 0) FX hK (c_t_weightOf l D cA (ad (5 + 2 * j)) (ad (6 + 2 * j)) ((TT j).1) ((TT j).2.1) ((TT j).2.2.1) ((TT j).2.2.2.1) ((TT j).2.2.2.2.1) ((TT j).2.2.2.2.2.1) ((TT j).2.2.2.2.2.2.1) ((TT j).2.2.2.2.2.2.2.1) ((TT j).2.2.2.2.2.2.2.2.1) ((TT j).2.2.2.2.2.2.2.2.2) (ad 2) (ad 3) (ad 4) G.1 G.2.1 G.2.2.1 G.2.2.2.1 G.2.2.2.2 ch) (hP.sub [0, 1, 4, 5, 6] rfl) hP rfl rfl rfl kc_t_weightOf km_x_97 ki_t ks_t_weightOf ke_t_weightOf rfl ok_t_weightOf ⟨Nat.le_of_ble_eq_true rfl, Nat.le_of_ble_eq_true rfl⟩ ⟨Nat.zero_le _, Nat.zero_le _⟩ hl.1 rfl (Nat.le_of_ble_eq_true rfl) d_x_weight_16 ?_
    exact ro_lret FX (by rw [f_x_weight, om_some hq1]) d_x_weight_19
theorem d_x_part_0 : decode b_x_part 0 = .ok (.aload_n 0, 1) := by decide +kernel
theorem d_x_part_1 : decode b_x_part 1 = .ok (.iload_n 1, 1) := by decide +kernel
theorem d_x_part_2 : decode b_x_part 2 = .ok (.invokevirtual 76, 3) := by decide +kernel
theorem d_x_part_5 : decode b_x_part 5 = .ok (.astore_n 3, 1) := by decide +kernel
theorem d_x_part_6 : decode b_x_part 6 = .ok (.aload_n 3, 1) := by decide +kernel
theorem d_x_part_7 : decode b_x_part 7 = .ok (.ifnonnull 7, 3) := by decide +kernel
theorem d_x_part_10 : decode b_x_part 10 = .ok (.lconst 0, 1) := by decide +kernel
theorem d_x_part_11 : decode b_x_part 11 = .ok (.goto 15, 3) := by decide +kernel
theorem d_x_part_14 : decode b_x_part 14 = .ok (.aload_n 3, 1) := by decide +kernel
theorem d_x_part_15 : decode b_x_part 15 = .ok (.aload_n 0, 1) := by decide +kernel
theorem d_x_part_16 : decode b_x_part 16 = .ok (.getfield 10, 3) := by decide +kernel
theorem d_x_part_19 : decode b_x_part 19 = .ok (.iload_n 2, 1) := by decide +kernel
theorem d_x_part_20 : decode b_x_part 20 = .ok (.invokevirtual 41, 3) := by decide +kernel
theorem d_x_part_23 : decode b_x_part 23 = .ok (.invokevirtual 100, 3) := by decide +kernel
theorem d_x_part_26 : decode b_x_part 26 = .ok (.lreturn, 1) := by decide +kernel
def f_x_part (nt : Nat) (G : GS) (TT : Nat → TS) (ta : Int32) (ch : Int32) : Int64 := om (f_x_searchAt nt TT ta)
    (0)
    (fun j => f_t_weightWithin ((TT j).2.2.2.2.2.2.2.2.2) (f_g_reach G.2.1 G.2.2.1 ch))
set_option maxHeartbeats 4000000 in
set_option maxRecDepth 100000 in
theorem c_x_part (l : Launch) (D : va_G) (cA : Nat → ClassId) (ad : Nat → Nat) (nt : Nat) (G : GS) (TT : Nat → TS) (ta : Int32) (ch : Int32) (hnt : nt ≤ 4) (S : Nat) (hS40 : S ≤ 40) (hsz : G.2.2.1 = nI S) : Met l y_x_part (.code y_x_part b_x_part 4 (some .long) :: tb) (rmd 3) (Pro D cA [.ref (ad 0), .int ta, .int ch] (WX D cA ad nt G TT)) (Qro (.long (f_x_part nt G TT ta ch))) 0 0 nof := by
  refine ro_in (by decide) (Nat.le_of_ble_eq_true rfl) (fun p e s m below meth c ls FX hnm hK hW hl => ?_)
  have hl : lv_has ls 4 [(0, .ref (ad 0)), (1, .int ta), (2, .int ch)] := hl
  have hP : va_P D classes [(ad 0, .inr (0, [.ref (ad 2), .ref (ad 1), .int (nI nt)])), (ad 1, .inl (cA 1, 4, .inr (.inr (.inr (.inr (tvf ad nt)))))), (ad 2, .inr (1, [.ref (ad 3), .ref (ad 4), .int G.2.2.1, .long G.2.2.2.1, .long G.2.2.2.2])), (ad 3, .inl (cA 0, 40, .inr (.inl G.1))), (ad 4, .inl (cA 0, 40, .inr (.inl G.2.1)))] s.heap := hW.1
  generalize ([.ref (ad 0), .int ta, .int ch] : List Value).toArray = args at FX ⊢
  obtain ⟨hx, hb, hml, hown, hts, hr, hlk⟩ := id FX
  refine lv_aload_n hx hb d_x_part_0 rfl (lv_at hl 0 rfl) ?_
  refine lv_iload_n hx hb d_x_part_1 rfl (lv_at hl 1 rfl) ?_
  refine ro_V (v := va_rf ((f_x_searchAt nt TT ta).map (fun j => ad (5 + 2 * j)))) (As := [.int ta]) (rest := []) (q0 := 0) FX hK (c_x_searchAt l D cA ad nt G TT ta hnt S hS40 hsz) hW hP rfl rfl rfl kc_x_searchAt km_x_76 ki_x ks_x_searchAt ke_x_searchAt rfl ok_x_searchAt ⟨Nat.le_of_ble_eq_true rfl, Nat.le_of_ble_eq_true rfl⟩ ⟨Nat.zero_le _, Nat.zero_le _⟩ hl.1 rfl (Nat.le_of_ble_eq_true rfl) d_x_part_2 ?_
  cases hq1 : (f_x_searchAt nt TT ta) with
  | none =>
    refine W.eq (g2 := F0 m 5 ls [.null]) rfl ?_
    refine lv_astore_nN (lv' := [(3, .null), (0, .ref (ad 0)), (1, .int ta), (2, .int ch)]) hx hb d_x_part_5 rfl hl (by decide) rfl (fun ls hl => ?_)
    refine lv_aload_nN hx hb d_x_part_6 rfl (lv_at hl 0 rfl) ?_
    refine lv_ifnonnullN hx hb d_x_part_7 ?_
    refine lv_lconst (v := 0) hx hb d_x_part_10 (by decide) ?_
    refine lv_goto (tgt := 26) hx hb d_x_part_11 (by decide) ?_
    exact ro_lret FX (by rw [f_x_part, om_none hq1]) d_x_part_26
  | some j =>
    have hj : j < nt := sa_lt hnt hq1
    have hP : va_P D classes [(ad (5 + 2 * j), .inr (2, [.ref (ad 2), .ref (ad (6 + 2 * j)), .long ((TT j).1), .long ((TT j).2.1), .int (bz (TT j).2.2.1), .int ((TT j).2.2.2.1), .int ((TT j).2.2.2.2.1), .int ((TT j).2.2.2.2.2.1), .int ((TT j).2.2.2.2.2.2.1), .int ((TT j).2.2.2.2.2.2.2.1), .int ((TT j).2.2.2.2.2.2.2.2.1)])), (ad (6 + 2 * j), .inl (cA 0, 40, .inr (.inl ((TT j).2.2.2.2.2.2.2.2.2)))), (ad 0, .inr (0, [.ref (ad 2), .ref (ad 1), .int (nI nt)])), (ad 1, .inl (cA 1, 4, .inr (.inr (.inr (.inr (tvf ad nt)))))), (ad 2, .inr (1, [.ref (ad 3), .ref (ad 4), .int G.2.2.1, .long G.2.2.2.1, .long G.2.2.2.2])), (ad 3, .inl (cA 0, 40, .inr (.inl G.1))), (ad 4, .inl (cA 0, 40, .inr (.inl G.2.1)))] s.heap := (hW.2 j hj).app hP
    refine W.eq (g2 := F0 m 5 ls [.ref (ad (5 + 2 * j))]) rfl ?_
    refine lv_astore_n (lv' := [(3, .ref (ad (5 + 2 * j))), (0, .ref (ad 0)), (1, .int ta), (2, .int ch)]) hx hb d_x_part_5 rfl hl (by decide) rfl (fun ls hl => ?_)
    refine lv_aload_n hx hb d_x_part_6 rfl (lv_at hl 0 rfl) ?_
    refine lv_ifnonnull (tgt := 14) hx hb d_x_part_7 (by decide) ?_
    refine lv_aload_n hx hb d_x_part_14 rfl (lv_at hl 0 rfl) ?_
    refine lv_aload_n hx hb d_x_part_15 rfl (lv_at hl 1 rfl) ?_
    refine ro_get (v := .ref (ad 2)) FX hK hP 2 0 rfl rfl rfl i_x (by decide) kf_x_10 d_x_part_16 ?_
    refine lv_iload_n hx hb d_x_part_19 rfl (lv_at hl 3 rfl) ?_
    refine ro_V (v := .long (f_g_reach G.2.1 G.2.2.1 ch)) (As := [.int ch]) (rest := [.ref (ad (5 + 2 * j))]) (q0 := 4) FX hK (c_g_reach l D cA (ad 2) (ad 3) (ad 4) G.1 G.2.1 G.2.2.1 G.2.2.2.1 G.2.2.2.2 ch) (hP.sub [4, 5, 6] rfl) hP rfl rfl rfl kc_g_reach km_x_41 ki_g ks_g_reach ke_g_reach rfl ok_g_reach ⟨Nat.le_of_ble_eq_true rfl, Nat.le_of_ble_eq_true rfl⟩ ⟨Nat.zero_le _, Nat.zero_le _⟩ hl.1 rfl (Nat.le_of_ble_eq_true rfl) d_x_part_20 ?_
    refine ro_V (v := .long (f_t_weightWithin ((TT j).2.2.2.2.2.2.2.2.2) (f_g_reach G.2.1 G.2.2.1 ch))) (As := [.long (f_g_reach G.2.1 G.2.2.1 ch)]) (rest := []) (q0 := 0) FX hK (c_t_weightWithin l D cA (ad (5 + 2 * j)) (ad (6 + 2 * j)) ((TT j).1) ((TT j).2.1) ((TT j).2.2.1) ((TT j).2.2.2.1) ((TT j).2.2.2.2.1) ((TT j).2.2.2.2.2.1) ((TT j).2.2.2.2.2.2.1) ((TT j).2.2.2.2.2.2.2.1) ((TT j).2.2.2.2.2.2.2.2.1) ((TT j).2.2.2.2.2.2.2.2.2) (ad 2) (ad 3) (ad 4) G.1 G.2.1 G.2.2.1 G.2.2.2.1 G.2.2.2.2 (f_g_reach G.2.1 G.2.2.1 ch)) (hP.sub [0, 1, 4, 5, 6] rfl) hP rfl rfl rfl kc_t_weightWithin km_x_100 ki_t ks_t_weightWithin ke_t_weightWithin rfl ok_t_weightWithin ⟨Nat.le_of_ble_eq_true rfl, Nat.le_of_ble_eq_true rfl⟩ ⟨Nat.zero_le _, Nat.zero_le _⟩ hl.1 rfl (Nat.le_of_ble_eq_true rfl) d_x_part_23 ?_
    exact ro_lret FX (by rw [f_x_part, om_some hq1]) d_x_part_26
theorem d_x_total_0 : decode b_x_total 0 = .ok (.aload_n 0, 1) := by decide +kernel
theorem d_x_total_1 : decode b_x_total 1 = .ok (.iload_n 1, 1) := by decide +kernel
theorem d_x_total_2 : decode b_x_total 2 = .ok (.invokevirtual 76, 3) := by decide +kernel
theorem d_x_total_5 : decode b_x_total 5 = .ok (.astore_n 2, 1) := by decide +kernel
theorem d_x_total_6 : decode b_x_total 6 = .ok (.aload_n 2, 1) := by decide +kernel
theorem d_x_total_7 : decode b_x_total 7 = .ok (.ifnonnull 7, 3) := by decide +kernel
theorem d_x_total_10 : decode b_x_total 10 = .ok (.lconst 0, 1) := by decide +kernel
theorem d_x_total_11 : decode b_x_total 11 = .ok (.goto 7, 3) := by decide +kernel
theorem d_x_total_14 : decode b_x_total 14 = .ok (.aload_n 2, 1) := by decide +kernel
theorem d_x_total_15 : decode b_x_total 15 = .ok (.invokevirtual 104, 3) := by decide +kernel
theorem d_x_total_18 : decode b_x_total 18 = .ok (.lreturn, 1) := by decide +kernel
def f_x_total (nt : Nat) (TT : Nat → TS) (ta : Int32) : Int64 := om (f_x_searchAt nt TT ta)
    (0)
    (fun j => f_t_weightOfAll ((TT j).2.2.2.2.2.2.2.2.2))
set_option maxHeartbeats 4000000 in
set_option maxRecDepth 100000 in
theorem c_x_total (l : Launch) (D : va_G) (cA : Nat → ClassId) (ad : Nat → Nat) (nt : Nat) (G : GS) (TT : Nat → TS) (ta : Int32) (hnt : nt ≤ 4) (S : Nat) (hS40 : S ≤ 40) (hsz : G.2.2.1 = nI S) : Met l y_x_total (.code y_x_total b_x_total 3 (some .long) :: tb) (rmd 2) (Pro D cA [.ref (ad 0), .int ta] (WX D cA ad nt G TT)) (Qro (.long (f_x_total nt TT ta))) 0 0 nof := by
  refine ro_in (by decide) (Nat.le_of_ble_eq_true rfl) (fun p e s m below meth c ls FX hnm hK hW hl => ?_)
  have hl : lv_has ls 3 [(0, .ref (ad 0)), (1, .int ta)] := hl
  have hP : va_P D classes [(ad 0, .inr (0, [.ref (ad 2), .ref (ad 1), .int (nI nt)])), (ad 1, .inl (cA 1, 4, .inr (.inr (.inr (.inr (tvf ad nt)))))), (ad 2, .inr (1, [.ref (ad 3), .ref (ad 4), .int G.2.2.1, .long G.2.2.2.1, .long G.2.2.2.2])), (ad 3, .inl (cA 0, 40, .inr (.inl G.1))), (ad 4, .inl (cA 0, 40, .inr (.inl G.2.1)))] s.heap := hW.1
  generalize ([.ref (ad 0), .int ta] : List Value).toArray = args at FX ⊢
  obtain ⟨hx, hb, hml, hown, hts, hr, hlk⟩ := id FX
  refine lv_aload_n hx hb d_x_total_0 rfl (lv_at hl 0 rfl) ?_
  refine lv_iload_n hx hb d_x_total_1 rfl (lv_at hl 1 rfl) ?_
  refine ro_V (v := va_rf ((f_x_searchAt nt TT ta).map (fun j => ad (5 + 2 * j)))) (As := [.int ta]) (rest := []) (q0 := 0) FX hK (c_x_searchAt l D cA ad nt G TT ta hnt S hS40 hsz) hW hP rfl rfl rfl kc_x_searchAt km_x_76 ki_x ks_x_searchAt ke_x_searchAt rfl ok_x_searchAt ⟨Nat.le_of_ble_eq_true rfl, Nat.le_of_ble_eq_true rfl⟩ ⟨Nat.zero_le _, Nat.zero_le _⟩ hl.1 rfl (Nat.le_of_ble_eq_true rfl) d_x_total_2 ?_
  cases hq1 : (f_x_searchAt nt TT ta) with
  | none =>
    refine W.eq (g2 := F0 m 5 ls [.null]) rfl ?_
    refine lv_astore_nN (lv' := [(2, .null), (0, .ref (ad 0)), (1, .int ta)]) hx hb d_x_total_5 rfl hl (by decide) rfl (fun ls hl => ?_)
    refine lv_aload_nN hx hb d_x_total_6 rfl (lv_at hl 0 rfl) ?_
    refine lv_ifnonnullN hx hb d_x_total_7 ?_
    refine lv_lconst (v := 0) hx hb d_x_total_10 (by decide) ?_
    refine lv_goto (tgt := 18) hx hb d_x_total_11 (by decide) ?_
    exact ro_lret FX (by rw [f_x_total, om_none hq1]) d_x_total_18
  | some j =>
    have hj : j < nt := sa_lt hnt hq1
    have hP : va_P D classes [(ad (5 + 2 * j), .inr (2, [.ref (ad 2), .ref (ad (6 + 2 * j)), .long ((TT j).1), .long ((TT j).2.1), .int (bz (TT j).2.2.1), .int ((TT j).2.2.2.1), .int ((TT j).2.2.2.2.1), .int ((TT j).2.2.2.2.2.1), .int ((TT j).2.2.2.2.2.2.1), .int ((TT j).2.2.2.2.2.2.2.1), .int ((TT j).2.2.2.2.2.2.2.2.1)])), (ad (6 + 2 * j), .inl (cA 0, 40, .inr (.inl ((TT j).2.2.2.2.2.2.2.2.2)))), (ad 0, .inr (0, [.ref (ad 2), .ref (ad 1), .int (nI nt)])), (ad 1, .inl (cA 1, 4, .inr (.inr (.inr (.inr (tvf ad nt)))))), (ad 2, .inr (1, [.ref (ad 3), .ref (ad 4), .int G.2.2.1, .long G.2.2.2.1, .long G.2.2.2.2])), (ad 3, .inl (cA 0, 40, .inr (.inl G.1))), (ad 4, .inl (cA 0, 40, .inr (.inl G.2.1)))] s.heap := (hW.2 j hj).app hP
    refine W.eq (g2 := F0 m 5 ls [.ref (ad (5 + 2 * j))]) rfl ?_
    refine lv_astore_n (lv' := [(2, .ref (ad (5 + 2 * j))), (0, .ref (ad 0)), (1, .int ta)]) hx hb d_x_total_5 rfl hl (by decide) rfl (fun ls hl => ?_)
    refine lv_aload_n hx hb d_x_total_6 rfl (lv_at hl 0 rfl) ?_
    refine lv_ifnonnull (tgt := 14) hx hb d_x_total_7 (by decide) ?_
    refine lv_aload_n hx hb d_x_total_14 rfl (lv_at hl 0 rfl) ?_
    refine ro_V (v := .long (f_t_weightOfAll ((TT j).2.2.2.2.2.2.2.2.2))) (As := []) (rest := []) (q0 := 0) FX hK (c_t_weightOfAll l D cA (ad (5 + 2 * j)) (ad (6 + 2 * j)) ((TT j).1) ((TT j).2.1) ((TT j).2.2.1) ((TT j).2.2.2.1) ((TT j).2.2.2.2.1) ((TT j).2.2.2.2.2.1) ((TT j).2.2.2.2.2.2.1) ((TT j).2.2.2.2.2.2.2.1) ((TT j).2.2.2.2.2.2.2.2.1) ((TT j).2.2.2.2.2.2.2.2.2) (ad 2) (ad 3) (ad 4) G.1 G.2.1 G.2.2.1 G.2.2.2.1 G.2.2.2.2) (hP.sub [0, 1, 4, 5, 6] rfl) hP rfl rfl rfl kc_t_weightOfAll km_x_104 ki_t ks_t_weightOfAll ke_t_weightOfAll rfl ok_t_weightOfAll ⟨Nat.le_of_ble_eq_true rfl, Nat.le_of_ble_eq_true rfl⟩ ⟨Nat.zero_le _, Nat.zero_le _⟩ hl.1 rfl (Nat.le_of_ble_eq_true rfl) d_x_total_15 ?_
    exact ro_lret FX (by rw [f_x_total, om_some hq1]) d_x_total_18
theorem d_x_found_0 : decode b_x_found 0 = .ok (.aload_n 0, 1) := by decide +kernel
theorem d_x_found_1 : decode b_x_found 1 = .ok (.iload_n 1, 1) := by decide +kernel
theorem d_x_found_2 : decode b_x_found 2 = .ok (.invokevirtual 76, 3) := by decide +kernel
theorem d_x_found_5 : decode b_x_found 5 = .ok (.astore_n 2, 1) := by decide +kernel
theorem d_x_found_6 : decode b_x_found 6 = .ok (.aload_n 2, 1) := by decide +kernel
theorem d_x_found_7 : decode b_x_found 7 = .ok (.ifnonnull 7, 3) := by decide +kernel
theorem d_x_found_10 : decode b_x_found 10 = .ok (.iconst (-1), 1) := by decide +kernel
theorem d_x_found_11 : decode b_x_found 11 = .ok (.goto 7, 3) := by decide +kernel
theorem d_x_found_14 : decode b_x_found 14 = .ok (.aload_n 2, 1) := by decide +kernel
theorem d_x_found_15 : decode b_x_found 15 = .ok (.invokevirtual 108, 3) := by decide +kernel
theorem d_x_found_18 : decode b_x_found 18 = .ok (.ireturn, 1) := by decide +kernel
def f_x_found (nt : Nat) (TT : Nat → TS) (ta : Int32) : Int32 := om (f_x_searchAt nt TT ta)
    ((-1))
    (fun j => f_t_culprit ((TT j).2.2.2.2.2.2.1) ((TT j).2.2.2.2.2.2.2.2.2))
set_option maxHeartbeats 4000000 in
set_option maxRecDepth 100000 in
theorem c_x_found (l : Launch) (D : va_G) (cA : Nat → ClassId) (ad : Nat → Nat) (nt : Nat) (G : GS) (TT : Nat → TS) (ta : Int32) (hnt : nt ≤ 4) (S : Nat) (hS40 : S ≤ 40) (hsz : G.2.2.1 = nI S) : Met l y_x_found (.code y_x_found b_x_found 3 (some .int) :: tb) (rmd 2) (Pro D cA [.ref (ad 0), .int ta] (WX D cA ad nt G TT)) (Qro (.int (f_x_found nt TT ta))) 0 0 nof := by
  refine ro_in (by decide) (Nat.le_of_ble_eq_true rfl) (fun p e s m below meth c ls FX hnm hK hW hl => ?_)
  have hl : lv_has ls 3 [(0, .ref (ad 0)), (1, .int ta)] := hl
  have hP : va_P D classes [(ad 0, .inr (0, [.ref (ad 2), .ref (ad 1), .int (nI nt)])), (ad 1, .inl (cA 1, 4, .inr (.inr (.inr (.inr (tvf ad nt)))))), (ad 2, .inr (1, [.ref (ad 3), .ref (ad 4), .int G.2.2.1, .long G.2.2.2.1, .long G.2.2.2.2])), (ad 3, .inl (cA 0, 40, .inr (.inl G.1))), (ad 4, .inl (cA 0, 40, .inr (.inl G.2.1)))] s.heap := hW.1
  generalize ([.ref (ad 0), .int ta] : List Value).toArray = args at FX ⊢
  obtain ⟨hx, hb, hml, hown, hts, hr, hlk⟩ := id FX
  refine lv_aload_n hx hb d_x_found_0 rfl (lv_at hl 0 rfl) ?_
  refine lv_iload_n hx hb d_x_found_1 rfl (lv_at hl 1 rfl) ?_
  refine ro_V (v := va_rf ((f_x_searchAt nt TT ta).map (fun j => ad (5 + 2 * j)))) (As := [.int ta]) (rest := []) (q0 := 0) FX hK (c_x_searchAt l D cA ad nt G TT ta hnt S hS40 hsz) hW hP rfl rfl rfl kc_x_searchAt km_x_76 ki_x ks_x_searchAt ke_x_searchAt rfl ok_x_searchAt ⟨Nat.le_of_ble_eq_true rfl, Nat.le_of_ble_eq_true rfl⟩ ⟨Nat.zero_le _, Nat.zero_le _⟩ hl.1 rfl (Nat.le_of_ble_eq_true rfl) d_x_found_2 ?_
  cases hq1 : (f_x_searchAt nt TT ta) with
  | none =>
    refine W.eq (g2 := F0 m 5 ls [.null]) rfl ?_
    refine lv_astore_nN (lv' := [(2, .null), (0, .ref (ad 0)), (1, .int ta)]) hx hb d_x_found_5 rfl hl (by decide) rfl (fun ls hl => ?_)
    refine lv_aload_nN hx hb d_x_found_6 rfl (lv_at hl 0 rfl) ?_
    refine lv_ifnonnullN hx hb d_x_found_7 ?_
    refine lv_iconst (v := (-1)) hx hb d_x_found_10 (by decide) ?_
    refine lv_goto (tgt := 18) hx hb d_x_found_11 (by decide) ?_
    exact ro_iret FX (by rw [f_x_found, om_none hq1]) d_x_found_18
  | some j =>
    have hj : j < nt := sa_lt hnt hq1
    have hP : va_P D classes [(ad (5 + 2 * j), .inr (2, [.ref (ad 2), .ref (ad (6 + 2 * j)), .long ((TT j).1), .long ((TT j).2.1), .int (bz (TT j).2.2.1), .int ((TT j).2.2.2.1), .int ((TT j).2.2.2.2.1), .int ((TT j).2.2.2.2.2.1), .int ((TT j).2.2.2.2.2.2.1), .int ((TT j).2.2.2.2.2.2.2.1), .int ((TT j).2.2.2.2.2.2.2.2.1)])), (ad (6 + 2 * j), .inl (cA 0, 40, .inr (.inl ((TT j).2.2.2.2.2.2.2.2.2)))), (ad 0, .inr (0, [.ref (ad 2), .ref (ad 1), .int (nI nt)])), (ad 1, .inl (cA 1, 4, .inr (.inr (.inr (.inr (tvf ad nt)))))), (ad 2, .inr (1, [.ref (ad 3), .ref (ad 4), .int G.2.2.1, .long G.2.2.2.1, .long G.2.2.2.2])), (ad 3, .inl (cA 0, 40, .inr (.inl G.1))), (ad 4, .inl (cA 0, 40, .inr (.inl G.2.1)))] s.heap := (hW.2 j hj).app hP
    refine W.eq (g2 := F0 m 5 ls [.ref (ad (5 + 2 * j))]) rfl ?_
    refine lv_astore_n (lv' := [(2, .ref (ad (5 + 2 * j))), (0, .ref (ad 0)), (1, .int ta)]) hx hb d_x_found_5 rfl hl (by decide) rfl (fun ls hl => ?_)
    refine lv_aload_n hx hb d_x_found_6 rfl (lv_at hl 0 rfl) ?_
    refine lv_ifnonnull (tgt := 14) hx hb d_x_found_7 (by decide) ?_
    refine lv_aload_n hx hb d_x_found_14 rfl (lv_at hl 0 rfl) ?_
    refine ro_V (v := .int (f_t_culprit ((TT j).2.2.2.2.2.2.1) ((TT j).2.2.2.2.2.2.2.2.2))) (As := []) (rest := []) (q0 := 0) FX hK (c_t_culprit l D cA (ad (5 + 2 * j)) (ad (6 + 2 * j)) ((TT j).1) ((TT j).2.1) ((TT j).2.2.1) ((TT j).2.2.2.1) ((TT j).2.2.2.2.1) ((TT j).2.2.2.2.2.1) ((TT j).2.2.2.2.2.2.1) ((TT j).2.2.2.2.2.2.2.1) ((TT j).2.2.2.2.2.2.2.2.1) ((TT j).2.2.2.2.2.2.2.2.2) (ad 2) (ad 3) (ad 4) G.1 G.2.1 G.2.2.1 G.2.2.2.1 G.2.2.2.2) (hP.sub [0, 1, 4, 5, 6] rfl) hP rfl rfl rfl kc_t_culprit km_x_108 ki_t ks_t_culprit ke_t_culprit rfl ok_t_culprit ⟨Nat.le_of_ble_eq_true rfl, Nat.le_of_ble_eq_true rfl⟩ ⟨Nat.zero_le _, Nat.zero_le _⟩ hl.1 rfl (Nat.le_of_ble_eq_true rfl) d_x_found_15 ?_
    exact ro_iret FX (by rw [f_x_found, om_some hq1]) d_x_found_18
theorem d_x_told_0 : decode b_x_told 0 = .ok (.aload_n 0, 1) := by decide +kernel
theorem d_x_told_1 : decode b_x_told 1 = .ok (.iload_n 1, 1) := by decide +kernel
theorem d_x_told_2 : decode b_x_told 2 = .ok (.invokevirtual 76, 3) := by decide +kernel
theorem d_x_told_5 : decode b_x_told 5 = .ok (.astore_n 3, 1) := by decide +kernel
theorem d_x_told_6 : decode b_x_told 6 = .ok (.aload_n 3, 1) := by decide +kernel
theorem d_x_told_7 : decode b_x_told 7 = .ok (.ifnonnull 7, 3) := by decide +kernel
theorem d_x_told_10 : decode b_x_told 10 = .ok (.iconst (-1), 1) := by decide +kernel
theorem d_x_told_11 : decode b_x_told 11 = .ok (.goto 8, 3) := by decide +kernel
theorem d_x_told_14 : decode b_x_told 14 = .ok (.aload_n 3, 1) := by decide +kernel
theorem d_x_told_15 : decode b_x_told 15 = .ok (.iload_n 2, 1) := by decide +kernel
theorem d_x_told_16 : decode b_x_told 16 = .ok (.invokevirtual 111, 3) := by decide +kernel
theorem d_x_told_19 : decode b_x_told 19 = .ok (.ireturn, 1) := by decide +kernel
def f_x_told (nt : Nat) (TT : Nat → TS) (ta : Int32) (kk : Int32) : Int32 := om (f_x_searchAt nt TT ta)
    ((-1))
    (fun j => f_t_ranked ((TT j).2.2.2.2.2.2.2.2.2) kk)
set_option maxHeartbeats 4000000 in
set_option maxRecDepth 100000 in
theorem c_x_told (l : Launch) (D : va_G) (cA : Nat → ClassId) (ad : Nat → Nat) (nt : Nat) (G : GS) (TT : Nat → TS) (ta : Int32) (kk : Int32) (hnt : nt ≤ 4) (S : Nat) (hS40 : S ≤ 40) (hsz : G.2.2.1 = nI S) : Met l y_x_told (.code y_x_told b_x_told 4 (some .int) :: tb) (rmd 3) (Pro D cA [.ref (ad 0), .int ta, .int kk] (WX D cA ad nt G TT)) (Qro (.int (f_x_told nt TT ta kk))) 0 0 nof := by
  refine ro_in (by decide) (Nat.le_of_ble_eq_true rfl) (fun p e s m below meth c ls FX hnm hK hW hl => ?_)
  have hl : lv_has ls 4 [(0, .ref (ad 0)), (1, .int ta), (2, .int kk)] := hl
  have hP : va_P D classes [(ad 0, .inr (0, [.ref (ad 2), .ref (ad 1), .int (nI nt)])), (ad 1, .inl (cA 1, 4, .inr (.inr (.inr (.inr (tvf ad nt)))))), (ad 2, .inr (1, [.ref (ad 3), .ref (ad 4), .int G.2.2.1, .long G.2.2.2.1, .long G.2.2.2.2])), (ad 3, .inl (cA 0, 40, .inr (.inl G.1))), (ad 4, .inl (cA 0, 40, .inr (.inl G.2.1)))] s.heap := hW.1
  generalize ([.ref (ad 0), .int ta, .int kk] : List Value).toArray = args at FX ⊢
  obtain ⟨hx, hb, hml, hown, hts, hr, hlk⟩ := id FX
  refine lv_aload_n hx hb d_x_told_0 rfl (lv_at hl 0 rfl) ?_
  refine lv_iload_n hx hb d_x_told_1 rfl (lv_at hl 1 rfl) ?_
  refine ro_V (v := va_rf ((f_x_searchAt nt TT ta).map (fun j => ad (5 + 2 * j)))) (As := [.int ta]) (rest := []) (q0 := 0) FX hK (c_x_searchAt l D cA ad nt G TT ta hnt S hS40 hsz) hW hP rfl rfl rfl kc_x_searchAt km_x_76 ki_x ks_x_searchAt ke_x_searchAt rfl ok_x_searchAt ⟨Nat.le_of_ble_eq_true rfl, Nat.le_of_ble_eq_true rfl⟩ ⟨Nat.zero_le _, Nat.zero_le _⟩ hl.1 rfl (Nat.le_of_ble_eq_true rfl) d_x_told_2 ?_
  cases hq1 : (f_x_searchAt nt TT ta) with
  | none =>
    refine W.eq (g2 := F0 m 5 ls [.null]) rfl ?_
    refine lv_astore_nN (lv' := [(3, .null), (0, .ref (ad 0)), (1, .int ta), (2, .int kk)]) hx hb d_x_told_5 rfl hl (by decide) rfl (fun ls hl => ?_)
    refine lv_aload_nN hx hb d_x_told_6 rfl (lv_at hl 0 rfl) ?_
    refine lv_ifnonnullN hx hb d_x_told_7 ?_
    refine lv_iconst (v := (-1)) hx hb d_x_told_10 (by decide) ?_
    refine lv_goto (tgt := 19) hx hb d_x_told_11 (by decide) ?_
    exact ro_iret FX (by rw [f_x_told, om_none hq1]) d_x_told_19
  | some j =>
    have hj : j < nt := sa_lt hnt hq1
    have hP : va_P D classes [(ad (5 + 2 * j), .inr (2, [.ref (ad 2), .ref (ad (6 + 2 * j)), .long ((TT j).1), .long ((TT j).2.1), .int (bz (TT j).2.2.1), .int ((TT j).2.2.2.1), .int ((TT j).2.2.2.2.1), .int ((TT j).2.2.2.2.2.1), .int ((TT j).2.2.2.2.2.2.1), .int ((TT j).2.2.2.2.2.2.2.1), .int ((TT j).2.2.2.2.2.2.2.2.1)])), (ad (6 + 2 * j), .inl (cA 0, 40, .inr (.inl ((TT j).2.2.2.2.2.2.2.2.2)))), (ad 0, .inr (0, [.ref (ad 2), .ref (ad 1), .int (nI nt)])), (ad 1, .inl (cA 1, 4, .inr (.inr (.inr (.inr (tvf ad nt)))))), (ad 2, .inr (1, [.ref (ad 3), .ref (ad 4), .int G.2.2.1, .long G.2.2.2.1, .long G.2.2.2.2])), (ad 3, .inl (cA 0, 40, .inr (.inl G.1))), (ad 4, .inl (cA 0, 40, .inr (.inl G.2.1)))] s.heap := (hW.2 j hj).app hP
    refine W.eq (g2 := F0 m 5 ls [.ref (ad (5 + 2 * j))]) rfl ?_
    refine lv_astore_n (lv' := [(3, .ref (ad (5 + 2 * j))), (0, .ref (ad 0)), (1, .int ta), (2, .int kk)]) hx hb d_x_told_5 rfl hl (by decide) rfl (fun ls hl => ?_)
    refine lv_aload_n hx hb d_x_told_6 rfl (lv_at hl 0 rfl) ?_
    refine lv_ifnonnull (tgt := 14) hx hb d_x_told_7 (by decide) ?_
    refine lv_aload_n hx hb d_x_told_14 rfl (lv_at hl 0 rfl) ?_
    refine lv_iload_n hx hb d_x_told_15 rfl (lv_at hl 3 rfl) ?_
    refine ro_V (v := .int (f_t_ranked ((TT j).2.2.2.2.2.2.2.2.2) kk)) (As := [.int kk]) (rest := []) (q0 := 0) FX hK (c_t_ranked l D cA (ad (5 + 2 * j)) (ad (6 + 2 * j)) ((TT j).1) ((TT j).2.1) ((TT j).2.2.1) ((TT j).2.2.2.1) ((TT j).2.2.2.2.1) ((TT j).2.2.2.2.2.1) ((TT j).2.2.2.2.2.2.1) ((TT j).2.2.2.2.2.2.2.1) ((TT j).2.2.2.2.2.2.2.2.1) ((TT j).2.2.2.2.2.2.2.2.2) (ad 2) (ad 3) (ad 4) G.1 G.2.1 G.2.2.1 G.2.2.2.1 G.2.2.2.2 kk) (hP.sub [0, 1, 4, 5, 6] rfl) hP rfl rfl rfl kc_t_ranked km_x_111 ki_t ks_t_ranked ke_t_ranked rfl ok_t_ranked ⟨Nat.le_of_ble_eq_true rfl, Nat.le_of_ble_eq_true rfl⟩ ⟨Nat.zero_le _, Nat.zero_le _⟩ hl.1 rfl (Nat.le_of_ble_eq_true rfl) d_x_told_16 ?_
    exact ro_iret FX (by rw [f_x_told, om_some hq1]) d_x_told_19
theorem d_x_way_0 : decode b_x_way 0 = .ok (.aload_n 0, 1) := by decide +kernel
theorem d_x_way_1 : decode b_x_way 1 = .ok (.iload_n 1, 1) := by decide +kernel
theorem d_x_way_2 : decode b_x_way 2 = .ok (.invokevirtual 76, 3) := by decide +kernel
theorem d_x_way_5 : decode b_x_way 5 = .ok (.astore_n 3, 1) := by decide +kernel
theorem d_x_way_6 : decode b_x_way 6 = .ok (.aload_n 3, 1) := by decide +kernel
theorem d_x_way_7 : decode b_x_way 7 = .ok (.ifnonnull 7, 3) := by decide +kernel
theorem d_x_way_10 : decode b_x_way 10 = .ok (.iconst (-1), 1) := by decide +kernel
theorem d_x_way_11 : decode b_x_way 11 = .ok (.goto 8, 3) := by decide +kernel
theorem d_x_way_14 : decode b_x_way 14 = .ok (.aload_n 3, 1) := by decide +kernel
theorem d_x_way_15 : decode b_x_way 15 = .ok (.iload_n 2, 1) := by decide +kernel
theorem d_x_way_16 : decode b_x_way 16 = .ok (.invokevirtual 115, 3) := by decide +kernel
theorem d_x_way_19 : decode b_x_way 19 = .ok (.ireturn, 1) := by decide +kernel
def f_x_way (nt : Nat) (G : GS) (TT : Nat → TS) (ta : Int32) (kk : Int32) : Int32 := om (f_x_searchAt nt TT ta)
    ((-1))
    (fun j => f_t_onWay ((TT j).2.2.2.1) ((TT j).2.2.2.2.2.2.1) ((TT j).2.2.2.2.2.2.2.2.2) G.1 G.2.1 G.2.2.1 kk)
set_option maxHeartbeats 4000000 in
set_option maxRecDepth 100000 in
theorem c_x_way (l : Launch) (D : va_G) (cA : Nat → ClassId) (ad : Nat → Nat) (nt : Nat) (G : GS) (TT : Nat → TS) (ta : Int32) (kk : Int32) (hnt : nt ≤ 4) (S : Nat) (hS40 : S ≤ 40) (hsz : G.2.2.1 = nI S) : Met l y_x_way (.code y_x_way b_x_way 4 (some .int) :: tb) (rmd 4) (Pro D cA [.ref (ad 0), .int ta, .int kk] (WX D cA ad nt G TT)) (Qro (.int (f_x_way nt G TT ta kk))) 0 0 nof := by
  refine ro_in (by decide) (Nat.le_of_ble_eq_true rfl) (fun p e s m below meth c ls FX hnm hK hW hl => ?_)
  have hl : lv_has ls 4 [(0, .ref (ad 0)), (1, .int ta), (2, .int kk)] := hl
  have hP : va_P D classes [(ad 0, .inr (0, [.ref (ad 2), .ref (ad 1), .int (nI nt)])), (ad 1, .inl (cA 1, 4, .inr (.inr (.inr (.inr (tvf ad nt)))))), (ad 2, .inr (1, [.ref (ad 3), .ref (ad 4), .int G.2.2.1, .long G.2.2.2.1, .long G.2.2.2.2])), (ad 3, .inl (cA 0, 40, .inr (.inl G.1))), (ad 4, .inl (cA 0, 40, .inr (.inl G.2.1)))] s.heap := hW.1
  generalize ([.ref (ad 0), .int ta, .int kk] : List Value).toArray = args at FX ⊢
  obtain ⟨hx, hb, hml, hown, hts, hr, hlk⟩ := id FX
  refine lv_aload_n hx hb d_x_way_0 rfl (lv_at hl 0 rfl) ?_
  refine lv_iload_n hx hb d_x_way_1 rfl (lv_at hl 1 rfl) ?_
  refine ro_V (v := va_rf ((f_x_searchAt nt TT ta).map (fun j => ad (5 + 2 * j)))) (As := [.int ta]) (rest := []) (q0 := 0) FX hK (c_x_searchAt l D cA ad nt G TT ta hnt S hS40 hsz) hW hP rfl rfl rfl kc_x_searchAt km_x_76 ki_x ks_x_searchAt ke_x_searchAt rfl ok_x_searchAt ⟨Nat.le_of_ble_eq_true rfl, Nat.le_of_ble_eq_true rfl⟩ ⟨Nat.zero_le _, Nat.zero_le _⟩ hl.1 rfl (Nat.le_of_ble_eq_true rfl) d_x_way_2 ?_
  cases hq1 : (f_x_searchAt nt TT ta) with
  | none =>
    refine W.eq (g2 := F0 m 5 ls [.null]) rfl ?_
    refine lv_astore_nN (lv' := [(3, .null), (0, .ref (ad 0)), (1, .int ta), (2, .int kk)]) hx hb d_x_way_5 rfl hl (by decide) rfl (fun ls hl => ?_)
    refine lv_aload_nN hx hb d_x_way_6 rfl (lv_at hl 0 rfl) ?_
    refine lv_ifnonnullN hx hb d_x_way_7 ?_
    refine lv_iconst (v := (-1)) hx hb d_x_way_10 (by decide) ?_
    refine lv_goto (tgt := 19) hx hb d_x_way_11 (by decide) ?_
    exact ro_iret FX (by rw [f_x_way, om_none hq1]) d_x_way_19
  | some j =>
    have hj : j < nt := sa_lt hnt hq1
    have hP : va_P D classes [(ad (5 + 2 * j), .inr (2, [.ref (ad 2), .ref (ad (6 + 2 * j)), .long ((TT j).1), .long ((TT j).2.1), .int (bz (TT j).2.2.1), .int ((TT j).2.2.2.1), .int ((TT j).2.2.2.2.1), .int ((TT j).2.2.2.2.2.1), .int ((TT j).2.2.2.2.2.2.1), .int ((TT j).2.2.2.2.2.2.2.1), .int ((TT j).2.2.2.2.2.2.2.2.1)])), (ad (6 + 2 * j), .inl (cA 0, 40, .inr (.inl ((TT j).2.2.2.2.2.2.2.2.2)))), (ad 0, .inr (0, [.ref (ad 2), .ref (ad 1), .int (nI nt)])), (ad 1, .inl (cA 1, 4, .inr (.inr (.inr (.inr (tvf ad nt)))))), (ad 2, .inr (1, [.ref (ad 3), .ref (ad 4), .int G.2.2.1, .long G.2.2.2.1, .long G.2.2.2.2])), (ad 3, .inl (cA 0, 40, .inr (.inl G.1))), (ad 4, .inl (cA 0, 40, .inr (.inl G.2.1)))] s.heap := (hW.2 j hj).app hP
    refine W.eq (g2 := F0 m 5 ls [.ref (ad (5 + 2 * j))]) rfl ?_
    refine lv_astore_n (lv' := [(3, .ref (ad (5 + 2 * j))), (0, .ref (ad 0)), (1, .int ta), (2, .int kk)]) hx hb d_x_way_5 rfl hl (by decide) rfl (fun ls hl => ?_)
    refine lv_aload_n hx hb d_x_way_6 rfl (lv_at hl 0 rfl) ?_
    refine lv_ifnonnull (tgt := 14) hx hb d_x_way_7 (by decide) ?_
    refine lv_aload_n hx hb d_x_way_14 rfl (lv_at hl 0 rfl) ?_
    refine lv_iload_n hx hb d_x_way_15 rfl (lv_at hl 3 rfl) ?_
    refine ro_V (v := .int (f_t_onWay ((TT j).2.2.2.1) ((TT j).2.2.2.2.2.2.1) ((TT j).2.2.2.2.2.2.2.2.2) G.1 G.2.1 G.2.2.1 kk)) (As := [.int kk]) (rest := []) (q0 := 0) FX hK (c_t_onWay l D cA (ad (5 + 2 * j)) (ad (6 + 2 * j)) ((TT j).1) ((TT j).2.1) ((TT j).2.2.1) ((TT j).2.2.2.1) ((TT j).2.2.2.2.1) ((TT j).2.2.2.2.2.1) ((TT j).2.2.2.2.2.2.1) ((TT j).2.2.2.2.2.2.2.1) ((TT j).2.2.2.2.2.2.2.2.1) ((TT j).2.2.2.2.2.2.2.2.2) (ad 2) (ad 3) (ad 4) G.1 G.2.1 G.2.2.1 G.2.2.2.1 G.2.2.2.2 kk) (hP.sub [0, 1, 4, 5, 6] rfl) hP rfl rfl rfl kc_t_onWay km_x_115 ki_t ks_t_onWay ke_t_onWay rfl ok_t_onWay ⟨Nat.le_of_ble_eq_true rfl, Nat.le_of_ble_eq_true rfl⟩ ⟨Nat.zero_le _, Nat.zero_le _⟩ hl.1 rfl (Nat.le_of_ble_eq_true rfl) d_x_way_16 ?_
    exact ro_iret FX (by rw [f_x_way, om_some hq1]) d_x_way_19
theorem d_x_counted_0 : decode b_x_counted 0 = .ok (.iload_n 2, 1) := by decide +kernel
theorem d_x_counted_1 : decode b_x_counted 1 = .ok (.iconst 2, 1) := by decide +kernel
theorem d_x_counted_2 : decode b_x_counted 2 = .ok (.if_icmp .ne 11, 3) := by decide +kernel
theorem d_x_counted_5 : decode b_x_counted 5 = .ok (.aload_n 0, 1) := by decide +kernel
theorem d_x_counted_6 : decode b_x_counted 6 = .ok (.getfield 10, 3) := by decide +kernel
theorem d_x_counted_9 : decode b_x_counted 9 = .ok (.invokevirtual 118, 3) := by decide +kernel
theorem d_x_counted_12 : decode b_x_counted 12 = .ok (.ireturn, 1) := by decide +kernel
theorem d_x_counted_13 : decode b_x_counted 13 = .ok (.aload_n 0, 1) := by decide +kernel
theorem d_x_counted_14 : decode b_x_counted 14 = .ok (.iload_n 1, 1) := by decide +kernel
theorem d_x_counted_15 : decode b_x_counted 15 = .ok (.invokevirtual 51, 3) := by decide +kernel
theorem d_x_counted_18 : decode b_x_counted 18 = .ok (.astore_n 3, 1) := by decide +kernel
theorem d_x_counted_19 : decode b_x_counted 19 = .ok (.aload_n 3, 1) := by decide +kernel
theorem d_x_counted_20 : decode b_x_counted 20 = .ok (.ifnonnull 5, 3) := by decide +kernel
theorem d_x_counted_23 : decode b_x_counted 23 = .ok (.iconst (-1), 1) := by decide +kernel
theorem d_x_counted_24 : decode b_x_counted 24 = .ok (.ireturn, 1) := by decide +kernel
theorem d_x_counted_25 : decode b_x_counted 25 = .ok (.iload_n 2, 1) := by decide +kernel
theorem d_x_counted_26 : decode b_x_counted 26 = .ok (.iconst 1, 1) := by decide +kernel
theorem d_x_counted_27 : decode b_x_counted 27 = .ok (.if_icmp .ne 8, 3) := by decide +kernel
theorem d_x_counted_30 : decode b_x_counted 30 = .ok (.aload_n 3, 1) := by decide +kernel
theorem d_x_counted_31 : decode b_x_counted 31 = .ok (.getfield 121, 3) := by decide +kernel
theorem d_x_counted_34 : decode b_x_counted 34 = .ok (.ireturn, 1) := by decide +kernel
theorem d_x_counted_35 : decode b_x_counted 35 = .ok (.aload_n 3, 1) := by decide +kernel
theorem d_x_counted_36 : decode b_x_counted 36 = .ok (.invokevirtual 55, 3) := by decide +kernel
theorem d_x_counted_39 : decode b_x_counted 39 = .ok (.ifCond .ne 5, 3) := by decide +kernel
theorem d_x_counted_42 : decode b_x_counted 42 = .ok (.iconst (-1), 1) := by decide +kernel
theorem d_x_counted_43 : decode b_x_counted 43 = .ok (.ireturn, 1) := by decide +kernel
theorem d_x_counted_44 : decode b_x_counted 44 = .ok (.iload_n 2, 1) := by decide +kernel
theorem d_x_counted_45 : decode b_x_counted 45 = .ok (.ifCond .ne 8, 3) := by decide +kernel
theorem d_x_counted_48 : decode b_x_counted 48 = .ok (.aload_n 3, 1) := by decide +kernel
theorem d_x_counted_49 : decode b_x_counted 49 = .ok (.getfield 124, 3) := by decide +kernel
theorem d_x_counted_52 : decode b_x_counted 52 = .ok (.ireturn, 1) := by decide +kernel
theorem d_x_counted_53 : decode b_x_counted 53 = .ok (.iload_n 2, 1) := by decide +kernel
theorem d_x_counted_54 : decode b_x_counted 54 = .ok (.iconst 3, 1) := by decide +kernel
theorem d_x_counted_55 : decode b_x_counted 55 = .ok (.if_icmp .ne 10, 3) := by decide +kernel
theorem d_x_counted_58 : decode b_x_counted 58 = .ok (.aload_n 3, 1) := by decide +kernel
theorem d_x_counted_59 : decode b_x_counted 59 = .ok (.getfield 127, 3) := by decide +kernel
theorem d_x_counted_62 : decode b_x_counted 62 = .ok (.goto 4, 3) := by decide +kernel
theorem d_x_counted_65 : decode b_x_counted 65 = .ok (.iconst (-1), 1) := by decide +kernel
theorem d_x_counted_66 : decode b_x_counted 66 = .ok (.ireturn, 1) := by decide +kernel
def f_x_counted (nt : Nat) (G : GS) (TT : Nat → TS) (ta : Int32) (wh : Int32) : Int32 := if wh = 2 then
    (f_g_builtCount G.2.2.2.1)
  else
    (om (f_x_targetAt nt ta)
      ((-1))
      (fun j => if wh = 1 then
        ((TT j).2.2.2.2.2.2.2.2.1)
      else
        (if (f_t_isSearched ((TT j).2.2.1)) = true then
          (if wh = 0 then
            ((TT j).2.2.2.2.2.2.2.1)
          else
            (if wh = 3 then
              ((TT j).2.2.2.1)
            else
              ((-1))))
        else
          ((-1)))))
set_option maxHeartbeats 4000000 in
set_option maxRecDepth 100000 in
theorem c_x_counted (l : Launch) (D : va_G) (cA : Nat → ClassId) (ad : Nat → Nat) (nt : Nat) (G : GS) (TT : Nat → TS) (ta : Int32) (wh : Int32) (hnt : nt ≤ 4) (S : Nat) (hS40 : S ≤ 40) (hsz : G.2.2.1 = nI S) : Met l y_x_counted (.code y_x_counted b_x_counted 4 (some .int) :: tb) (rmd 2) (Pro D cA [.ref (ad 0), .int ta, .int wh] (WX D cA ad nt G TT)) (Qro (.int (f_x_counted nt G TT ta wh))) 0 0 nof := by
  refine ro_in (by decide) (Nat.le_of_ble_eq_true rfl) (fun p e s m below meth c ls FX hnm hK hW hl => ?_)
  have hl : lv_has ls 4 [(0, .ref (ad 0)), (1, .int ta), (2, .int wh)] := hl
  have hP : va_P D classes [(ad 0, .inr (0, [.ref (ad 2), .ref (ad 1), .int (nI nt)])), (ad 1, .inl (cA 1, 4, .inr (.inr (.inr (.inr (tvf ad nt)))))), (ad 2, .inr (1, [.ref (ad 3), .ref (ad 4), .int G.2.2.1, .long G.2.2.2.1, .long G.2.2.2.2])), (ad 3, .inl (cA 0, 40, .inr (.inl G.1))), (ad 4, .inl (cA 0, 40, .inr (.inl G.2.1)))] s.heap := hW.1
  generalize ([.ref (ad 0), .int ta, .int wh] : List Value).toArray = args at FX ⊢
  obtain ⟨hx, hb, hml, hown, hts, hr, hlk⟩ := id FX
  refine lv_iload_n hx hb d_x_counted_0 rfl (lv_at hl 2 rfl) ?_
  refine lv_iconst (v := 2) hx hb d_x_counted_1 (by decide) ?_
  refine lv_icmp_ne (tgt := 13) hx hb d_x_counted_2 (by decide) (fun c1 => ?_) (fun c1 => ?_)
  · have c1 := c1
    refine lv_aload_n hx hb d_x_counted_13 rfl (lv_at hl 0 rfl) ?_
    refine lv_iload_n hx hb d_x_counted_14 rfl (lv_at hl 1 rfl) ?_
    refine ro_V (v := va_rf ((f_x_targetAt nt ta).map (fun j => ad (5 + 2 * j)))) (As := [.int ta]) (rest := []) (q0 := 0) FX hK (c_x_targetAt l D cA ad nt G TT ta hnt S hS40 hsz) hW hP rfl rfl rfl kc_x_targetAt km_x_51 ki_x ks_x_targetAt ke_x_targetAt rfl ok_x_targetAt ⟨Nat.le_of_ble_eq_true rfl, Nat.le_of_ble_eq_true rfl⟩ ⟨Nat.zero_le _, Nat.zero_le _⟩ hl.1 rfl (Nat.le_of_ble_eq_true rfl) d_x_counted_15 ?_
    cases hq2 : (f_x_targetAt nt ta) with
    | none =>
      refine W.eq (g2 := F0 m 18 ls [.null]) rfl ?_
      refine lv_astore_nN (lv' := [(3, .null), (0, .ref (ad 0)), (1, .int ta), (2, .int wh)]) hx hb d_x_counted_18 rfl hl (by decide) rfl (fun ls hl => ?_)
      refine lv_aload_nN hx hb d_x_counted_19 rfl (lv_at hl 0 rfl) ?_
      refine lv_ifnonnullN hx hb d_x_counted_20 ?_
      refine lv_iconst (v := (-1)) hx hb d_x_counted_23 (by decide) ?_
      exact ro_iret FX (by rw [f_x_counted, if_neg c1, om_none hq2]) d_x_counted_24
    | some j =>
      have hj : j < nt := ta_lt hnt hq2
      have hP : va_P D classes [(ad (5 + 2 * j), .inr (2, [.ref (ad 2), .ref (ad (6 + 2 * j)), .long ((TT j).1), .long ((TT j).2.1), .int (bz (TT j).2.2.1), .int ((TT j).2.2.2.1), .int ((TT j).2.2.2.2.1), .int ((TT j).2.2.2.2.2.1), .int ((TT j).2.2.2.2.2.2.1), .int ((TT j).2.2.2.2.2.2.2.1), .int ((TT j).2.2.2.2.2.2.2.2.1)])), (ad (6 + 2 * j), .inl (cA 0, 40, .inr (.inl ((TT j).2.2.2.2.2.2.2.2.2)))), (ad 0, .inr (0, [.ref (ad 2), .ref (ad 1), .int (nI nt)])), (ad 1, .inl (cA 1, 4, .inr (.inr (.inr (.inr (tvf ad nt)))))), (ad 2, .inr (1, [.ref (ad 3), .ref (ad 4), .int G.2.2.1, .long G.2.2.2.1, .long G.2.2.2.2])), (ad 3, .inl (cA 0, 40, .inr (.inl G.1))), (ad 4, .inl (cA 0, 40, .inr (.inl G.2.1)))] s.heap := (hW.2 j hj).app hP
      refine W.eq (g2 := F0 m 18 ls [.ref (ad (5 + 2 * j))]) rfl ?_
      refine lv_astore_n (lv' := [(3, .ref (ad (5 + 2 * j))), (0, .ref (ad 0)), (1, .int ta), (2, .int wh)]) hx hb d_x_counted_18 rfl hl (by decide) rfl (fun ls hl => ?_)
      refine lv_aload_n hx hb d_x_counted_19 rfl (lv_at hl 0 rfl) ?_
      refine lv_ifnonnull (tgt := 25) hx hb d_x_counted_20 (by decide) ?_
      refine lv_iload_n hx hb d_x_counted_25 rfl (lv_at hl 3 rfl) ?_
      refine lv_iconst (v := 1) hx hb d_x_counted_26 (by decide) ?_
      refine lv_icmp_ne (tgt := 35) hx hb d_x_counted_27 (by decide) (fun c3 => ?_) (fun c3 => ?_)
      · have c3 := c3
        refine lv_aload_n hx hb d_x_counted_35 rfl (lv_at hl 0 rfl) ?_
        refine ro_V (v := .int (bz (f_t_isSearched ((TT j).2.2.1)))) (As := []) (rest := []) (q0 := 0) FX hK (c_t_isSearched l D cA (ad (5 + 2 * j)) (ad (6 + 2 * j)) ((TT j).1) ((TT j).2.1) ((TT j).2.2.1) ((TT j).2.2.2.1) ((TT j).2.2.2.2.1) ((TT j).2.2.2.2.2.1) ((TT j).2.2.2.2.2.2.1) ((TT j).2.2.2.2.2.2.2.1) ((TT j).2.2.2.2.2.2.2.2.1) ((TT j).2.2.2.2.2.2.2.2.2) (ad 2) (ad 3) (ad 4) G.1 G.2.1 G.2.2.1 G.2.2.2.1 G.2.2.2.2) (hP.sub [0, 1, 4, 5, 6] rfl) hP rfl rfl rfl kc_t_isSearched km_x_55 ki_t ks_t_isSearched ke_t_isSearched rfl ok_t_isSearched ⟨Nat.le_of_ble_eq_true rfl, Nat.le_of_ble_eq_true rfl⟩ ⟨Nat.zero_le _, Nat.zero_le _⟩ hl.1 rfl (Nat.le_of_ble_eq_true rfl) d_x_counted_36 ?_
        refine lv_if_ne (tgt := 44) hx hb d_x_counted_39 (by decide) (fun c4 => ?_) (fun c4 => ?_)
        · have c4 := bz_t c4
          refine lv_iload_n hx hb d_x_counted_44 rfl (lv_at hl 3 rfl) ?_
          refine lv_if_ne (tgt := 53) hx hb d_x_counted_45 (by decide) (fun c5 => ?_) (fun c5 => ?_)
          · have c5 := c5
            refine lv_iload_n hx hb d_x_counted_53 rfl (lv_at hl 3 rfl) ?_
            refine lv_iconst (v := 3) hx hb d_x_counted_54 (by decide) ?_
            refine lv_icmp_ne (tgt := 65) hx hb d_x_counted_55 (by decide) (fun c6 => ?_) (fun c6 => ?_)
            · have c6 := c6
              refine lv_iconst (v := (-1)) hx hb d_x_counted_65 (by decide) ?_
              exact ro_iret FX (by rw [f_x_counted, if_neg c1, om_some hq2, if_neg c3, if_pos c4, if_neg c5, if_neg c6]) d_x_counted_66
            · have c6 := c6
              refine lv_aload_n hx hb d_x_counted_58 rfl (lv_at hl 0 rfl) ?_
              refine ro_getN (v := .int ((TT j).2.2.2.1)) FX hK hP 0 5 rfl rfl rfl i_t (by decide) kf_x_127 d_x_counted_59 ?_
              refine lv_goto (tgt := 66) hx hb d_x_counted_62 (by decide) ?_
              exact ro_iret FX (by rw [f_x_counted, if_neg c1, om_some hq2, if_neg c3, if_pos c4, if_neg c5, if_pos c6]) d_x_counted_66
          · have c5 := c5
            refine lv_aload_n hx hb d_x_counted_48 rfl (lv_at hl 0 rfl) ?_
            refine ro_getN (v := .int ((TT j).2.2.2.2.2.2.2.1)) FX hK hP 0 9 rfl rfl rfl i_t (by decide) kf_x_124 d_x_counted_49 ?_
            exact ro_iret FX (by rw [f_x_counted, if_neg c1, om_some hq2, if_neg c3, if_pos c4, if_pos c5]) d_x_counted_52
        · have c4 := bz_f c4
          refine lv_iconst (v := (-1)) hx hb d_x_counted_42 (by decide) ?_
          exact ro_iret FX (by rw [f_x_counted, if_neg c1, om_some hq2, if_neg c3, if_neg c4]) d_x_counted_43
      · have c3 := c3
        refine lv_aload_n hx hb d_x_counted_30 rfl (lv_at hl 0 rfl) ?_
        refine ro_getN (v := .int ((TT j).2.2.2.2.2.2.2.2.1)) FX hK hP 0 10 rfl rfl rfl i_t (by decide) kf_x_121 d_x_counted_31 ?_
        exact ro_iret FX (by rw [f_x_counted, if_neg c1, om_some hq2, if_pos c3]) d_x_counted_34
  · have c1 := c1
    refine lv_aload_n hx hb d_x_counted_5 rfl (lv_at hl 0 rfl) ?_
    refine ro_get (v := .ref (ad 2)) FX hK hP 0 0 rfl rfl rfl i_x (by decide) kf_x_10 d_x_counted_6 ?_
    refine ro_V (v := .int (f_g_builtCount G.2.2.2.1)) (As := []) (rest := []) (q0 := 2) FX hK (c_g_builtCount l D cA (ad 2) (ad 3) (ad 4) G.1 G.2.1 G.2.2.1 G.2.2.2.1 G.2.2.2.2) (hP.sub [2, 3, 4] rfl) hP rfl rfl rfl kc_g_builtCount km_x_118 ki_g ks_g_builtCount ke_g_builtCount rfl ok_g_builtCount ⟨Nat.le_of_ble_eq_true rfl, Nat.le_of_ble_eq_true rfl⟩ ⟨Nat.zero_le _, Nat.zero_le _⟩ hl.1 rfl (Nat.le_of_ble_eq_true rfl) d_x_counted_9 ?_
    exact ro_iret FX (by rw [f_x_counted, if_pos c1]) d_x_counted_12
end
section
theorem d_x_change_0 : decode b_x_change 0 = .ok (.aload_n 0, 1) := by decide +kernel
theorem d_x_change_1 : decode b_x_change 1 = .ok (.getfield 10, 3) := by decide +kernel
theorem d_x_change_4 : decode b_x_change 4 = .ok (.iload_n 1, 1) := by decide +kernel
theorem d_x_change_5 : decode b_x_change 5 = .ok (.invokevirtual 26, 3) := by decide +kernel
theorem d_x_change_8 : decode b_x_change 8 = .ok (.ifCond .eq 25, 3) := by decide +kernel
theorem d_x_change_11 : decode b_x_change 11 = .ok (.aload_n 0, 1) := by decide +kernel
theorem d_x_change_12 : decode b_x_change 12 = .ok (.getfield 10, 3) := by decide +kernel
theorem d_x_change_15 : decode b_x_change 15 = .ok (.iload_n 2, 1) := by decide +kernel
theorem d_x_change_16 : decode b_x_change 16 = .ok (.invokevirtual 26, 3) := by decide +kernel
theorem d_x_change_19 : decode b_x_change 19 = .ok (.ifCond .eq 14, 3) := by decide +kernel
theorem d_x_change_22 : decode b_x_change 22 = .ok (.aload_n 0, 1) := by decide +kernel
theorem d_x_change_23 : decode b_x_change 23 = .ok (.getfield 10, 3) := by decide +kernel
theorem d_x_change_26 : decode b_x_change 26 = .ok (.iload_n 3, 1) := by decide +kernel
theorem d_x_change_27 : decode b_x_change 27 = .ok (.invokevirtual 26, 3) := by decide +kernel
theorem d_x_change_30 : decode b_x_change 30 = .ok (.ifCond .ne 5, 3) := by decide +kernel
theorem d_x_change_33 : decode b_x_change 33 = .ok (.iconst (-1), 1) := by decide +kernel
theorem d_x_change_34 : decode b_x_change 34 = .ok (.ireturn, 1) := by decide +kernel
theorem d_x_change_35 : decode b_x_change 35 = .ok (.aload_n 0, 1) := by decide +kernel
theorem d_x_change_36 : decode b_x_change 36 = .ok (.getfield 10, 3) := by decide +kernel
theorem d_x_change_39 : decode b_x_change 39 = .ok (.iload_n 1, 1) := by decide +kernel
theorem d_x_change_40 : decode b_x_change 40 = .ok (.invokestatic 30, 3) := by decide +kernel
theorem d_x_change_43 : decode b_x_change 43 = .ok (.iload_n 2, 1) := by decide +kernel
theorem d_x_change_44 : decode b_x_change 44 = .ok (.invokestatic 30, 3) := by decide +kernel
theorem d_x_change_47 : decode b_x_change 47 = .ok (.lor, 1) := by decide +kernel
theorem d_x_change_48 : decode b_x_change 48 = .ok (.iload_n 3, 1) := by decide +kernel
theorem d_x_change_49 : decode b_x_change 49 = .ok (.invokestatic 30, 3) := by decide +kernel
theorem d_x_change_52 : decode b_x_change 52 = .ok (.lor, 1) := by decide +kernel
theorem d_x_change_53 : decode b_x_change 53 = .ok (.invokevirtual 34, 3) := by decide +kernel
theorem d_x_change_56 : decode b_x_change 56 = .ok (.ireturn, 1) := by decide +kernel
def f_x_change (G : GS) (TT : Nat → TS) (za : Int32) (zb : Int32) (zc : Int32) : Int32 × GS × (Nat → TS) := if (f_g_mayBeParent G.2.2.1 za) = true then
    (if (f_g_mayBeParent G.2.2.1 zb) = true then
      (if (f_g_mayBeParent G.2.2.1 zc) = true then
        (((f_g_add G.1 G.2.1 G.2.2.1 (((f_x_only za) ||| (f_x_only zb)) ||| (f_x_only zc))).1, ((f_g_add G.1 G.2.1 G.2.2.1 (((f_x_only za) ||| (f_x_only zb)) ||| (f_x_only zc))).2.1, (f_g_add G.1 G.2.1 G.2.2.1 (((f_x_only za) ||| (f_x_only zb)) ||| (f_x_only zc))).2.2.1, (f_g_add G.1 G.2.1 G.2.2.1 (((f_x_only za) ||| (f_x_only zb)) ||| (f_x_only zc))).2.2.2, G.2.2.2.1, G.2.2.2.2), TT))
      else
        (((-1), G, TT)))
    else
      (((-1), G, TT)))
  else
    (((-1), G, TT))
set_option maxHeartbeats 4000000 in
set_option maxRecDepth 100000 in
theorem c_x_change (l : Launch) (D : va_G) (cA : Nat → ClassId) (ad : Nat → Nat) (nt : Nat) (G : GS) (TT : Nat → TS) (za : Int32) (zb : Int32) (zc : Int32) (hnt : nt ≤ 4) (S : Nat) (hS40 : S ≤ 40) (hsz : G.2.2.1 = nI S) (hinj : adX ad nt) : Met l y_x_change (.code y_x_change b_x_change 4 (some .int) :: tb) (rmd 3) (Pro D cA [.ref (ad 0), .int za, .int zb, .int zc] (WX D cA ad nt G TT)) (Qmu (ox ad nt) (fun v0 H0 => v0 = some (.int (f_x_change G TT za zb zc).1) ∧ WX D cA ad nt (f_x_change G TT za zb zc).2.1 (f_x_change G TT za zb zc).2.2 H0)) 0 0 (ox ad nt) := by
  refine ro_in (by decide) (Nat.le_of_ble_eq_true rfl) (fun p e s m below meth c ls FX hnm hK hW hl => ?_)
  have hl : lv_has ls 4 [(0, .ref (ad 0)), (1, .int za), (2, .int zb), (3, .int zc)] := hl
  have hP : va_P D classes [(ad 0, .inr (0, [.ref (ad 2), .ref (ad 1), .int (nI nt)])), (ad 1, .inl (cA 1, 4, .inr (.inr (.inr (.inr (tvf ad nt)))))), (ad 2, .inr (1, [.ref (ad 3), .ref (ad 4), .int G.2.2.1, .long G.2.2.2.1, .long G.2.2.2.2])), (ad 3, .inl (cA 0, 40, .inr (.inl G.1))), (ad 4, .inl (cA 0, 40, .inr (.inl G.2.1)))] s.heap := hW.1
  have hD : va_D (aw [(ad 0, .inr (0, [.ref (ad 2), .ref (ad 1), .int (nI nt)])), (ad 1, .inl (cA 1, 4, .inr (.inr (.inr (.inr (tvf ad nt)))))), (ad 2, .inr (1, [.ref (ad 3), .ref (ad 4), .int G.2.2.1, .long G.2.2.2.1, .long G.2.2.2.2])), (ad 3, .inl (cA 0, 40, .inr (.inl G.1))), (ad 4, .inl (cA 0, 40, .inr (.inl G.2.1)))]) [(ad 0, .inr (0, [.ref (ad 2), .ref (ad 1), .int (nI nt)])), (ad 1, .inl (cA 1, 4, .inr (.inr (.inr (.inr (tvf ad nt)))))), (ad 2, .inr (1, [.ref (ad 3), .ref (ad 4), .int G.2.2.1, .long G.2.2.2.1, .long G.2.2.2.2])), (ad 3, .inl (cA 0, 40, .inr (.inl G.1))), (ad 4, .inl (cA 0, 40, .inr (.inl G.2.1)))] := aw_self (wx_d5 hinj (G := G))
  have hoA : ∀ q, aw [(ad 0, .inr (0, [.ref (ad 2), .ref (ad 1), .int (nI nt)])), (ad 1, .inl (cA 1, 4, .inr (.inr (.inr (.inr (tvf ad nt)))))), (ad 2, .inr (1, [.ref (ad 3), .ref (ad 4), .int G.2.2.1, .long G.2.2.2.1, .long G.2.2.2.2])), (ad 3, .inl (cA 0, 40, .inr (.inl G.1))), (ad 4, .inl (cA 0, 40, .inr (.inl G.2.1)))] q → ox ad nt q := ox_5 (G := G)
  obtain ⟨A, hA⟩ : ∃ A, A = aw [(ad 0, .inr (0, [.ref (ad 2), .ref (ad 1), .int (nI nt)])), (ad 1, .inl (cA 1, 4, .inr (.inr (.inr (.inr (tvf ad nt)))))), (ad 2, .inr (1, [.ref (ad 3), .ref (ad 4), .int G.2.2.1, .long G.2.2.2.1, .long G.2.2.2.2])), (ad 3, .inl (cA 0, 40, .inr (.inl G.1))), (ad 4, .inl (cA 0, 40, .inr (.inl G.2.1)))] := ⟨_, rfl⟩
  rw [← hA] at hD hoA
  have hS : va_S A s.heap s.heap [] := va_S.rf
  generalize ([.ref (ad 0), .int za, .int zb, .int zc] : List Value).toArray = args at FX ⊢
  obtain ⟨hx, hb, hml, hown, hts, hr, hlk⟩ := id FX
  refine lv_aload_n hx hb d_x_change_0 rfl (lv_at hl 0 rfl) ?_
  refine ro_get (v := .ref (ad 2)) FX hK hP 0 0 rfl rfl rfl i_x (by decide) kf_x_10 d_x_change_1 ?_
  refine lv_iload_n hx hb d_x_change_4 rfl (lv_at hl 1 rfl) ?_
  refine ro_V (v := .int (bz (f_g_mayBeParent G.2.2.1 za))) (As := [.int za]) (rest := []) (q0 := 2) FX hK (c_g_mayBeParent l D cA (ad 2) (ad 3) (ad 4) G.1 G.2.1 G.2.2.1 G.2.2.2.1 G.2.2.2.2 za) (hP.sub [2, 3, 4] rfl) hP rfl rfl rfl kc_g_mayBeParent km_x_26 ki_g ks_g_mayBeParent ke_g_mayBeParent rfl ok_g_mayBeParent ⟨Nat.le_of_ble_eq_true rfl, Nat.le_of_ble_eq_true rfl⟩ ⟨Nat.zero_le _, Nat.zero_le _⟩ hl.1 rfl (Nat.le_of_ble_eq_true rfl) d_x_change_5 ?_
  refine lv_if_eq (tgt := 33) hx hb d_x_change_8 (by decide) (fun c1 => ?_) (fun c1 => ?_)
  · have c1 := bz_f c1
    refine lv_iconst (v := (-1)) hx hb d_x_change_33 (by decide) ?_
    exact mu_iret FX va_S.rf (by rw [show (f_x_change G TT za zb zc) = ((-1), G, TT) from (by rw [f_x_change, if_neg c1])]; exact ⟨rfl, hW⟩) d_x_change_34
  · have c1 := bz_t c1
    refine lv_aload_n hx hb d_x_change_11 rfl (lv_at hl 0 rfl) ?_
    refine ro_get (v := .ref (ad 2)) FX hK hP 0 0 rfl rfl rfl i_x (by decide) kf_x_10 d_x_change_12 ?_
    refine lv_iload_n hx hb d_x_change_15 rfl (lv_at hl 2 rfl) ?_
    refine ro_V (v := .int (bz (f_g_mayBeParent G.2.2.1 zb))) (As := [.int zb]) (rest := []) (q0 := 2) FX hK (c_g_mayBeParent l D cA (ad 2) (ad 3) (ad 4) G.1 G.2.1 G.2.2.1 G.2.2.2.1 G.2.2.2.2 zb) (hP.sub [2, 3, 4] rfl) hP rfl rfl rfl kc_g_mayBeParent km_x_26 ki_g ks_g_mayBeParent ke_g_mayBeParent rfl ok_g_mayBeParent ⟨Nat.le_of_ble_eq_true rfl, Nat.le_of_ble_eq_true rfl⟩ ⟨Nat.zero_le _, Nat.zero_le _⟩ hl.1 rfl (Nat.le_of_ble_eq_true rfl) d_x_change_16 ?_
    refine lv_if_eq (tgt := 33) hx hb d_x_change_19 (by decide) (fun c2 => ?_) (fun c2 => ?_)
    · have c2 := bz_f c2
      refine lv_iconst (v := (-1)) hx hb d_x_change_33 (by decide) ?_
      exact mu_iret FX va_S.rf (by rw [show (f_x_change G TT za zb zc) = ((-1), G, TT) from (by rw [f_x_change, if_pos c1, if_neg c2])]; exact ⟨rfl, hW⟩) d_x_change_34
    · have c2 := bz_t c2
      refine lv_aload_n hx hb d_x_change_22 rfl (lv_at hl 0 rfl) ?_
      refine ro_get (v := .ref (ad 2)) FX hK hP 0 0 rfl rfl rfl i_x (by decide) kf_x_10 d_x_change_23 ?_
      refine lv_iload_n hx hb d_x_change_26 rfl (lv_at hl 3 rfl) ?_
      refine ro_V (v := .int (bz (f_g_mayBeParent G.2.2.1 zc))) (As := [.int zc]) (rest := []) (q0 := 2) FX hK (c_g_mayBeParent l D cA (ad 2) (ad 3) (ad 4) G.1 G.2.1 G.2.2.1 G.2.2.2.1 G.2.2.2.2 zc) (hP.sub [2, 3, 4] rfl) hP rfl rfl rfl kc_g_mayBeParent km_x_26 ki_g ks_g_mayBeParent ke_g_mayBeParent rfl ok_g_mayBeParent ⟨Nat.le_of_ble_eq_true rfl, Nat.le_of_ble_eq_true rfl⟩ ⟨Nat.zero_le _, Nat.zero_le _⟩ hl.1 rfl (Nat.le_of_ble_eq_true rfl) d_x_change_27 ?_
      refine lv_if_ne (tgt := 35) hx hb d_x_change_30 (by decide) (fun c3 => ?_) (fun c3 => ?_)
      · have c3 := bz_t c3
        refine lv_aload_n hx hb d_x_change_35 rfl (lv_at hl 0 rfl) ?_
        refine ro_get (v := .ref (ad 2)) FX hK hP 0 0 rfl rfl rfl i_x (by decide) kf_x_10 d_x_change_36 ?_
        refine lv_iload_n hx hb d_x_change_39 rfl (lv_at hl 1 rfl) ?_
        refine ro_S (v := .long (f_x_only za)) (As := [.int za]) (rest := [.ref (ad 2)]) FX hK (c_x_only l D cA za) trivial kc_x_only km_x_30 ki_x ks_x_only rfl ok_x_only ⟨Nat.le_of_ble_eq_true rfl, Nat.le_of_ble_eq_true rfl⟩ ⟨Nat.zero_le _, Nat.zero_le _⟩ hl.1 rfl (Nat.le_of_ble_eq_true rfl) d_x_change_40 ?_
        refine lv_iload_n hx hb d_x_change_43 rfl (lv_at hl 2 rfl) ?_
        refine ro_S (v := .long (f_x_only zb)) (As := [.int zb]) (rest := [.long (f_x_only za), .ref (ad 2)]) FX hK (c_x_only l D cA zb) trivial kc_x_only km_x_30 ki_x ks_x_only rfl ok_x_only ⟨Nat.le_of_ble_eq_true rfl, Nat.le_of_ble_eq_true rfl⟩ ⟨Nat.zero_le _, Nat.zero_le _⟩ hl.1 rfl (Nat.le_of_ble_eq_true rfl) d_x_change_44 ?_
        refine lv_lor hx hb d_x_change_47 ?_
        refine lv_iload_n hx hb d_x_change_48 rfl (lv_at hl 3 rfl) ?_
        refine ro_S (v := .long (f_x_only zc)) (As := [.int zc]) (rest := [.long ((f_x_only za) ||| (f_x_only zb)), .ref (ad 2)]) FX hK (c_x_only l D cA zc) trivial kc_x_only km_x_30 ki_x ks_x_only rfl ok_x_only ⟨Nat.le_of_ble_eq_true rfl, Nat.le_of_ble_eq_true rfl⟩ ⟨Nat.zero_le _, Nat.zero_le _⟩ hl.1 rfl (Nat.le_of_ble_eq_true rfl) d_x_change_49 ?_
        refine lv_lor hx hb d_x_change_52 ?_
        refine mu_V (As := [.long (((f_x_only za) ||| (f_x_only zb)) ||| (f_x_only zc))]) (rest := []) (q0 := 2) FX hK (c_g_add l D cA (ad 2) (ad 3) (ad 4) G.1 G.2.1 G.2.2.1 G.2.2.2.1 G.2.2.2.2 (((f_x_only za) ||| (f_x_only zb)) ||| (f_x_only zc))) (hP.sub [2, 3, 4] rfl) (hD.sub [2, 3, 4] (by decide) rfl) hP rfl rfl rfl kc_g_add km_x_34 ki_g ks_g_add ke_g_add rfl ok_g_add ⟨Nat.le_of_ble_eq_true rfl, Nat.le_of_ble_eq_true rfl⟩ ⟨Nat.zero_le _, Nat.zero_le _⟩ hl.1 rfl (Nat.le_of_ble_eq_true rfl) d_x_change_53 hS (fun q hq => aw_in hD [2, 3, 4] rfl q hq) (fun v0 H1 locs hv0 hz0 hk0 hS => ?_)
        obtain ⟨rfl, hP1, hD1⟩ := hv0
        obtain ⟨hP, hD⟩ := mu_join (wr := [(ad 0, .inr (0, [.ref (ad 2), .ref (ad 1), .int (nI nt)])), (ad 1, .inl (cA 1, 4, .inr (.inr (.inr (.inr (tvf ad nt))))))]) (w1 := [(ad 2, .inr (1, [.ref (ad 3), .ref (ad 4), .int ((f_g_add G.1 G.2.1 G.2.2.1 (((f_x_only za) ||| (f_x_only zb)) ||| (f_x_only zc))).2.2.2), .long G.2.2.2.1, .long G.2.2.2.2])), (ad 3, .inl (cA 0, 40, .inr (.inl ((f_g_add G.1 G.2.1 G.2.2.1 (((f_x_only za) ||| (f_x_only zb)) ||| (f_x_only zc))).2.1)))), (ad 4, .inl (cA 0, 40, .inr (.inl ((f_g_add G.1 G.2.1 G.2.2.1 (((f_x_only za) ||| (f_x_only zb)) ||| (f_x_only zc))).2.2.1))))]) hP hD [2, 3, 4] [0, 1] rfl rfl (by decide) (by decide) hk0 hP1 hD1
        have hP : va_P D classes [(ad 0, .inr (0, [.ref (ad 2), .ref (ad 1), .int (nI nt)])), (ad 1, .inl (cA 1, 4, .inr (.inr (.inr (.inr (tvf ad nt)))))), (ad 2, .inr (1, [.ref (ad 3), .ref (ad 4), .int ((f_g_add G.1 G.2.1 G.2.2.1 (((f_x_only za) ||| (f_x_only zb)) ||| (f_x_only zc))).2.2.2), .long G.2.2.2.1, .long G.2.2.2.2])), (ad 3, .inl (cA 0, 40, .inr (.inl ((f_g_add G.1 G.2.1 G.2.2.1 (((f_x_only za) ||| (f_x_only zb)) ||| (f_x_only zc))).2.1)))), (ad 4, .inl (cA 0, 40, .inr (.inl ((f_g_add G.1 G.2.1 G.2.2.1 (((f_x_only za) ||| (f_x_only zb)) ||| (f_x_only zc))).2.2.1))))] H1 := hP.sub [0, 1, 2, 3, 4] rfl
        have hD : va_D A [(ad 0, .inr (0, [.ref (ad 2), .ref (ad 1), .int (nI nt)])), (ad 1, .inl (cA 1, 4, .inr (.inr (.inr (.inr (tvf ad nt)))))), (ad 2, .inr (1, [.ref (ad 3), .ref (ad 4), .int ((f_g_add G.1 G.2.1 G.2.2.1 (((f_x_only za) ||| (f_x_only zb)) ||| (f_x_only zc))).2.2.2), .long G.2.2.2.1, .long G.2.2.2.2])), (ad 3, .inl (cA 0, 40, .inr (.inl ((f_g_add G.1 G.2.1 G.2.2.1 (((f_x_only za) ||| (f_x_only zb)) ||| (f_x_only zc))).2.1)))), (ad 4, .inl (cA 0, 40, .inr (.inl ((f_g_add G.1 G.2.1 G.2.2.1 (((f_x_only za) ||| (f_x_only zb)) ||| (f_x_only zc))).2.2.1))))] := hD.sub [0, 1, 2, 3, 4] (by decide) rfl
        generalize H1 = H at hP hS ⊢
        refine W.eq (g2 := F0 m 56 ls [.int ((f_g_add G.1 G.2.1 G.2.2.1 (((f_x_only za) ||| (f_x_only zb)) ||| (f_x_only zc))).1)]) rfl ?_
        exact mu_iret FX (S_mono hS hoA) (by rw [show (f_x_change G TT za zb zc) = ((f_g_add G.1 G.2.1 G.2.2.1 (((f_x_only za) ||| (f_x_only zb)) ||| (f_x_only zc))).1, ((f_g_add G.1 G.2.1 G.2.2.1 (((f_x_only za) ||| (f_x_only zb)) ||| (f_x_only zc))).2.1, (f_g_add G.1 G.2.1 G.2.2.1 (((f_x_only za) ||| (f_x_only zb)) ||| (f_x_only zc))).2.2.1, (f_g_add G.1 G.2.1 G.2.2.1 (((f_x_only za) ||| (f_x_only zb)) ||| (f_x_only zc))).2.2.2, G.2.2.2.1, G.2.2.2.2), TT) from (by rw [f_x_change, if_pos c1, if_pos c2, if_pos c3])]; exact ⟨rfl, wx_put5 (G' := ((f_g_add G.1 G.2.1 G.2.2.1 (((f_x_only za) ||| (f_x_only zb)) ||| (f_x_only zc))).2.1, (f_g_add G.1 G.2.1 G.2.2.1 (((f_x_only za) ||| (f_x_only zb)) ||| (f_x_only zc))).2.2.1, (f_g_add G.1 G.2.1 G.2.2.1 (((f_x_only za) ||| (f_x_only zb)) ||| (f_x_only zc))).2.2.2, G.2.2.2.1, G.2.2.2.2)) hW hinj hA hS hP⟩) d_x_change_56
      · have c3 := bz_f c3
        refine lv_iconst (v := (-1)) hx hb d_x_change_33 (by decide) ?_
        exact mu_iret FX va_S.rf (by rw [show (f_x_change G TT za zb zc) = ((-1), G, TT) from (by rw [f_x_change, if_pos c1, if_pos c2, if_neg c3])]; exact ⟨rfl, hW⟩) d_x_change_34
theorem d_x_good_0 : decode b_x_good 0 = .ok (.aload_n 0, 1) := by decide +kernel
theorem d_x_good_1 : decode b_x_good 1 = .ok (.iload_n 1, 1) := by decide +kernel
theorem d_x_good_2 : decode b_x_good 2 = .ok (.invokevirtual 51, 3) := by decide +kernel
theorem d_x_good_5 : decode b_x_good 5 = .ok (.astore_n 3, 1) := by decide +kernel
theorem d_x_good_6 : decode b_x_good 6 = .ok (.aload_n 3, 1) := by decide +kernel
theorem d_x_good_7 : decode b_x_good 7 = .ok (.ifnull 21, 3) := by decide +kernel
theorem d_x_good_10 : decode b_x_good 10 = .ok (.aload_n 0, 1) := by decide +kernel
theorem d_x_good_11 : decode b_x_good 11 = .ok (.getfield 10, 3) := by decide +kernel
theorem d_x_good_14 : decode b_x_good 14 = .ok (.iload_n 2, 1) := by decide +kernel
theorem d_x_good_15 : decode b_x_good 15 = .ok (.invokevirtual 38, 3) := by decide +kernel
theorem d_x_good_18 : decode b_x_good 18 = .ok (.ifCond .eq 10, 3) := by decide +kernel
theorem d_x_good_21 : decode b_x_good 21 = .ok (.aload_n 3, 1) := by decide +kernel
theorem d_x_good_22 : decode b_x_good 22 = .ok (.invokevirtual 55, 3) := by decide +kernel
theorem d_x_good_25 : decode b_x_good 25 = .ok (.ifCond .eq 5, 3) := by decide +kernel
theorem d_x_good_28 : decode b_x_good 28 = .ok (.iconst (-1), 1) := by decide +kernel
theorem d_x_good_29 : decode b_x_good 29 = .ok (.ireturn, 1) := by decide +kernel
theorem d_x_good_30 : decode b_x_good 30 = .ok (.aload_n 3, 1) := by decide +kernel
theorem d_x_good_31 : decode b_x_good 31 = .ok (.iload_n 2, 1) := by decide +kernel
theorem d_x_good_32 : decode b_x_good 32 = .ok (.invokevirtual 59, 3) := by decide +kernel
theorem d_x_good_35 : decode b_x_good 35 = .ok (.ifCond .eq 7, 3) := by decide +kernel
theorem d_x_good_38 : decode b_x_good 38 = .ok (.iconst 1, 1) := by decide +kernel
theorem d_x_good_39 : decode b_x_good 39 = .ok (.goto 4, 3) := by decide +kernel
theorem d_x_good_42 : decode b_x_good 42 = .ok (.iconst 0, 1) := by decide +kernel
theorem d_x_good_43 : decode b_x_good 43 = .ok (.ireturn, 1) := by decide +kernel
def f_x_good (nt : Nat) (G : GS) (TT : Nat → TS) (ta : Int32) (ch : Int32) : Int32 × GS × (Nat → TS) := om (f_x_targetAt nt ta)
    (((-1), G, TT))
    (fun j => if (f_g_holds G.2.2.1 ch) = true then
      (if (f_t_isSearched ((TT j).2.2.1)) = true then
        (((-1), G, TT))
      else
        (if ((f_t_markGood ((TT j).1) ((TT j).2.1) G.2.1 G.2.2.1 ch).1) = true then
          ((1, (G.1, G.2.1, G.2.2.1, G.2.2.2.1, G.2.2.2.2), va_up TT j ((f_t_markGood ((TT j).1) ((TT j).2.1) G.2.1 G.2.2.1 ch).2.1, (f_t_markGood ((TT j).1) ((TT j).2.1) G.2.1 G.2.2.1 ch).2.2, (TT j).2.2.1, (TT j).2.2.2.1, (TT j).2.2.2.2.1, (TT j).2.2.2.2.2.1, (TT j).2.2.2.2.2.2.1, (TT j).2.2.2.2.2.2.2.1, (TT j).2.2.2.2.2.2.2.2.1, (TT j).2.2.2.2.2.2.2.2.2)))
        else
          ((0, (G.1, G.2.1, G.2.2.1, G.2.2.2.1, G.2.2.2.2), va_up TT j ((f_t_markGood ((TT j).1) ((TT j).2.1) G.2.1 G.2.2.1 ch).2.1, (f_t_markGood ((TT j).1) ((TT j).2.1) G.2.1 G.2.2.1 ch).2.2, (TT j).2.2.1, (TT j).2.2.2.1, (TT j).2.2.2.2.1, (TT j).2.2.2.2.2.1, (TT j).2.2.2.2.2.2.1, (TT j).2.2.2.2.2.2.2.1, (TT j).2.2.2.2.2.2.2.2.1, (TT j).2.2.2.2.2.2.2.2.2)))))
    else
      (((-1), G, TT)))
set_option maxHeartbeats 4000000 in
set_option maxRecDepth 100000 in
theorem c_x_good (l : Launch) (D : va_G) (cA : Nat → ClassId) (ad : Nat → Nat) (nt : Nat) (G : GS) (TT : Nat → TS) (ta : Int32) (ch : Int32) (hnt : nt ≤ 4) (S : Nat) (hS40 : S ≤ 40) (hsz : G.2.2.1 = nI S) (hinj : adX ad nt) : Met l y_x_good (.code y_x_good b_x_good 4 (some .int) :: tb) (rmd 4) (Pro D cA [.ref (ad 0), .int ta, .int ch] (WX D cA ad nt G TT)) (Qmu (ox ad nt) (fun v0 H0 => v0 = some (.int (f_x_good nt G TT ta ch).1) ∧ WX D cA ad nt (f_x_good nt G TT ta ch).2.1 (f_x_good nt G TT ta ch).2.2 H0)) 0 0 (ox ad nt) := by
  refine ro_in (by decide) (Nat.le_of_ble_eq_true rfl) (fun p e s m below meth c ls FX hnm hK hW hl => ?_)
  have hl : lv_has ls 4 [(0, .ref (ad 0)), (1, .int ta), (2, .int ch)] := hl
  have hP : va_P D classes [(ad 0, .inr (0, [.ref (ad 2), .ref (ad 1), .int (nI nt)])), (ad 1, .inl (cA 1, 4, .inr (.inr (.inr (.inr (tvf ad nt)))))), (ad 2, .inr (1, [.ref (ad 3), .ref (ad 4), .int G.2.2.1, .long G.2.2.2.1, .long G.2.2.2.2])), (ad 3, .inl (cA 0, 40, .inr (.inl G.1))), (ad 4, .inl (cA 0, 40, .inr (.inl G.2.1)))] s.heap := hW.1
  generalize ([.ref (ad 0), .int ta, .int ch] : List Value).toArray = args at FX ⊢
  obtain ⟨hx, hb, hml, hown, hts, hr, hlk⟩ := id FX
  refine lv_aload_n hx hb d_x_good_0 rfl (lv_at hl 0 rfl) ?_
  refine lv_iload_n hx hb d_x_good_1 rfl (lv_at hl 1 rfl) ?_
  refine ro_V (v := va_rf ((f_x_targetAt nt ta).map (fun j => ad (5 + 2 * j)))) (As := [.int ta]) (rest := []) (q0 := 0) FX hK (c_x_targetAt l D cA ad nt G TT ta hnt S hS40 hsz) hW hP rfl rfl rfl kc_x_targetAt km_x_51 ki_x ks_x_targetAt ke_x_targetAt rfl ok_x_targetAt ⟨Nat.le_of_ble_eq_true rfl, Nat.le_of_ble_eq_true rfl⟩ ⟨Nat.zero_le _, Nat.zero_le _⟩ hl.1 rfl (Nat.le_of_ble_eq_true rfl) d_x_good_2 ?_
  cases hq1 : (f_x_targetAt nt ta) with
  | none =>
    refine W.eq (g2 := F0 m 5 ls [.null]) rfl ?_
    refine lv_astore_nN (lv' := [(3, .null), (0, .ref (ad 0)), (1, .int ta), (2, .int ch)]) hx hb d_x_good_5 rfl hl (by decide) rfl (fun ls hl => ?_)
    refine lv_aload_nN hx hb d_x_good_6 rfl (lv_at hl 0 rfl) ?_
    refine lv_ifnullN (tgt := 28) hx hb d_x_good_7 (by decide) ?_
    refine lv_iconst (v := (-1)) hx hb d_x_good_28 (by decide) ?_
    exact mu_iret FX va_S.rf (by rw [show (f_x_good nt G TT ta ch) = ((-1), G, TT) from (by rw [f_x_good, om_none hq1])]; exact ⟨rfl, hW⟩) d_x_good_29
  | some j =>
    have hj : j < nt := ta_lt hnt hq1
    have hP : va_P D classes [(ad (5 + 2 * j), .inr (2, [.ref (ad 2), .ref (ad (6 + 2 * j)), .long ((TT j).1), .long ((TT j).2.1), .int (bz (TT j).2.2.1), .int ((TT j).2.2.2.1), .int ((TT j).2.2.2.2.1), .int ((TT j).2.2.2.2.2.1), .int ((TT j).2.2.2.2.2.2.1), .int ((TT j).2.2.2.2.2.2.2.1), .int ((TT j).2.2.2.2.2.2.2.2.1)])), (ad (6 + 2 * j), .inl (cA 0, 40, .inr (.inl ((TT j).2.2.2.2.2.2.2.2.2)))), (ad 0, .inr (0, [.ref (ad 2), .ref (ad 1), .int (nI nt)])), (ad 1, .inl (cA 1, 4, .inr (.inr (.inr (.inr (tvf ad nt)))))), (ad 2, .inr (1, [.ref (ad 3), .ref (ad 4), .int G.2.2.1, .long G.2.2.2.1, .long G.2.2.2.2])), (ad 3, .inl (cA 0, 40, .inr (.inl G.1))), (ad 4, .inl (cA 0, 40, .inr (.inl G.2.1)))] s.heap := (hW.2 j hj).app hP
    have hD : va_D (aw [(ad (5 + 2 * j), .inr (2, [.ref (ad 2), .ref (ad (6 + 2 * j)), .long ((TT j).1), .long ((TT j).2.1), .int (bz (TT j).2.2.1), .int ((TT j).2.2.2.1), .int ((TT j).2.2.2.2.1), .int ((TT j).2.2.2.2.2.1), .int ((TT j).2.2.2.2.2.2.1), .int ((TT j).2.2.2.2.2.2.2.1), .int ((TT j).2.2.2.2.2.2.2.2.1)])), (ad (6 + 2 * j), .inl (cA 0, 40, .inr (.inl ((TT j).2.2.2.2.2.2.2.2.2)))), (ad 0, .inr (0, [.ref (ad 2), .ref (ad 1), .int (nI nt)])), (ad 1, .inl (cA 1, 4, .inr (.inr (.inr (.inr (tvf ad nt)))))), (ad 2, .inr (1, [.ref (ad 3), .ref (ad 4), .int G.2.2.1, .long G.2.2.2.1, .long G.2.2.2.2])), (ad 3, .inl (cA 0, 40, .inr (.inl G.1))), (ad 4, .inl (cA 0, 40, .inr (.inl G.2.1)))]) [(ad (5 + 2 * j), .inr (2, [.ref (ad 2), .ref (ad (6 + 2 * j)), .long ((TT j).1), .long ((TT j).2.1), .int (bz (TT j).2.2.1), .int ((TT j).2.2.2.1), .int ((TT j).2.2.2.2.1), .int ((TT j).2.2.2.2.2.1), .int ((TT j).2.2.2.2.2.2.1), .int ((TT j).2.2.2.2.2.2.2.1), .int ((TT j).2.2.2.2.2.2.2.2.1)])), (ad (6 + 2 * j), .inl (cA 0, 40, .inr (.inl ((TT j).2.2.2.2.2.2.2.2.2)))), (ad 0, .inr (0, [.ref (ad 2), .ref (ad 1), .int (nI nt)])), (ad 1, .inl (cA 1, 4, .inr (.inr (.inr (.inr (tvf ad nt)))))), (ad 2, .inr (1, [.ref (ad 3), .ref (ad 4), .int G.2.2.1, .long G.2.2.2.1, .long G.2.2.2.2])), (ad 3, .inl (cA 0, 40, .inr (.inl G.1))), (ad 4, .inl (cA 0, 40, .inr (.inl G.2.1)))] := aw_self (wx_d7 hinj hj (T := TT j) (G := G))
    have hoA : ∀ q, aw [(ad (5 + 2 * j), .inr (2, [.ref (ad 2), .ref (ad (6 + 2 * j)), .long ((TT j).1), .long ((TT j).2.1), .int (bz (TT j).2.2.1), .int ((TT j).2.2.2.1), .int ((TT j).2.2.2.2.1), .int ((TT j).2.2.2.2.2.1), .int ((TT j).2.2.2.2.2.2.1), .int ((TT j).2.2.2.2.2.2.2.1), .int ((TT j).2.2.2.2.2.2.2.2.1)])), (ad (6 + 2 * j), .inl (cA 0, 40, .inr (.inl ((TT j).2.2.2.2.2.2.2.2.2)))), (ad 0, .inr (0, [.ref (ad 2), .ref (ad 1), .int (nI nt)])), (ad 1, .inl (cA 1, 4, .inr (.inr (.inr (.inr (tvf ad nt)))))), (ad 2, .inr (1, [.ref (ad 3), .ref (ad 4), .int G.2.2.1, .long G.2.2.2.1, .long G.2.2.2.2])), (ad 3, .inl (cA 0, 40, .inr (.inl G.1))), (ad 4, .inl (cA 0, 40, .inr (.inl G.2.1)))] q → ox ad nt q := ox_7 hj (T := TT j) (G := G)
    obtain ⟨A, hA⟩ : ∃ A, A = aw [(ad (5 + 2 * j), .inr (2, [.ref (ad 2), .ref (ad (6 + 2 * j)), .long ((TT j).1), .long ((TT j).2.1), .int (bz (TT j).2.2.1), .int ((TT j).2.2.2.1), .int ((TT j).2.2.2.2.1), .int ((TT j).2.2.2.2.2.1), .int ((TT j).2.2.2.2.2.2.1), .int ((TT j).2.2.2.2.2.2.2.1), .int ((TT j).2.2.2.2.2.2.2.2.1)])), (ad (6 + 2 * j), .inl (cA 0, 40, .inr (.inl ((TT j).2.2.2.2.2.2.2.2.2)))), (ad 0, .inr (0, [.ref (ad 2), .ref (ad 1), .int (nI nt)])), (ad 1, .inl (cA 1, 4, .inr (.inr (.inr (.inr (tvf ad nt)))))), (ad 2, .inr (1, [.ref (ad 3), .ref (ad 4), .int G.2.2.1, .long G.2.2.2.1, .long G.2.2.2.2])), (ad 3, .inl (cA 0, 40, .inr (.inl G.1))), (ad 4, .inl (cA 0, 40, .inr (.inl G.2.1)))] := ⟨_, rfl⟩
    rw [← hA] at hD hoA
    have hS : va_S A s.heap s.heap [] := va_S.rf
    refine W.eq (g2 := F0 m 5 ls [.ref (ad (5 + 2 * j))]) rfl ?_
    refine lv_astore_n (lv' := [(3, .ref (ad (5 + 2 * j))), (0, .ref (ad 0)), (1, .int ta), (2, .int ch)]) hx hb d_x_good_5 rfl hl (by decide) rfl (fun ls hl => ?_)
    refine lv_aload_n hx hb d_x_good_6 rfl (lv_at hl 0 rfl) ?_
    refine lv_ifnull hx hb d_x_good_7 ?_
    refine lv_aload_n hx hb d_x_good_10 rfl (lv_at hl 1 rfl) ?_
    refine ro_get (v := .ref (ad 2)) FX hK hP 2 0 rfl rfl rfl i_x (by decide) kf_x_10 d_x_good_11 ?_
    refine lv_iload_n hx hb d_x_good_14 rfl (lv_at hl 3 rfl) ?_
    refine ro_V (v := .int (bz (f_g_holds G.2.2.1 ch))) (As := [.int ch]) (rest := []) (q0 := 4) FX hK (c_g_holds l D cA (ad 2) (ad 3) (ad 4) G.1 G.2.1 G.2.2.1 G.2.2.2.1 G.2.2.2.2 ch) (hP.sub [4, 5, 6] rfl) hP rfl rfl rfl kc_g_holds km_x_38 ki_g ks_g_holds ke_g_holds rfl ok_g_holds ⟨Nat.le_of_ble_eq_true rfl, Nat.le_of_ble_eq_true rfl⟩ ⟨Nat.zero_le _, Nat.zero_le _⟩ hl.1 rfl (Nat.le_of_ble_eq_true rfl) d_x_good_15 ?_
    refine lv_if_eq (tgt := 28) hx hb d_x_good_18 (by decide) (fun c2 => ?_) (fun c2 => ?_)
    · have c2 := bz_f c2
      refine lv_iconst (v := (-1)) hx hb d_x_good_28 (by decide) ?_
      exact mu_iret FX va_S.rf (by rw [show (f_x_good nt G TT ta ch) = ((-1), G, TT) from (by rw [f_x_good, om_some hq1, if_neg c2])]; exact ⟨rfl, hW⟩) d_x_good_29
    · have c2 := bz_t c2
      refine lv_aload_n hx hb d_x_good_21 rfl (lv_at hl 0 rfl) ?_
      refine ro_V (v := .int (bz (f_t_isSearched ((TT j).2.2.1)))) (As := []) (rest := []) (q0 := 0) FX hK (c_t_isSearched l D cA (ad (5 + 2 * j)) (ad (6 + 2 * j)) ((TT j).1) ((TT j).2.1) ((TT j).2.2.1) ((TT j).2.2.2.1) ((TT j).2.2.2.2.1) ((TT j).2.2.2.2.2.1) ((TT j).2.2.2.2.2.2.1) ((TT j).2.2.2.2.2.2.2.1) ((TT j).2.2.2.2.2.2.2.2.1) ((TT j).2.2.2.2.2.2.2.2.2) (ad 2) (ad 3) (ad 4) G.1 G.2.1 G.2.2.1 G.2.2.2.1 G.2.2.2.2) (hP.sub [0, 1, 4, 5, 6] rfl) hP rfl rfl rfl kc_t_isSearched km_x_55 ki_t ks_t_isSearched ke_t_isSearched rfl ok_t_isSearched ⟨Nat.le_of_ble_eq_true rfl, Nat.le_of_ble_eq_true rfl⟩ ⟨Nat.zero_le _, Nat.zero_le _⟩ hl.1 rfl (Nat.le_of_ble_eq_true rfl) d_x_good_22 ?_
      refine lv_if_eq (tgt := 30) hx hb d_x_good_25 (by decide) (fun c3 => ?_) (fun c3 => ?_)
      · have c3 := bz_f c3
        refine lv_aload_n hx hb d_x_good_30 rfl (lv_at hl 0 rfl) ?_
        refine lv_iload_n hx hb d_x_good_31 rfl (lv_at hl 3 rfl) ?_
        refine mu_V (As := [.int ch]) (rest := []) (q0 := 0) FX hK (c_t_markGood l D cA (ad (5 + 2 * j)) (ad (6 + 2 * j)) ((TT j).1) ((TT j).2.1) ((TT j).2.2.1) ((TT j).2.2.2.1) ((TT j).2.2.2.2.1) ((TT j).2.2.2.2.2.1) ((TT j).2.2.2.2.2.2.1) ((TT j).2.2.2.2.2.2.2.1) ((TT j).2.2.2.2.2.2.2.2.1) ((TT j).2.2.2.2.2.2.2.2.2) (ad 2) (ad 3) (ad 4) G.1 G.2.1 G.2.2.1 G.2.2.2.1 G.2.2.2.2 ch) (hP.sub [0, 1, 4, 5, 6] rfl) (hD.sub [0, 1, 4, 5, 6] (by decide) rfl) hP rfl rfl rfl kc_t_markGood km_x_59 ki_t ks_t_markGood ke_t_markGood rfl ok_t_markGood ⟨Nat.le_of_ble_eq_true rfl, Nat.le_of_ble_eq_true rfl⟩ ⟨Nat.zero_le _, Nat.zero_le _⟩ hl.1 rfl (Nat.le_of_ble_eq_true rfl) d_x_good_32 hS (fun q hq => aw_in hD [0, 1, 4, 5, 6] rfl q hq) (fun v0 H1 locs hv0 hz0 hk0 hS => ?_)
        obtain ⟨rfl, hP1, hD1⟩ := hv0
        obtain ⟨hP, hD⟩ := mu_join (wr := [(ad 0, .inr (0, [.ref (ad 2), .ref (ad 1), .int (nI nt)])), (ad 1, .inl (cA 1, 4, .inr (.inr (.inr (.inr (tvf ad nt))))))]) (w1 := [(ad (5 + 2 * j), .inr (2, [.ref (ad 2), .ref (ad (6 + 2 * j)), .long ((f_t_markGood ((TT j).1) ((TT j).2.1) G.2.1 G.2.2.1 ch).2.1), .long ((f_t_markGood ((TT j).1) ((TT j).2.1) G.2.1 G.2.2.1 ch).2.2), .int (bz (TT j).2.2.1), .int ((TT j).2.2.2.1), .int ((TT j).2.2.2.2.1), .int ((TT j).2.2.2.2.2.1), .int ((TT j).2.2.2.2.2.2.1), .int ((TT j).2.2.2.2.2.2.2.1), .int ((TT j).2.2.2.2.2.2.2.2.1)])), (ad (6 + 2 * j), .inl (cA 0, 40, .inr (.inl ((TT j).2.2.2.2.2.2.2.2.2)))), (ad 2, .inr (1, [.ref (ad 3), .ref (ad 4), .int G.2.2.1, .long G.2.2.2.1, .long G.2.2.2.2])), (ad 3, .inl (cA 0, 40, .inr (.inl G.1))), (ad 4, .inl (cA 0, 40, .inr (.inl G.2.1)))]) hP hD [0, 1, 4, 5, 6] [2, 3] rfl rfl (by decide) (by decide) hk0 hP1 hD1
        have hP : va_P D classes [(ad (5 + 2 * j), .inr (2, [.ref (ad 2), .ref (ad (6 + 2 * j)), .long ((f_t_markGood ((TT j).1) ((TT j).2.1) G.2.1 G.2.2.1 ch).2.1), .long ((f_t_markGood ((TT j).1) ((TT j).2.1) G.2.1 G.2.2.1 ch).2.2), .int (bz (TT j).2.2.1), .int ((TT j).2.2.2.1), .int ((TT j).2.2.2.2.1), .int ((TT j).2.2.2.2.2.1), .int ((TT j).2.2.2.2.2.2.1), .int ((TT j).2.2.2.2.2.2.2.1), .int ((TT j).2.2.2.2.2.2.2.2.1)])), (ad (6 + 2 * j), .inl (cA 0, 40, .inr (.inl ((TT j).2.2.2.2.2.2.2.2.2)))), (ad 0, .inr (0, [.ref (ad 2), .ref (ad 1), .int (nI nt)])), (ad 1, .inl (cA 1, 4, .inr (.inr (.inr (.inr (tvf ad nt)))))), (ad 2, .inr (1, [.ref (ad 3), .ref (ad 4), .int G.2.2.1, .long G.2.2.2.1, .long G.2.2.2.2])), (ad 3, .inl (cA 0, 40, .inr (.inl G.1))), (ad 4, .inl (cA 0, 40, .inr (.inl G.2.1)))] H1 := hP.sub [2, 3, 0, 1, 4, 5, 6] rfl
        have hD : va_D A [(ad (5 + 2 * j), .inr (2, [.ref (ad 2), .ref (ad (6 + 2 * j)), .long ((f_t_markGood ((TT j).1) ((TT j).2.1) G.2.1 G.2.2.1 ch).2.1), .long ((f_t_markGood ((TT j).1) ((TT j).2.1) G.2.1 G.2.2.1 ch).2.2), .int (bz (TT j).2.2.1), .int ((TT j).2.2.2.1), .int ((TT j).2.2.2.2.1), .int ((TT j).2.2.2.2.2.1), .int ((TT j).2.2.2.2.2.2.1), .int ((TT j).2.2.2.2.2.2.2.1), .int ((TT j).2.2.2.2.2.2.2.2.1)])), (ad (6 + 2 * j), .inl (cA 0, 40, .inr (.inl ((TT j).2.2.2.2.2.2.2.2.2)))), (ad 0, .inr (0, [.ref (ad 2), .ref (ad 1), .int (nI nt)])), (ad 1, .inl (cA 1, 4, .inr (.inr (.inr (.inr (tvf ad nt)))))), (ad 2, .inr (1, [.ref (ad 3), .ref (ad 4), .int G.2.2.1, .long G.2.2.2.1, .long G.2.2.2.2])), (ad 3, .inl (cA 0, 40, .inr (.inl G.1))), (ad 4, .inl (cA 0, 40, .inr (.inl G.2.1)))] := hD.sub [2, 3, 0, 1, 4, 5, 6] (by decide) rfl
        generalize H1 = H at hP hS ⊢
        refine W.eq (g2 := F0 m 35 ls [.int (bz ((f_t_markGood ((TT j).1) ((TT j).2.1) G.2.1 G.2.2.1 ch).1))]) rfl ?_
        refine lv_if_eq (tgt := 42) hx hb d_x_good_35 (by decide) (fun c4 => ?_) (fun c4 => ?_)
        · have c4 := bz_f c4
          refine lv_iconst (v := 0) hx hb d_x_good_42 (by decide) ?_
          exact mu_iret FX (S_mono hS hoA) (by rw [show (f_x_good nt G TT ta ch) = (0, (G.1, G.2.1, G.2.2.1, G.2.2.2.1, G.2.2.2.2), va_up TT j ((f_t_markGood ((TT j).1) ((TT j).2.1) G.2.1 G.2.2.1 ch).2.1, (f_t_markGood ((TT j).1) ((TT j).2.1) G.2.1 G.2.2.1 ch).2.2, (TT j).2.2.1, (TT j).2.2.2.1, (TT j).2.2.2.2.1, (TT j).2.2.2.2.2.1, (TT j).2.2.2.2.2.2.1, (TT j).2.2.2.2.2.2.2.1, (TT j).2.2.2.2.2.2.2.2.1, (TT j).2.2.2.2.2.2.2.2.2)) from (by rw [f_x_good, om_some hq1, if_pos c2, if_neg c3, if_neg c4])]; exact ⟨rfl, wx_put7 (G' := (G.1, G.2.1, G.2.2.1, G.2.2.2.1, G.2.2.2.2)) (T' := ((f_t_markGood ((TT j).1) ((TT j).2.1) G.2.1 G.2.2.1 ch).2.1, (f_t_markGood ((TT j).1) ((TT j).2.1) G.2.1 G.2.2.1 ch).2.2, (TT j).2.2.1, (TT j).2.2.2.1, (TT j).2.2.2.2.1, (TT j).2.2.2.2.2.1, (TT j).2.2.2.2.2.2.1, (TT j).2.2.2.2.2.2.2.1, (TT j).2.2.2.2.2.2.2.2.1, (TT j).2.2.2.2.2.2.2.2.2)) hW hinj hj hA hS hP⟩) d_x_good_43
        · have c4 := bz_t c4
          refine lv_iconst (v := 1) hx hb d_x_good_38 (by decide) ?_
          refine lv_goto (tgt := 43) hx hb d_x_good_39 (by decide) ?_
          exact mu_iret FX (S_mono hS hoA) (by rw [show (f_x_good nt G TT ta ch) = (1, (G.1, G.2.1, G.2.2.1, G.2.2.2.1, G.2.2.2.2), va_up TT j ((f_t_markGood ((TT j).1) ((TT j).2.1) G.2.1 G.2.2.1 ch).2.1, (f_t_markGood ((TT j).1) ((TT j).2.1) G.2.1 G.2.2.1 ch).2.2, (TT j).2.2.1, (TT j).2.2.2.1, (TT j).2.2.2.2.1, (TT j).2.2.2.2.2.1, (TT j).2.2.2.2.2.2.1, (TT j).2.2.2.2.2.2.2.1, (TT j).2.2.2.2.2.2.2.2.1, (TT j).2.2.2.2.2.2.2.2.2)) from (by rw [f_x_good, om_some hq1, if_pos c2, if_neg c3, if_pos c4])]; exact ⟨rfl, wx_put7 (G' := (G.1, G.2.1, G.2.2.1, G.2.2.2.1, G.2.2.2.2)) (T' := ((f_t_markGood ((TT j).1) ((TT j).2.1) G.2.1 G.2.2.1 ch).2.1, (f_t_markGood ((TT j).1) ((TT j).2.1) G.2.1 G.2.2.1 ch).2.2, (TT j).2.2.1, (TT j).2.2.2.1, (TT j).2.2.2.2.1, (TT j).2.2.2.2.2.1, (TT j).2.2.2.2.2.2.1, (TT j).2.2.2.2.2.2.2.1, (TT j).2.2.2.2.2.2.2.2.1, (TT j).2.2.2.2.2.2.2.2.2)) hW hinj hj hA hS hP⟩) d_x_good_43
      · have c3 := bz_t c3
        refine lv_iconst (v := (-1)) hx hb d_x_good_28 (by decide) ?_
        exact mu_iret FX va_S.rf (by rw [show (f_x_good nt G TT ta ch) = ((-1), G, TT) from (by rw [f_x_good, om_some hq1, if_pos c2, if_pos c3])]; exact ⟨rfl, hW⟩) d_x_good_29
theorem d_x_begin_0 : decode b_x_begin 0 = .ok (.aload_n 0, 1) := by decide +kernel
theorem d_x_begin_1 : decode b_x_begin 1 = .ok (.iload_n 1, 1) := by decide +kernel
theorem d_x_begin_2 : decode b_x_begin 2 = .ok (.invokevirtual 51, 3) := by decide +kernel
theorem d_x_begin_5 : decode b_x_begin 5 = .ok (.astore 6, 2) := by decide +kernel
theorem d_x_begin_7 : decode b_x_begin 7 = .ok (.aload 6, 2) := by decide +kernel
theorem d_x_begin_9 : decode b_x_begin 9 = .ok (.ifnull 31, 3) := by decide +kernel
theorem d_x_begin_12 : decode b_x_begin 12 = .ok (.aload_n 0, 1) := by decide +kernel
theorem d_x_begin_13 : decode b_x_begin 13 = .ok (.getfield 10, 3) := by decide +kernel
theorem d_x_begin_16 : decode b_x_begin 16 = .ok (.iload_n 2, 1) := by decide +kernel
theorem d_x_begin_17 : decode b_x_begin 17 = .ok (.invokevirtual 38, 3) := by decide +kernel
theorem d_x_begin_20 : decode b_x_begin 20 = .ok (.ifCond .eq 20, 3) := by decide +kernel
theorem d_x_begin_23 : decode b_x_begin 23 = .ok (.iload_n 3, 1) := by decide +kernel
theorem d_x_begin_24 : decode b_x_begin 24 = .ok (.iload 4, 2) := by decide +kernel
theorem d_x_begin_26 : decode b_x_begin 26 = .ok (.invokestatic 62, 3) := by decide +kernel
theorem d_x_begin_29 : decode b_x_begin 29 = .ok (.ifCond .eq 11, 3) := by decide +kernel
theorem d_x_begin_32 : decode b_x_begin 32 = .ok (.iload 5, 2) := by decide +kernel
theorem d_x_begin_34 : decode b_x_begin 34 = .ok (.invokestatic 66, 3) := by decide +kernel
theorem d_x_begin_37 : decode b_x_begin 37 = .ok (.ifCond .ne 5, 3) := by decide +kernel
theorem d_x_begin_40 : decode b_x_begin 40 = .ok (.iconst (-1), 1) := by decide +kernel
theorem d_x_begin_41 : decode b_x_begin 41 = .ok (.ireturn, 1) := by decide +kernel
theorem d_x_begin_42 : decode b_x_begin 42 = .ok (.aload 6, 2) := by decide +kernel
theorem d_x_begin_44 : decode b_x_begin 44 = .ok (.iload_n 2, 1) := by decide +kernel
theorem d_x_begin_45 : decode b_x_begin 45 = .ok (.invokevirtual 69, 3) := by decide +kernel
theorem d_x_begin_48 : decode b_x_begin 48 = .ok (.ifCond .eq 6, 3) := by decide +kernel
theorem d_x_begin_51 : decode b_x_begin 51 = .ok (.bipush (-2), 2) := by decide +kernel
theorem d_x_begin_53 : decode b_x_begin 53 = .ok (.ireturn, 1) := by decide +kernel
theorem d_x_begin_54 : decode b_x_begin 54 = .ok (.aload 6, 2) := by decide +kernel
theorem d_x_begin_56 : decode b_x_begin 56 = .ok (.iload_n 2, 1) := by decide +kernel
theorem d_x_begin_57 : decode b_x_begin 57 = .ok (.iload_n 3, 1) := by decide +kernel
theorem d_x_begin_58 : decode b_x_begin 58 = .ok (.iload 4, 2) := by decide +kernel
theorem d_x_begin_60 : decode b_x_begin 60 = .ok (.iload 5, 2) := by decide +kernel
theorem d_x_begin_62 : decode b_x_begin 62 = .ok (.invokevirtual 72, 3) := by decide +kernel
theorem d_x_begin_65 : decode b_x_begin 65 = .ok (.ireturn, 1) := by decide +kernel
def f_x_begin (nt : Nat) (G : GS) (TT : Nat → TS) (ta : Int32) (zb : Int32) (zp : Int32) (zq : Int32) (zu : Int32) : Int32 × GS × (Nat → TS) := om (f_x_targetAt nt ta)
    (((-1), G, TT))
    (fun j => if (f_g_holds G.2.2.1 zb) = true then
      (if (f_x_isFlake zp zq) = true then
        (if (f_x_isSure zu) = true then
          (if (f_t_isCleared ((TT j).2.1) zb) = true then
            (((-2), G, TT))
          else
            (((f_t_start ((TT j).2.1) ((TT j).2.2.2.2.2.2.2.2.2) G.2.1 G.2.2.1 zb zp zq zu).1, (G.1, G.2.1, G.2.2.1, G.2.2.2.1, G.2.2.2.2), va_up TT j ((TT j).1, (TT j).2.1, ((f_t_start ((TT j).2.1) ((TT j).2.2.2.2.2.2.2.2.2) G.2.1 G.2.2.1 zb zp zq zu).2.1), (f_t_start ((TT j).2.1) ((TT j).2.2.2.2.2.2.2.2.2) G.2.1 G.2.2.1 zb zp zq zu).2.2.1, (f_t_start ((TT j).2.1) ((TT j).2.2.2.2.2.2.2.2.2) G.2.1 G.2.2.1 zb zp zq zu).2.2.2.1, (f_t_start ((TT j).2.1) ((TT j).2.2.2.2.2.2.2.2.2) G.2.1 G.2.2.1 zb zp zq zu).2.2.2.2.1, (f_t_start ((TT j).2.1) ((TT j).2.2.2.2.2.2.2.2.2) G.2.1 G.2.2.1 zb zp zq zu).2.2.2.2.2.1, (f_t_start ((TT j).2.1) ((TT j).2.2.2.2.2.2.2.2.2) G.2.1 G.2.2.1 zb zp zq zu).2.2.2.2.2.2.1, (TT j).2.2.2.2.2.2.2.2.1, (f_t_start ((TT j).2.1) ((TT j).2.2.2.2.2.2.2.2.2) G.2.1 G.2.2.1 zb zp zq zu).2.2.2.2.2.2.2))))
        else
          (((-1), G, TT)))
      else
        (((-1), G, TT)))
    else
      (((-1), G, TT)))
set_option maxHeartbeats 4000000 in
set_option maxRecDepth 100000 in
theorem c_x_begin (l : Launch) (D : va_G) (cA : Nat → ClassId) (ad : Nat → Nat) (nt : Nat) (G : GS) (TT : Nat → TS) (ta : Int32) (zb : Int32) (zp : Int32) (zq : Int32) (zu : Int32) (hnt : nt ≤ 4) (S : Nat) (hS40 : S ≤ 40) (hsz : G.2.2.1 = nI S) (hinj : adX ad nt) : Met l y_x_begin (.code y_x_begin b_x_begin 7 (some .int) :: tb) (rmd 4) (Pro D cA [.ref (ad 0), .int ta, .int zb, .int zp, .int zq, .int zu] (WX D cA ad nt G TT)) (Qmu (ox ad nt) (fun v0 H0 => v0 = some (.int (f_x_begin nt G TT ta zb zp zq zu).1) ∧ WX D cA ad nt (f_x_begin nt G TT ta zb zp zq zu).2.1 (f_x_begin nt G TT ta zb zp zq zu).2.2 H0)) 0 0 (ox ad nt) := by
  refine ro_in (by decide) (Nat.le_of_ble_eq_true rfl) (fun p e s m below meth c ls FX hnm hK hW hl => ?_)
  have hl : lv_has ls 7 [(0, .ref (ad 0)), (1, .int ta), (2, .int zb), (3, .int zp), (4, .int zq), (5, .int zu)] := hl
  have hP : va_P D classes [(ad 0, .inr (0, [.ref (ad 2), .ref (ad 1), .int (nI nt)])), (ad 1, .inl (cA 1, 4, .inr (.inr (.inr (.inr (tvf ad nt)))))), (ad 2, .inr (1, [.ref (ad 3), .ref (ad 4), .int G.2.2.1, .long G.2.2.2.1, .long G.2.2.2.2])), (ad 3, .inl (cA 0, 40, .inr (.inl G.1))), (ad 4, .inl (cA 0, 40, .inr (.inl G.2.1)))] s.heap := hW.1
  generalize ([.ref (ad 0), .int ta, .int zb, .int zp, .int zq, .int zu] : List Value).toArray = args at FX ⊢
  obtain ⟨hx, hb, hml, hown, hts, hr, hlk⟩ := id FX
  refine lv_aload_n hx hb d_x_begin_0 rfl (lv_at hl 0 rfl) ?_
  refine lv_iload_n hx hb d_x_begin_1 rfl (lv_at hl 1 rfl) ?_
  refine ro_V (v := va_rf ((f_x_targetAt nt ta).map (fun j => ad (5 + 2 * j)))) (As := [.int ta]) (rest := []) (q0 := 0) FX hK (c_x_targetAt l D cA ad nt G TT ta hnt S hS40 hsz) hW hP rfl rfl rfl kc_x_targetAt km_x_51 ki_x ks_x_targetAt ke_x_targetAt rfl ok_x_targetAt ⟨Nat.le_of_ble_eq_true rfl, Nat.le_of_ble_eq_true rfl⟩ ⟨Nat.zero_le _, Nat.zero_le _⟩ hl.1 rfl (Nat.le_of_ble_eq_true rfl) d_x_begin_2 ?_
  cases hq1 : (f_x_targetAt nt ta) with
  | none =>
    refine W.eq (g2 := F0 m 5 ls [.null]) rfl ?_
    refine lv_astoreN (lv' := [(6, .null), (0, .ref (ad 0)), (1, .int ta), (2, .int zb), (3, .int zp), (4, .int zq), (5, .int zu)]) hx hb d_x_begin_5 hl (by decide) rfl (fun ls hl => ?_)
    refine lv_aloadN hx hb d_x_begin_7 (lv_at hl 0 rfl) ?_
    refine lv_ifnullN (tgt := 40) hx hb d_x_begin_9 (by decide) ?_
    refine lv_iconst (v := (-1)) hx hb d_x_begin_40 (by decide) ?_
    exact mu_iret FX va_S.rf (by rw [show (f_x_begin nt G TT ta zb zp zq zu) = ((-1), G, TT) from (by rw [f_x_begin, om_none hq1])]; exact ⟨rfl, hW⟩) d_x_begin_41
  | some j =>
    have hj : j < nt := ta_lt hnt hq1
    have hP : va_P D classes [(ad (5 + 2 * j), .inr (2, [.ref (ad 2), .ref (ad (6 + 2 * j)), .long ((TT j).1), .long ((TT j).2.1), .int (bz (TT j).2.2.1), .int ((TT j).2.2.2.1), .int ((TT j).2.2.2.2.1), .int ((TT j).2.2.2.2.2.1), .int ((TT j).2.2.2.2.2.2.1), .int ((TT j).2.2.2.2.2.2.2.1), .int ((TT j).2.2.2.2.2.2.2.2.1)])), (ad (6 + 2 * j), .inl (cA 0, 40, .inr (.inl ((TT j).2.2.2.2.2.2.2.2.2)))), (ad 0, .inr (0, [.ref (ad 2), .ref (ad 1), .int (nI nt)])), (ad 1, .inl (cA 1, 4, .inr (.inr (.inr (.inr (tvf ad nt)))))), (ad 2, .inr (1, [.ref (ad 3), .ref (ad 4), .int G.2.2.1, .long G.2.2.2.1, .long G.2.2.2.2])), (ad 3, .inl (cA 0, 40, .inr (.inl G.1))), (ad 4, .inl (cA 0, 40, .inr (.inl G.2.1)))] s.heap := (hW.2 j hj).app hP
    have hD : va_D (aw [(ad (5 + 2 * j), .inr (2, [.ref (ad 2), .ref (ad (6 + 2 * j)), .long ((TT j).1), .long ((TT j).2.1), .int (bz (TT j).2.2.1), .int ((TT j).2.2.2.1), .int ((TT j).2.2.2.2.1), .int ((TT j).2.2.2.2.2.1), .int ((TT j).2.2.2.2.2.2.1), .int ((TT j).2.2.2.2.2.2.2.1), .int ((TT j).2.2.2.2.2.2.2.2.1)])), (ad (6 + 2 * j), .inl (cA 0, 40, .inr (.inl ((TT j).2.2.2.2.2.2.2.2.2)))), (ad 0, .inr (0, [.ref (ad 2), .ref (ad 1), .int (nI nt)])), (ad 1, .inl (cA 1, 4, .inr (.inr (.inr (.inr (tvf ad nt)))))), (ad 2, .inr (1, [.ref (ad 3), .ref (ad 4), .int G.2.2.1, .long G.2.2.2.1, .long G.2.2.2.2])), (ad 3, .inl (cA 0, 40, .inr (.inl G.1))), (ad 4, .inl (cA 0, 40, .inr (.inl G.2.1)))]) [(ad (5 + 2 * j), .inr (2, [.ref (ad 2), .ref (ad (6 + 2 * j)), .long ((TT j).1), .long ((TT j).2.1), .int (bz (TT j).2.2.1), .int ((TT j).2.2.2.1), .int ((TT j).2.2.2.2.1), .int ((TT j).2.2.2.2.2.1), .int ((TT j).2.2.2.2.2.2.1), .int ((TT j).2.2.2.2.2.2.2.1), .int ((TT j).2.2.2.2.2.2.2.2.1)])), (ad (6 + 2 * j), .inl (cA 0, 40, .inr (.inl ((TT j).2.2.2.2.2.2.2.2.2)))), (ad 0, .inr (0, [.ref (ad 2), .ref (ad 1), .int (nI nt)])), (ad 1, .inl (cA 1, 4, .inr (.inr (.inr (.inr (tvf ad nt)))))), (ad 2, .inr (1, [.ref (ad 3), .ref (ad 4), .int G.2.2.1, .long G.2.2.2.1, .long G.2.2.2.2])), (ad 3, .inl (cA 0, 40, .inr (.inl G.1))), (ad 4, .inl (cA 0, 40, .inr (.inl G.2.1)))] := aw_self (wx_d7 hinj hj (T := TT j) (G := G))
    have hoA : ∀ q, aw [(ad (5 + 2 * j), .inr (2, [.ref (ad 2), .ref (ad (6 + 2 * j)), .long ((TT j).1), .long ((TT j).2.1), .int (bz (TT j).2.2.1), .int ((TT j).2.2.2.1), .int ((TT j).2.2.2.2.1), .int ((TT j).2.2.2.2.2.1), .int ((TT j).2.2.2.2.2.2.1), .int ((TT j).2.2.2.2.2.2.2.1), .int ((TT j).2.2.2.2.2.2.2.2.1)])), (ad (6 + 2 * j), .inl (cA 0, 40, .inr (.inl ((TT j).2.2.2.2.2.2.2.2.2)))), (ad 0, .inr (0, [.ref (ad 2), .ref (ad 1), .int (nI nt)])), (ad 1, .inl (cA 1, 4, .inr (.inr (.inr (.inr (tvf ad nt)))))), (ad 2, .inr (1, [.ref (ad 3), .ref (ad 4), .int G.2.2.1, .long G.2.2.2.1, .long G.2.2.2.2])), (ad 3, .inl (cA 0, 40, .inr (.inl G.1))), (ad 4, .inl (cA 0, 40, .inr (.inl G.2.1)))] q → ox ad nt q := ox_7 hj (T := TT j) (G := G)
    obtain ⟨A, hA⟩ : ∃ A, A = aw [(ad (5 + 2 * j), .inr (2, [.ref (ad 2), .ref (ad (6 + 2 * j)), .long ((TT j).1), .long ((TT j).2.1), .int (bz (TT j).2.2.1), .int ((TT j).2.2.2.1), .int ((TT j).2.2.2.2.1), .int ((TT j).2.2.2.2.2.1), .int ((TT j).2.2.2.2.2.2.1), .int ((TT j).2.2.2.2.2.2.2.1), .int ((TT j).2.2.2.2.2.2.2.2.1)])), (ad (6 + 2 * j), .inl (cA 0, 40, .inr (.inl ((TT j).2.2.2.2.2.2.2.2.2)))), (ad 0, .inr (0, [.ref (ad 2), .ref (ad 1), .int (nI nt)])), (ad 1, .inl (cA 1, 4, .inr (.inr (.inr (.inr (tvf ad nt)))))), (ad 2, .inr (1, [.ref (ad 3), .ref (ad 4), .int G.2.2.1, .long G.2.2.2.1, .long G.2.2.2.2])), (ad 3, .inl (cA 0, 40, .inr (.inl G.1))), (ad 4, .inl (cA 0, 40, .inr (.inl G.2.1)))] := ⟨_, rfl⟩
    rw [← hA] at hD hoA
    have hS : va_S A s.heap s.heap [] := va_S.rf
    refine W.eq (g2 := F0 m 5 ls [.ref (ad (5 + 2 * j))]) rfl ?_
    refine lv_astore (lv' := [(6, .ref (ad (5 + 2 * j))), (0, .ref (ad 0)), (1, .int ta), (2, .int zb), (3, .int zp), (4, .int zq), (5, .int zu)]) hx hb d_x_begin_5 hl (by decide) rfl (fun ls hl => ?_)
    refine lv_aload hx hb d_x_begin_7 (lv_at hl 0 rfl) ?_
    refine lv_ifnull hx hb d_x_begin_9 ?_
    refine lv_aload_n hx hb d_x_begin_12 rfl (lv_at hl 1 rfl) ?_
    refine ro_get (v := .ref (ad 2)) FX hK hP 2 0 rfl rfl rfl i_x (by decide) kf_x_10 d_x_begin_13 ?_
    refine lv_iload_n hx hb d_x_begin_16 rfl (lv_at hl 3 rfl) ?_
    refine ro_V (v := .int (bz (f_g_holds G.2.2.1 zb))) (As := [.int zb]) (rest := []) (q0 := 4) FX hK (c_g_holds l D cA (ad 2) (ad 3) (ad 4) G.1 G.2.1 G.2.2.1 G.2.2.2.1 G.2.2.2.2 zb) (hP.sub [4, 5, 6] rfl) hP rfl rfl rfl kc_g_holds km_x_38 ki_g ks_g_holds ke_g_holds rfl ok_g_holds ⟨Nat.le_of_ble_eq_true rfl, Nat.le_of_ble_eq_true rfl⟩ ⟨Nat.zero_le _, Nat.zero_le _⟩ hl.1 rfl (Nat.le_of_ble_eq_true rfl) d_x_begin_17 ?_
    refine lv_if_eq (tgt := 40) hx hb d_x_begin_20 (by decide) (fun c2 => ?_) (fun c2 => ?_)
    · have c2 := bz_f c2
      refine lv_iconst (v := (-1)) hx hb d_x_begin_40 (by decide) ?_
      exact mu_iret FX va_S.rf (by rw [show (f_x_begin nt G TT ta zb zp zq zu) = ((-1), G, TT) from (by rw [f_x_begin, om_some hq1, if_neg c2])]; exact ⟨rfl, hW⟩) d_x_begin_41
    · have c2 := bz_t c2
      refine lv_iload_n hx hb d_x_begin_23 rfl (lv_at hl 4 rfl) ?_
      refine lv_iload hx hb d_x_begin_24 (lv_at hl 5 rfl) ?_
      refine ro_S (v := .int (bz (f_x_isFlake zp zq))) (As := [.int zp, .int zq]) (rest := []) FX hK (c_x_isFlake l D cA zp zq) trivial kc_x_isFlake km_x_62 ki_x ks_x_isFlake rfl ok_x_isFlake ⟨Nat.le_of_ble_eq_true rfl, Nat.le_of_ble_eq_true rfl⟩ ⟨Nat.zero_le _, Nat.zero_le _⟩ hl.1 rfl (Nat.le_of_ble_eq_true rfl) d_x_begin_26 ?_
      refine lv_if_eq (tgt := 40) hx hb d_x_begin_29 (by decide) (fun c3 => ?_) (fun c3 => ?_)
      · have c3 := bz_f c3
        refine lv_iconst (v := (-1)) hx hb d_x_begin_40 (by decide) ?_
        exact mu_iret FX va_S.rf (by rw [show (f_x_begin nt G TT ta zb zp zq zu) = ((-1), G, TT) from (by rw [f_x_begin, om_some hq1, if_pos c2, if_neg c3])]; exact ⟨rfl, hW⟩) d_x_begin_41
      · have c3 := bz_t c3
        refine lv_iload hx hb d_x_begin_32 (lv_at hl 6 rfl) ?_
        refine ro_S (v := .int (bz (f_x_isSure zu))) (As := [.int zu]) (rest := []) FX hK (c_x_isSure l D cA zu) trivial kc_x_isSure km_x_66 ki_x ks_x_isSure rfl ok_x_isSure ⟨Nat.le_of_ble_eq_true rfl, Nat.le_of_ble_eq_true rfl⟩ ⟨Nat.zero_le _, Nat.zero_le _⟩ hl.1 rfl (Nat.le_of_ble_eq_true rfl) d_x_begin_34 ?_
        refine lv_if_ne (tgt := 42) hx hb d_x_begin_37 (by decide) (fun c4 => ?_) (fun c4 => ?_)
        · have c4 := bz_t c4
          refine lv_aload hx hb d_x_begin_42 (lv_at hl 0 rfl) ?_
          refine lv_iload_n hx hb d_x_begin_44 rfl (lv_at hl 3 rfl) ?_
          refine ro_V (v := .int (bz (f_t_isCleared ((TT j).2.1) zb))) (As := [.int zb]) (rest := []) (q0 := 0) FX hK (c_t_isCleared l D cA (ad (5 + 2 * j)) (ad (6 + 2 * j)) ((TT j).1) ((TT j).2.1) ((TT j).2.2.1) ((TT j).2.2.2.1) ((TT j).2.2.2.2.1) ((TT j).2.2.2.2.2.1) ((TT j).2.2.2.2.2.2.1) ((TT j).2.2.2.2.2.2.2.1) ((TT j).2.2.2.2.2.2.2.2.1) ((TT j).2.2.2.2.2.2.2.2.2) (ad 2) (ad 3) (ad 4) G.1 G.2.1 G.2.2.1 G.2.2.2.1 G.2.2.2.2 zb) (hP.sub [0, 1, 4, 5, 6] rfl) hP rfl rfl rfl kc_t_isCleared km_x_69 ki_t ks_t_isCleared ke_t_isCleared rfl ok_t_isCleared ⟨Nat.le_of_ble_eq_true rfl, Nat.le_of_ble_eq_true rfl⟩ ⟨Nat.zero_le _, Nat.zero_le _⟩ hl.1 rfl (Nat.le_of_ble_eq_true rfl) d_x_begin_45 ?_
          refine lv_if_eq (tgt := 54) hx hb d_x_begin_48 (by decide) (fun c5 => ?_) (fun c5 => ?_)
          · have c5 := bz_f c5
            refine lv_aload hx hb d_x_begin_54 (lv_at hl 0 rfl) ?_
            refine lv_iload_n hx hb d_x_begin_56 rfl (lv_at hl 3 rfl) ?_
            refine lv_iload_n hx hb d_x_begin_57 rfl (lv_at hl 4 rfl) ?_
            refine lv_iload hx hb d_x_begin_58 (lv_at hl 5 rfl) ?_
            refine lv_iload hx hb d_x_begin_60 (lv_at hl 6 rfl) ?_
            refine mu_V (As := [.int zb, .int zp, .int zq, .int zu]) (rest := []) (q0 := 0) FX hK (c_t_start l D cA (ad (5 + 2 * j)) (ad (6 + 2 * j)) ((TT j).1) ((TT j).2.1) ((TT j).2.2.1) ((TT j).2.2.2.1) ((TT j).2.2.2.2.1) ((TT j).2.2.2.2.2.1) ((TT j).2.2.2.2.2.2.1) ((TT j).2.2.2.2.2.2.2.1) ((TT j).2.2.2.2.2.2.2.2.1) ((TT j).2.2.2.2.2.2.2.2.2) (ad 2) (ad 3) (ad 4) G.1 G.2.1 G.2.2.1 G.2.2.2.1 G.2.2.2.2 zb zp zq zu) (hP.sub [0, 1, 4, 5, 6] rfl) (hD.sub [0, 1, 4, 5, 6] (by decide) rfl) hP rfl rfl rfl kc_t_start km_x_72 ki_t ks_t_start ke_t_start rfl ok_t_start ⟨Nat.le_of_ble_eq_true rfl, Nat.le_of_ble_eq_true rfl⟩ ⟨Nat.zero_le _, Nat.zero_le _⟩ hl.1 rfl (Nat.le_of_ble_eq_true rfl) d_x_begin_62 hS (fun q hq => aw_in hD [0, 1, 4, 5, 6] rfl q hq) (fun v0 H1 locs hv0 hz0 hk0 hS => ?_)
            obtain ⟨rfl, hP1, hD1⟩ := hv0
            obtain ⟨hP, hD⟩ := mu_join (wr := [(ad 0, .inr (0, [.ref (ad 2), .ref (ad 1), .int (nI nt)])), (ad 1, .inl (cA 1, 4, .inr (.inr (.inr (.inr (tvf ad nt))))))]) (w1 := [(ad (5 + 2 * j), .inr (2, [.ref (ad 2), .ref (ad (6 + 2 * j)), .long ((TT j).1), .long ((TT j).2.1), .int (bz ((f_t_start ((TT j).2.1) ((TT j).2.2.2.2.2.2.2.2.2) G.2.1 G.2.2.1 zb zp zq zu).2.1)), .int ((f_t_start ((TT j).2.1) ((TT j).2.2.2.2.2.2.2.2.2) G.2.1 G.2.2.1 zb zp zq zu).2.2.1), .int ((f_t_start ((TT j).2.1) ((TT j).2.2.2.2.2.2.2.2.2) G.2.1 G.2.2.1 zb zp zq zu).2.2.2.1), .int ((f_t_start ((TT j).2.1) ((TT j).2.2.2.2.2.2.2.2.2) G.2.1 G.2.2.1 zb zp zq zu).2.2.2.2.1), .int ((f_t_start ((TT j).2.1) ((TT j).2.2.2.2.2.2.2.2.2) G.2.1 G.2.2.1 zb zp zq zu).2.2.2.2.2.1), .int ((f_t_start ((TT j).2.1) ((TT j).2.2.2.2.2.2.2.2.2) G.2.1 G.2.2.1 zb zp zq zu).2.2.2.2.2.2.1), .int ((TT j).2.2.2.2.2.2.2.2.1)])), (ad (6 + 2 * j), .inl (cA 0, 40, .inr (.inl ((f_t_start ((TT j).2.1) ((TT j).2.2.2.2.2.2.2.2.2) G.2.1 G.2.2.1 zb zp zq zu).2.2.2.2.2.2.2)))), (ad 2, .inr (1, [.ref (ad 3), .ref (ad 4), .int G.2.2.1, .long G.2.2.2.1, .long G.2.2.2.2])), (ad 3, .inl (cA 0, 40, .inr (.inl G.1))), (ad 4, .inl (cA 0, 40, .inr (.inl G.2.1)))]) hP hD [0, 1, 4, 5, 6] [2, 3] rfl rfl (by decide) (by decide) hk0 hP1 hD1
            have hP : va_P D classes [(ad (5 + 2 * j), .inr (2, [.ref (ad 2), .ref (ad (6 + 2 * j)), .long ((TT j).1), .long ((TT j).2.1), .int (bz ((f_t_start ((TT j).2.1) ((TT j).2.2.2.2.2.2.2.2.2) G.2.1 G.2.2.1 zb zp zq zu).2.1)), .int ((f_t_start ((TT j).2.1) ((TT j).2.2.2.2.2.2.2.2.2) G.2.1 G.2.2.1 zb zp zq zu).2.2.1), .int ((f_t_start ((TT j).2.1) ((TT j).2.2.2.2.2.2.2.2.2) G.2.1 G.2.2.1 zb zp zq zu).2.2.2.1), .int ((f_t_start ((TT j).2.1) ((TT j).2.2.2.2.2.2.2.2.2) G.2.1 G.2.2.1 zb zp zq zu).2.2.2.2.1), .int ((f_t_start ((TT j).2.1) ((TT j).2.2.2.2.2.2.2.2.2) G.2.1 G.2.2.1 zb zp zq zu).2.2.2.2.2.1), .int ((f_t_start ((TT j).2.1) ((TT j).2.2.2.2.2.2.2.2.2) G.2.1 G.2.2.1 zb zp zq zu).2.2.2.2.2.2.1), .int ((TT j).2.2.2.2.2.2.2.2.1)])), (ad (6 + 2 * j), .inl (cA 0, 40, .inr (.inl ((f_t_start ((TT j).2.1) ((TT j).2.2.2.2.2.2.2.2.2) G.2.1 G.2.2.1 zb zp zq zu).2.2.2.2.2.2.2)))), (ad 0, .inr (0, [.ref (ad 2), .ref (ad 1), .int (nI nt)])), (ad 1, .inl (cA 1, 4, .inr (.inr (.inr (.inr (tvf ad nt)))))), (ad 2, .inr (1, [.ref (ad 3), .ref (ad 4), .int G.2.2.1, .long G.2.2.2.1, .long G.2.2.2.2])), (ad 3, .inl (cA 0, 40, .inr (.inl G.1))), (ad 4, .inl (cA 0, 40, .inr (.inl G.2.1)))] H1 := hP.sub [2, 3, 0, 1, 4, 5, 6] rfl
            have hD : va_D A [(ad (5 + 2 * j), .inr (2, [.ref (ad 2), .ref (ad (6 + 2 * j)), .long ((TT j).1), .long ((TT j).2.1), .int (bz ((f_t_start ((TT j).2.1) ((TT j).2.2.2.2.2.2.2.2.2) G.2.1 G.2.2.1 zb zp zq zu).2.1)), .int ((f_t_start ((TT j).2.1) ((TT j).2.2.2.2.2.2.2.2.2) G.2.1 G.2.2.1 zb zp zq zu).2.2.1), .int ((f_t_start ((TT j).2.1) ((TT j).2.2.2.2.2.2.2.2.2) G.2.1 G.2.2.1 zb zp zq zu).2.2.2.1), .int ((f_t_start ((TT j).2.1) ((TT j).2.2.2.2.2.2.2.2.2) G.2.1 G.2.2.1 zb zp zq zu).2.2.2.2.1), .int ((f_t_start ((TT j).2.1) ((TT j).2.2.2.2.2.2.2.2.2) G.2.1 G.2.2.1 zb zp zq zu).2.2.2.2.2.1), .int ((f_t_start ((TT j).2.1) ((TT j).2.2.2.2.2.2.2.2.2) G.2.1 G.2.2.1 zb zp zq zu).2.2.2.2.2.2.1), .int ((TT j).2.2.2.2.2.2.2.2.1)])), (ad (6 + 2 * j), .inl (cA 0, 40, .inr (.inl ((f_t_start ((TT j).2.1) ((TT j).2.2.2.2.2.2.2.2.2) G.2.1 G.2.2.1 zb zp zq zu).2.2.2.2.2.2.2)))), (ad 0, .inr (0, [.ref (ad 2), .ref (ad 1), .int (nI nt)])), (ad 1, .inl (cA 1, 4, .inr (.inr (.inr (.inr (tvf ad nt)))))), (ad 2, .inr (1, [.ref (ad 3), .ref (ad 4), .int G.2.2.1, .long G.2.2.2.1, .long G.2.2.2.2])), (ad 3, .inl (cA 0, 40, .inr (.inl G.1))), (ad 4, .inl (cA 0, 40, .inr (.inl G.2.1)))] := hD.sub [2, 3, 0, 1, 4, 5, 6] (by decide) rfl
            generalize H1 = H at hP hS ⊢
            refine W.eq (g2 := F0 m 65 ls [.int ((f_t_start ((TT j).2.1) ((TT j).2.2.2.2.2.2.2.2.2) G.2.1 G.2.2.1 zb zp zq zu).1)]) rfl ?_
            exact mu_iret FX (S_mono hS hoA) (by rw [show (f_x_begin nt G TT ta zb zp zq zu) = ((f_t_start ((TT j).2.1) ((TT j).2.2.2.2.2.2.2.2.2) G.2.1 G.2.2.1 zb zp zq zu).1, (G.1, G.2.1, G.2.2.1, G.2.2.2.1, G.2.2.2.2), va_up TT j ((TT j).1, (TT j).2.1, ((f_t_start ((TT j).2.1) ((TT j).2.2.2.2.2.2.2.2.2) G.2.1 G.2.2.1 zb zp zq zu).2.1), (f_t_start ((TT j).2.1) ((TT j).2.2.2.2.2.2.2.2.2) G.2.1 G.2.2.1 zb zp zq zu).2.2.1, (f_t_start ((TT j).2.1) ((TT j).2.2.2.2.2.2.2.2.2) G.2.1 G.2.2.1 zb zp zq zu).2.2.2.1, (f_t_start ((TT j).2.1) ((TT j).2.2.2.2.2.2.2.2.2) G.2.1 G.2.2.1 zb zp zq zu).2.2.2.2.1, (f_t_start ((TT j).2.1) ((TT j).2.2.2.2.2.2.2.2.2) G.2.1 G.2.2.1 zb zp zq zu).2.2.2.2.2.1, (f_t_start ((TT j).2.1) ((TT j).2.2.2.2.2.2.2.2.2) G.2.1 G.2.2.1 zb zp zq zu).2.2.2.2.2.2.1, (TT j).2.2.2.2.2.2.2.2.1, (f_t_start ((TT j).2.1) ((TT j).2.2.2.2.2.2.2.2.2) G.2.1 G.2.2.1 zb zp zq zu).2.2.2.2.2.2.2)) from (by rw [f_x_begin, om_some hq1, if_pos c2, if_pos c3, if_pos c4, if_neg c5])]; exact ⟨rfl, wx_put7 (G' := (G.1, G.2.1, G.2.2.1, G.2.2.2.1, G.2.2.2.2)) (T' := ((TT j).1, (TT j).2.1, ((f_t_start ((TT j).2.1) ((TT j).2.2.2.2.2.2.2.2.2) G.2.1 G.2.2.1 zb zp zq zu).2.1), (f_t_start ((TT j).2.1) ((TT j).2.2.2.2.2.2.2.2.2) G.2.1 G.2.2.1 zb zp zq zu).2.2.1, (f_t_start ((TT j).2.1) ((TT j).2.2.2.2.2.2.2.2.2) G.2.1 G.2.2.1 zb zp zq zu).2.2.2.1, (f_t_start ((TT j).2.1) ((TT j).2.2.2.2.2.2.2.2.2) G.2.1 G.2.2.1 zb zp zq zu).2.2.2.2.1, (f_t_start ((TT j).2.1) ((TT j).2.2.2.2.2.2.2.2.2) G.2.1 G.2.2.1 zb zp zq zu).2.2.2.2.2.1, (f_t_start ((TT j).2.1) ((TT j).2.2.2.2.2.2.2.2.2) G.2.1 G.2.2.1 zb zp zq zu).2.2.2.2.2.2.1, (TT j).2.2.2.2.2.2.2.2.1, (f_t_start ((TT j).2.1) ((TT j).2.2.2.2.2.2.2.2.2) G.2.1 G.2.2.1 zb zp zq zu).2.2.2.2.2.2.2)) hW hinj hj hA hS hP⟩) d_x_begin_65
          · have c5 := bz_t c5
            refine lv_bipush (v := (-2)) hx hb d_x_begin_51 (by decide) ?_
            exact mu_iret FX va_S.rf (by rw [show (f_x_begin nt G TT ta zb zp zq zu) = ((-2), G, TT) from (by rw [f_x_begin, om_some hq1, if_pos c2, if_pos c3, if_pos c4, if_pos c5])]; exact ⟨rfl, hW⟩) d_x_begin_53
        · have c4 := bz_f c4
          refine lv_iconst (v := (-1)) hx hb d_x_begin_40 (by decide) ?_
          exact mu_iret FX va_S.rf (by rw [show (f_x_begin nt G TT ta zb zp zq zu) = ((-1), G, TT) from (by rw [f_x_begin, om_some hq1, if_pos c2, if_pos c3, if_neg c4])]; exact ⟨rfl, hW⟩) d_x_begin_41
theorem d_x_stop_0 : decode b_x_stop 0 = .ok (.aload_n 0, 1) := by decide +kernel
theorem d_x_stop_1 : decode b_x_stop 1 = .ok (.iload_n 1, 1) := by decide +kernel
theorem d_x_stop_2 : decode b_x_stop 2 = .ok (.invokevirtual 76, 3) := by decide +kernel
theorem d_x_stop_5 : decode b_x_stop 5 = .ok (.astore_n 2, 1) := by decide +kernel
theorem d_x_stop_6 : decode b_x_stop 6 = .ok (.aload_n 2, 1) := by decide +kernel
theorem d_x_stop_7 : decode b_x_stop 7 = .ok (.ifnonnull 5, 3) := by decide +kernel
theorem d_x_stop_10 : decode b_x_stop 10 = .ok (.iconst 0, 1) := by decide +kernel
theorem d_x_stop_11 : decode b_x_stop 11 = .ok (.ireturn, 1) := by decide +kernel
theorem d_x_stop_12 : decode b_x_stop 12 = .ok (.aload_n 2, 1) := by decide +kernel
theorem d_x_stop_13 : decode b_x_stop 13 = .ok (.invokevirtual 79, 3) := by decide +kernel
theorem d_x_stop_16 : decode b_x_stop 16 = .ok (.iconst 1, 1) := by decide +kernel
theorem d_x_stop_17 : decode b_x_stop 17 = .ok (.ireturn, 1) := by decide +kernel
def f_x_stop (nt : Nat) (G : GS) (TT : Nat → TS) (ta : Int32) : Bool × GS × (Nat → TS) := om (f_x_searchAt nt TT ta)
    ((false, G, TT))
    (fun j => (true, (G.1, G.2.1, G.2.2.1, G.2.2.2.1, G.2.2.2.2), va_up TT j ((TT j).1, (TT j).2.1, f_t_giveUp, (TT j).2.2.2.1, (TT j).2.2.2.2.1, (TT j).2.2.2.2.2.1, (TT j).2.2.2.2.2.2.1, (TT j).2.2.2.2.2.2.2.1, (TT j).2.2.2.2.2.2.2.2.1, (TT j).2.2.2.2.2.2.2.2.2)))
set_option maxHeartbeats 4000000 in
set_option maxRecDepth 100000 in
theorem c_x_stop (l : Launch) (D : va_G) (cA : Nat → ClassId) (ad : Nat → Nat) (nt : Nat) (G : GS) (TT : Nat → TS) (ta : Int32) (hnt : nt ≤ 4) (S : Nat) (hS40 : S ≤ 40) (hsz : G.2.2.1 = nI S) (hinj : adX ad nt) : Met l y_x_stop (.code y_x_stop b_x_stop 3 (some .boolean) :: tb) (rmd 2) (Pro D cA [.ref (ad 0), .int ta] (WX D cA ad nt G TT)) (Qmu (ox ad nt) (fun v0 H0 => v0 = some (.int (bz (f_x_stop nt G TT ta).1)) ∧ WX D cA ad nt (f_x_stop nt G TT ta).2.1 (f_x_stop nt G TT ta).2.2 H0)) 0 0 (ox ad nt) := by
  refine ro_in (by decide) (Nat.le_of_ble_eq_true rfl) (fun p e s m below meth c ls FX hnm hK hW hl => ?_)
  have hl : lv_has ls 3 [(0, .ref (ad 0)), (1, .int ta)] := hl
  have hP : va_P D classes [(ad 0, .inr (0, [.ref (ad 2), .ref (ad 1), .int (nI nt)])), (ad 1, .inl (cA 1, 4, .inr (.inr (.inr (.inr (tvf ad nt)))))), (ad 2, .inr (1, [.ref (ad 3), .ref (ad 4), .int G.2.2.1, .long G.2.2.2.1, .long G.2.2.2.2])), (ad 3, .inl (cA 0, 40, .inr (.inl G.1))), (ad 4, .inl (cA 0, 40, .inr (.inl G.2.1)))] s.heap := hW.1
  generalize ([.ref (ad 0), .int ta] : List Value).toArray = args at FX ⊢
  obtain ⟨hx, hb, hml, hown, hts, hr, hlk⟩ := id FX
  refine lv_aload_n hx hb d_x_stop_0 rfl (lv_at hl 0 rfl) ?_
  refine lv_iload_n hx hb d_x_stop_1 rfl (lv_at hl 1 rfl) ?_
  refine ro_V (v := va_rf ((f_x_searchAt nt TT ta).map (fun j => ad (5 + 2 * j)))) (As := [.int ta]) (rest := []) (q0 := 0) FX hK (c_x_searchAt l D cA ad nt G TT ta hnt S hS40 hsz) hW hP rfl rfl rfl kc_x_searchAt km_x_76 ki_x ks_x_searchAt ke_x_searchAt rfl ok_x_searchAt ⟨Nat.le_of_ble_eq_true rfl, Nat.le_of_ble_eq_true rfl⟩ ⟨Nat.zero_le _, Nat.zero_le _⟩ hl.1 rfl (Nat.le_of_ble_eq_true rfl) d_x_stop_2 ?_
  cases hq1 : (f_x_searchAt nt TT ta) with
  | none =>
    refine W.eq (g2 := F0 m 5 ls [.null]) rfl ?_
    refine lv_astore_nN (lv' := [(2, .null), (0, .ref (ad 0)), (1, .int ta)]) hx hb d_x_stop_5 rfl hl (by decide) rfl (fun ls hl => ?_)
    refine lv_aload_nN hx hb d_x_stop_6 rfl (lv_at hl 0 rfl) ?_
    refine lv_ifnonnullN hx hb d_x_stop_7 ?_
    refine lv_iconst (v := 0) hx hb d_x_stop_10 (by decide) ?_
    exact mu_zret false rfl FX va_S.rf (by rw [show (f_x_stop nt G TT ta) = (false, G, TT) from (by rw [f_x_stop, om_none hq1])]; exact ⟨rfl, hW⟩) d_x_stop_11
  | some j =>
    have hj : j < nt := sa_lt hnt hq1
    have hP : va_P D classes [(ad (5 + 2 * j), .inr (2, [.ref (ad 2), .ref (ad (6 + 2 * j)), .long ((TT j).1), .long ((TT j).2.1), .int (bz (TT j).2.2.1), .int ((TT j).2.2.2.1), .int ((TT j).2.2.2.2.1), .int ((TT j).2.2.2.2.2.1), .int ((TT j).2.2.2.2.2.2.1), .int ((TT j).2.2.2.2.2.2.2.1), .int ((TT j).2.2.2.2.2.2.2.2.1)])), (ad (6 + 2 * j), .inl (cA 0, 40, .inr (.inl ((TT j).2.2.2.2.2.2.2.2.2)))), (ad 0, .inr (0, [.ref (ad 2), .ref (ad 1), .int (nI nt)])), (ad 1, .inl (cA 1, 4, .inr (.inr (.inr (.inr (tvf ad nt)))))), (ad 2, .inr (1, [.ref (ad 3), .ref (ad 4), .int G.2.2.1, .long G.2.2.2.1, .long G.2.2.2.2])), (ad 3, .inl (cA 0, 40, .inr (.inl G.1))), (ad 4, .inl (cA 0, 40, .inr (.inl G.2.1)))] s.heap := (hW.2 j hj).app hP
    have hD : va_D (aw [(ad (5 + 2 * j), .inr (2, [.ref (ad 2), .ref (ad (6 + 2 * j)), .long ((TT j).1), .long ((TT j).2.1), .int (bz (TT j).2.2.1), .int ((TT j).2.2.2.1), .int ((TT j).2.2.2.2.1), .int ((TT j).2.2.2.2.2.1), .int ((TT j).2.2.2.2.2.2.1), .int ((TT j).2.2.2.2.2.2.2.1), .int ((TT j).2.2.2.2.2.2.2.2.1)])), (ad (6 + 2 * j), .inl (cA 0, 40, .inr (.inl ((TT j).2.2.2.2.2.2.2.2.2)))), (ad 0, .inr (0, [.ref (ad 2), .ref (ad 1), .int (nI nt)])), (ad 1, .inl (cA 1, 4, .inr (.inr (.inr (.inr (tvf ad nt)))))), (ad 2, .inr (1, [.ref (ad 3), .ref (ad 4), .int G.2.2.1, .long G.2.2.2.1, .long G.2.2.2.2])), (ad 3, .inl (cA 0, 40, .inr (.inl G.1))), (ad 4, .inl (cA 0, 40, .inr (.inl G.2.1)))]) [(ad (5 + 2 * j), .inr (2, [.ref (ad 2), .ref (ad (6 + 2 * j)), .long ((TT j).1), .long ((TT j).2.1), .int (bz (TT j).2.2.1), .int ((TT j).2.2.2.1), .int ((TT j).2.2.2.2.1), .int ((TT j).2.2.2.2.2.1), .int ((TT j).2.2.2.2.2.2.1), .int ((TT j).2.2.2.2.2.2.2.1), .int ((TT j).2.2.2.2.2.2.2.2.1)])), (ad (6 + 2 * j), .inl (cA 0, 40, .inr (.inl ((TT j).2.2.2.2.2.2.2.2.2)))), (ad 0, .inr (0, [.ref (ad 2), .ref (ad 1), .int (nI nt)])), (ad 1, .inl (cA 1, 4, .inr (.inr (.inr (.inr (tvf ad nt)))))), (ad 2, .inr (1, [.ref (ad 3), .ref (ad 4), .int G.2.2.1, .long G.2.2.2.1, .long G.2.2.2.2])), (ad 3, .inl (cA 0, 40, .inr (.inl G.1))), (ad 4, .inl (cA 0, 40, .inr (.inl G.2.1)))] := aw_self (wx_d7 hinj hj (T := TT j) (G := G))
    have hoA : ∀ q, aw [(ad (5 + 2 * j), .inr (2, [.ref (ad 2), .ref (ad (6 + 2 * j)), .long ((TT j).1), .long ((TT j).2.1), .int (bz (TT j).2.2.1), .int ((TT j).2.2.2.1), .int ((TT j).2.2.2.2.1), .int ((TT j).2.2.2.2.2.1), .int ((TT j).2.2.2.2.2.2.1), .int ((TT j).2.2.2.2.2.2.2.1), .int ((TT j).2.2.2.2.2.2.2.2.1)])), (ad (6 + 2 * j), .inl (cA 0, 40, .inr (.inl ((TT j).2.2.2.2.2.2.2.2.2)))), (ad 0, .inr (0, [.ref (ad 2), .ref (ad 1), .int (nI nt)])), (ad 1, .inl (cA 1, 4, .inr (.inr (.inr (.inr (tvf ad nt)))))), (ad 2, .inr (1, [.ref (ad 3), .ref (ad 4), .int G.2.2.1, .long G.2.2.2.1, .long G.2.2.2.2])), (ad 3, .inl (cA 0, 40, .inr (.inl G.1))), (ad 4, .inl (cA 0, 40, .inr (.inl G.2.1)))] q → ox ad nt q := ox_7 hj (T := TT j) (G := G)
    obtain ⟨A, hA⟩ : ∃ A, A = aw [(ad (5 + 2 * j), .inr (2, [.ref (ad 2), .ref (ad (6 + 2 * j)), .long ((TT j).1), .long ((TT j).2.1), .int (bz (TT j).2.2.1), .int ((TT j).2.2.2.1), .int ((TT j).2.2.2.2.1), .int ((TT j).2.2.2.2.2.1), .int ((TT j).2.2.2.2.2.2.1), .int ((TT j).2.2.2.2.2.2.2.1), .int ((TT j).2.2.2.2.2.2.2.2.1)])), (ad (6 + 2 * j), .inl (cA 0, 40, .inr (.inl ((TT j).2.2.2.2.2.2.2.2.2)))), (ad 0, .inr (0, [.ref (ad 2), .ref (ad 1), .int (nI nt)])), (ad 1, .inl (cA 1, 4, .inr (.inr (.inr (.inr (tvf ad nt)))))), (ad 2, .inr (1, [.ref (ad 3), .ref (ad 4), .int G.2.2.1, .long G.2.2.2.1, .long G.2.2.2.2])), (ad 3, .inl (cA 0, 40, .inr (.inl G.1))), (ad 4, .inl (cA 0, 40, .inr (.inl G.2.1)))] := ⟨_, rfl⟩
    rw [← hA] at hD hoA
    have hS : va_S A s.heap s.heap [] := va_S.rf
    refine W.eq (g2 := F0 m 5 ls [.ref (ad (5 + 2 * j))]) rfl ?_
    refine lv_astore_n (lv' := [(2, .ref (ad (5 + 2 * j))), (0, .ref (ad 0)), (1, .int ta)]) hx hb d_x_stop_5 rfl hl (by decide) rfl (fun ls hl => ?_)
    refine lv_aload_n hx hb d_x_stop_6 rfl (lv_at hl 0 rfl) ?_
    refine lv_ifnonnull (tgt := 12) hx hb d_x_stop_7 (by decide) ?_
    refine lv_aload_n hx hb d_x_stop_12 rfl (lv_at hl 0 rfl) ?_
    refine mu_V (As := []) (rest := []) (q0 := 0) FX hK (c_t_giveUp l D cA (ad (5 + 2 * j)) (ad (6 + 2 * j)) ((TT j).1) ((TT j).2.1) ((TT j).2.2.1) ((TT j).2.2.2.1) ((TT j).2.2.2.2.1) ((TT j).2.2.2.2.2.1) ((TT j).2.2.2.2.2.2.1) ((TT j).2.2.2.2.2.2.2.1) ((TT j).2.2.2.2.2.2.2.2.1) ((TT j).2.2.2.2.2.2.2.2.2) (ad 2) (ad 3) (ad 4) G.1 G.2.1 G.2.2.1 G.2.2.2.1 G.2.2.2.2) (hP.sub [0, 1, 4, 5, 6] rfl) (hD.sub [0, 1, 4, 5, 6] (by decide) rfl) hP rfl rfl rfl kc_t_giveUp km_x_79 ki_t ks_t_giveUp ke_t_giveUp rfl ok_t_giveUp ⟨Nat.le_of_ble_eq_true rfl, Nat.le_of_ble_eq_true rfl⟩ ⟨Nat.zero_le _, Nat.zero_le _⟩ hl.1 rfl (Nat.le_of_ble_eq_true rfl) d_x_stop_13 hS (fun q hq => aw_in hD [0, 1, 4, 5, 6] rfl q hq) (fun v0 H1 locs hv0 hz0 hk0 hS => ?_)
    obtain ⟨rfl, hP1, hD1⟩ := hv0
    obtain ⟨hP, hD⟩ := mu_join (wr := [(ad 0, .inr (0, [.ref (ad 2), .ref (ad 1), .int (nI nt)])), (ad 1, .inl (cA 1, 4, .inr (.inr (.inr (.inr (tvf ad nt))))))]) (w1 := [(ad (5 + 2 * j), .inr (2, [.ref (ad 2), .ref (ad (6 + 2 * j)), .long ((TT j).1), .long ((TT j).2.1), .int (bz f_t_giveUp), .int ((TT j).2.2.2.1), .int ((TT j).2.2.2.2.1), .int ((TT j).2.2.2.2.2.1), .int ((TT j).2.2.2.2.2.2.1), .int ((TT j).2.2.2.2.2.2.2.1), .int ((TT j).2.2.2.2.2.2.2.2.1)])), (ad (6 + 2 * j), .inl (cA 0, 40, .inr (.inl ((TT j).2.2.2.2.2.2.2.2.2)))), (ad 2, .inr (1, [.ref (ad 3), .ref (ad 4), .int G.2.2.1, .long G.2.2.2.1, .long G.2.2.2.2])), (ad 3, .inl (cA 0, 40, .inr (.inl G.1))), (ad 4, .inl (cA 0, 40, .inr (.inl G.2.1)))]) hP hD [0, 1, 4, 5, 6] [2, 3] rfl rfl (by decide) (by decide) hk0 hP1 hD1
    have hP : va_P D classes [(ad (5 + 2 * j), .inr (2, [.ref (ad 2), .ref (ad (6 + 2 * j)), .long ((TT j).1), .long ((TT j).2.1), .int (bz f_t_giveUp), .int ((TT j).2.2.2.1), .int ((TT j).2.2.2.2.1), .int ((TT j).2.2.2.2.2.1), .int ((TT j).2.2.2.2.2.2.1), .int ((TT j).2.2.2.2.2.2.2.1), .int ((TT j).2.2.2.2.2.2.2.2.1)])), (ad (6 + 2 * j), .inl (cA 0, 40, .inr (.inl ((TT j).2.2.2.2.2.2.2.2.2)))), (ad 0, .inr (0, [.ref (ad 2), .ref (ad 1), .int (nI nt)])), (ad 1, .inl (cA 1, 4, .inr (.inr (.inr (.inr (tvf ad nt)))))), (ad 2, .inr (1, [.ref (ad 3), .ref (ad 4), .int G.2.2.1, .long G.2.2.2.1, .long G.2.2.2.2])), (ad 3, .inl (cA 0, 40, .inr (.inl G.1))), (ad 4, .inl (cA 0, 40, .inr (.inl G.2.1)))] H1 := hP.sub [2, 3, 0, 1, 4, 5, 6] rfl
    have hD : va_D A [(ad (5 + 2 * j), .inr (2, [.ref (ad 2), .ref (ad (6 + 2 * j)), .long ((TT j).1), .long ((TT j).2.1), .int (bz f_t_giveUp), .int ((TT j).2.2.2.1), .int ((TT j).2.2.2.2.1), .int ((TT j).2.2.2.2.2.1), .int ((TT j).2.2.2.2.2.2.1), .int ((TT j).2.2.2.2.2.2.2.1), .int ((TT j).2.2.2.2.2.2.2.2.1)])), (ad (6 + 2 * j), .inl (cA 0, 40, .inr (.inl ((TT j).2.2.2.2.2.2.2.2.2)))), (ad 0, .inr (0, [.ref (ad 2), .ref (ad 1), .int (nI nt)])), (ad 1, .inl (cA 1, 4, .inr (.inr (.inr (.inr (tvf ad nt)))))), (ad 2, .inr (1, [.ref (ad 3), .ref (ad 4), .int G.2.2.1, .long G.2.2.2.1, .long G.2.2.2.2])), (ad 3, .inl (cA 0, 40, .inr (.inl G.1))), (ad 4, .inl (cA 0, 40, .inr (.inl G.2.1)))] := hD.sub [2, 3, 0, 1, 4, 5, 6] (by decide) rfl
    generalize H1 = H at hP hS ⊢
    refine W.eq (g2 := F0 m 16 ls []) rfl ?_
    refine lv_iconst (v := 1) hx hb d_x_stop_16 (by decide) ?_
    exact mu_zret true rfl FX (S_mono hS hoA) (by rw [show (f_x_stop nt G TT ta) = (true, (G.1, G.2.1, G.2.2.1, G.2.2.2.1, G.2.2.2.2), va_up TT j ((TT j).1, (TT j).2.1, f_t_giveUp, (TT j).2.2.2.1, (TT j).2.2.2.2.1, (TT j).2.2.2.2.2.1, (TT j).2.2.2.2.2.2.1, (TT j).2.2.2.2.2.2.2.1, (TT j).2.2.2.2.2.2.2.2.1, (TT j).2.2.2.2.2.2.2.2.2)) from (by rw [f_x_stop, om_some hq1])]; exact ⟨rfl, wx_put7 (G' := (G.1, G.2.1, G.2.2.1, G.2.2.2.1, G.2.2.2.2)) (T' := ((TT j).1, (TT j).2.1, f_t_giveUp, (TT j).2.2.2.1, (TT j).2.2.2.2.1, (TT j).2.2.2.2.2.1, (TT j).2.2.2.2.2.2.1, (TT j).2.2.2.2.2.2.2.1, (TT j).2.2.2.2.2.2.2.2.1, (TT j).2.2.2.2.2.2.2.2.2)) hW hinj hj hA hS hP⟩) d_x_stop_17
theorem d_x_answer_0 : decode b_x_answer 0 = .ok (.aload_n 0, 1) := by decide +kernel
theorem d_x_answer_1 : decode b_x_answer 1 = .ok (.iload_n 1, 1) := by decide +kernel
theorem d_x_answer_2 : decode b_x_answer 2 = .ok (.invokevirtual 76, 3) := by decide +kernel
theorem d_x_answer_5 : decode b_x_answer 5 = .ok (.astore_n 3, 1) := by decide +kernel
theorem d_x_answer_6 : decode b_x_answer 6 = .ok (.aload_n 3, 1) := by decide +kernel
theorem d_x_answer_7 : decode b_x_answer 7 = .ok (.ifnull 12, 3) := by decide +kernel
theorem d_x_answer_10 : decode b_x_answer 10 = .ok (.iload_n 2, 1) := by decide +kernel
theorem d_x_answer_11 : decode b_x_answer 11 = .ok (.ifCond .lt 8, 3) := by decide +kernel
theorem d_x_answer_14 : decode b_x_answer 14 = .ok (.iload_n 2, 1) := by decide +kernel
theorem d_x_answer_15 : decode b_x_answer 15 = .ok (.iconst 2, 1) := by decide +kernel
theorem d_x_answer_16 : decode b_x_answer 16 = .ok (.if_icmp .le 5, 3) := by decide +kernel
theorem d_x_answer_19 : decode b_x_answer 19 = .ok (.iconst (-1), 1) := by decide +kernel
theorem d_x_answer_20 : decode b_x_answer 20 = .ok (.ireturn, 1) := by decide +kernel
theorem d_x_answer_21 : decode b_x_answer 21 = .ok (.aload_n 3, 1) := by decide +kernel
theorem d_x_answer_22 : decode b_x_answer 22 = .ok (.invokevirtual 86, 3) := by decide +kernel
theorem d_x_answer_25 : decode b_x_answer 25 = .ok (.istore 4, 2) := by decide +kernel
theorem d_x_answer_27 : decode b_x_answer 27 = .ok (.iload 4, 2) := by decide +kernel
theorem d_x_answer_29 : decode b_x_answer 29 = .ok (.iconst (-1), 1) := by decide +kernel
theorem d_x_answer_30 : decode b_x_answer 30 = .ok (.if_icmp .ne 5, 3) := by decide +kernel
theorem d_x_answer_33 : decode b_x_answer 33 = .ok (.iconst (-1), 1) := by decide +kernel
theorem d_x_answer_34 : decode b_x_answer 34 = .ok (.ireturn, 1) := by decide +kernel
theorem d_x_answer_35 : decode b_x_answer 35 = .ok (.iload_n 2, 1) := by decide +kernel
theorem d_x_answer_36 : decode b_x_answer 36 = .ok (.iconst 2, 1) := by decide +kernel
theorem d_x_answer_37 : decode b_x_answer 37 = .ok (.if_icmp .ne 12, 3) := by decide +kernel
theorem d_x_answer_40 : decode b_x_answer 40 = .ok (.aload_n 3, 1) := by decide +kernel
theorem d_x_answer_41 : decode b_x_answer 41 = .ok (.iload 4, 2) := by decide +kernel
theorem d_x_answer_43 : decode b_x_answer 43 = .ok (.invokevirtual 89, 3) := by decide +kernel
theorem d_x_answer_46 : decode b_x_answer 46 = .ok (.goto 10, 3) := by decide +kernel
theorem d_x_answer_49 : decode b_x_answer 49 = .ok (.aload_n 3, 1) := by decide +kernel
theorem d_x_answer_50 : decode b_x_answer 50 = .ok (.iload 4, 2) := by decide +kernel
theorem d_x_answer_52 : decode b_x_answer 52 = .ok (.iload_n 2, 1) := by decide +kernel
theorem d_x_answer_53 : decode b_x_answer 53 = .ok (.invokevirtual 93, 3) := by decide +kernel
theorem d_x_answer_56 : decode b_x_answer 56 = .ok (.aload_n 3, 1) := by decide +kernel
theorem d_x_answer_57 : decode b_x_answer 57 = .ok (.invokevirtual 82, 3) := by decide +kernel
theorem d_x_answer_60 : decode b_x_answer 60 = .ok (.ireturn, 1) := by decide +kernel
def f_x_answer (nt : Nat) (G : GS) (TT : Nat → TS) (ta : Int32) (ou : Int32) : Int32 × GS × (Nat → TS) := om (f_x_searchAt nt TT ta)
    (((-1), G, TT))
    (fun j => if ou < 0 then
      (((-1), G, TT))
    else
      (if ou ≤ 2 then
        (if (f_t_asked ((TT j).2.2.2.2.2.2.1) ((TT j).2.2.2.2.2.2.2.1) ((TT j).2.2.2.2.2.2.2.2.2) G.2.1 G.2.2.1 G.2.2.2.1 G.2.2.2.2) = (-1) then
          (((-1), G, TT))
        else
          (if ou = 2 then
            ((f_t_standing ((TT j).2.2.2.2.2.2.1) ((TT j).2.2.2.2.2.2.2.1) ((TT j).2.2.2.2.2.2.2.2.2) G.2.1 G.2.2.1 G.2.2.2.1 ((f_t_skip ((TT j).2.2.2.2.2.2.2.2.1) G.2.2.2.2 (f_t_asked ((TT j).2.2.2.2.2.2.1) ((TT j).2.2.2.2.2.2.2.1) ((TT j).2.2.2.2.2.2.2.2.2) G.2.1 G.2.2.1 G.2.2.2.1 G.2.2.2.2)).1), (G.1, G.2.1, G.2.2.1, G.2.2.2.1, (f_t_skip ((TT j).2.2.2.2.2.2.2.2.1) G.2.2.2.2 (f_t_asked ((TT j).2.2.2.2.2.2.1) ((TT j).2.2.2.2.2.2.2.1) ((TT j).2.2.2.2.2.2.2.2.2) G.2.1 G.2.2.1 G.2.2.2.1 G.2.2.2.2)).1), va_up TT j ((TT j).1, (TT j).2.1, (TT j).2.2.1, (TT j).2.2.2.1, (TT j).2.2.2.2.1, (TT j).2.2.2.2.2.1, (TT j).2.2.2.2.2.2.1, (TT j).2.2.2.2.2.2.2.1, (f_t_skip ((TT j).2.2.2.2.2.2.2.2.1) G.2.2.2.2 (f_t_asked ((TT j).2.2.2.2.2.2.1) ((TT j).2.2.2.2.2.2.2.1) ((TT j).2.2.2.2.2.2.2.2.2) G.2.1 G.2.2.1 G.2.2.2.1 G.2.2.2.2)).2, (TT j).2.2.2.2.2.2.2.2.2)))
          else
            ((f_t_standing ((TT j).2.2.2.2.2.2.1) ((f_t_learn ((TT j).2.2.2.2.1) ((TT j).2.2.2.2.2.1) ((TT j).2.2.2.2.2.2.2.1) ((TT j).2.2.2.2.2.2.2.2.2) G.2.1 G.2.2.1 G.2.2.2.1 (f_t_asked ((TT j).2.2.2.2.2.2.1) ((TT j).2.2.2.2.2.2.2.1) ((TT j).2.2.2.2.2.2.2.2.2) G.2.1 G.2.2.1 G.2.2.2.1 G.2.2.2.2) ou).2.1) ((f_t_learn ((TT j).2.2.2.2.1) ((TT j).2.2.2.2.2.1) ((TT j).2.2.2.2.2.2.2.1) ((TT j).2.2.2.2.2.2.2.2.2) G.2.1 G.2.2.1 G.2.2.2.1 (f_t_asked ((TT j).2.2.2.2.2.2.1) ((TT j).2.2.2.2.2.2.2.1) ((TT j).2.2.2.2.2.2.2.2.2) G.2.1 G.2.2.1 G.2.2.2.1 G.2.2.2.2) ou).2.2) G.2.1 G.2.2.1 ((f_t_learn ((TT j).2.2.2.2.1) ((TT j).2.2.2.2.2.1) ((TT j).2.2.2.2.2.2.2.1) ((TT j).2.2.2.2.2.2.2.2.2) G.2.1 G.2.2.1 G.2.2.2.1 (f_t_asked ((TT j).2.2.2.2.2.2.1) ((TT j).2.2.2.2.2.2.2.1) ((TT j).2.2.2.2.2.2.2.2.2) G.2.1 G.2.2.1 G.2.2.2.1 G.2.2.2.2) ou).1) G.2.2.2.2, (G.1, G.2.1, G.2.2.1, (f_t_learn ((TT j).2.2.2.2.1) ((TT j).2.2.2.2.2.1) ((TT j).2.2.2.2.2.2.2.1) ((TT j).2.2.2.2.2.2.2.2.2) G.2.1 G.2.2.1 G.2.2.2.1 (f_t_asked ((TT j).2.2.2.2.2.2.1) ((TT j).2.2.2.2.2.2.2.1) ((TT j).2.2.2.2.2.2.2.2.2) G.2.1 G.2.2.1 G.2.2.2.1 G.2.2.2.2) ou).1, G.2.2.2.2), va_up TT j ((TT j).1, (TT j).2.1, (TT j).2.2.1, (TT j).2.2.2.1, (TT j).2.2.2.2.1, (TT j).2.2.2.2.2.1, (TT j).2.2.2.2.2.2.1, (f_t_learn ((TT j).2.2.2.2.1) ((TT j).2.2.2.2.2.1) ((TT j).2.2.2.2.2.2.2.1) ((TT j).2.2.2.2.2.2.2.2.2) G.2.1 G.2.2.1 G.2.2.2.1 (f_t_asked ((TT j).2.2.2.2.2.2.1) ((TT j).2.2.2.2.2.2.2.1) ((TT j).2.2.2.2.2.2.2.2.2) G.2.1 G.2.2.1 G.2.2.2.1 G.2.2.2.2) ou).2.1, (TT j).2.2.2.2.2.2.2.2.1, (f_t_learn ((TT j).2.2.2.2.1) ((TT j).2.2.2.2.2.1) ((TT j).2.2.2.2.2.2.2.1) ((TT j).2.2.2.2.2.2.2.2.2) G.2.1 G.2.2.1 G.2.2.2.1 (f_t_asked ((TT j).2.2.2.2.2.2.1) ((TT j).2.2.2.2.2.2.2.1) ((TT j).2.2.2.2.2.2.2.2.2) G.2.1 G.2.2.1 G.2.2.2.1 G.2.2.2.2) ou).2.2)))))
      else
        (((-1), G, TT))))
set_option maxHeartbeats 4000000 in
set_option maxRecDepth 100000 in
theorem c_x_answer (l : Launch) (D : va_G) (cA : Nat → ClassId) (ad : Nat → Nat) (nt : Nat) (G : GS) (TT : Nat → TS) (ta : Int32) (ou : Int32) (hnt : nt ≤ 4) (S : Nat) (hS40 : S ≤ 40) (hsz : G.2.2.1 = nI S) (hinj : adX ad nt) : Met l y_x_answer (.code y_x_answer b_x_answer 5 (some .int) :: tb) (rmd 6) (Pro D cA [.ref (ad 0), .int ta, .int ou] (WX D cA ad nt G TT)) (Qmu (ox ad nt) (fun v0 H0 => v0 = some (.int (f_x_answer nt G TT ta ou).1) ∧ WX D cA ad nt (f_x_answer nt G TT ta ou).2.1 (f_x_answer nt G TT ta ou).2.2 H0)) 0 0 (ox ad nt) := by
  refine ro_in (by decide) (Nat.le_of_ble_eq_true rfl) (fun p e s m below meth c ls FX hnm hK hW hl => ?_)
  have hl : lv_has ls 5 [(0, .ref (ad 0)), (1, .int ta), (2, .int ou)] := hl
  have hP : va_P D classes [(ad 0, .inr (0, [.ref (ad 2), .ref (ad 1), .int (nI nt)])), (ad 1, .inl (cA 1, 4, .inr (.inr (.inr (.inr (tvf ad nt)))))), (ad 2, .inr (1, [.ref (ad 3), .ref (ad 4), .int G.2.2.1, .long G.2.2.2.1, .long G.2.2.2.2])), (ad 3, .inl (cA 0, 40, .inr (.inl G.1))), (ad 4, .inl (cA 0, 40, .inr (.inl G.2.1)))] s.heap := hW.1
  generalize ([.ref (ad 0), .int ta, .int ou] : List Value).toArray = args at FX ⊢
  obtain ⟨hx, hb, hml, hown, hts, hr, hlk⟩ := id FX
  refine lv_aload_n hx hb d_x_answer_0 rfl (lv_at hl 0 rfl) ?_
  refine lv_iload_n hx hb d_x_answer_1 rfl (lv_at hl 1 rfl) ?_
  refine ro_V (v := va_rf ((f_x_searchAt nt TT ta).map (fun j => ad (5 + 2 * j)))) (As := [.int ta]) (rest := []) (q0 := 0) FX hK (c_x_searchAt l D cA ad nt G TT ta hnt S hS40 hsz) hW hP rfl rfl rfl kc_x_searchAt km_x_76 ki_x ks_x_searchAt ke_x_searchAt rfl ok_x_searchAt ⟨Nat.le_of_ble_eq_true rfl, Nat.le_of_ble_eq_true rfl⟩ ⟨Nat.zero_le _, Nat.zero_le _⟩ hl.1 rfl (Nat.le_of_ble_eq_true rfl) d_x_answer_2 ?_
  cases hq1 : (f_x_searchAt nt TT ta) with
  | none =>
    refine W.eq (g2 := F0 m 5 ls [.null]) rfl ?_
    refine lv_astore_nN (lv' := [(3, .null), (0, .ref (ad 0)), (1, .int ta), (2, .int ou)]) hx hb d_x_answer_5 rfl hl (by decide) rfl (fun ls hl => ?_)
    refine lv_aload_nN hx hb d_x_answer_6 rfl (lv_at hl 0 rfl) ?_
    refine lv_ifnullN (tgt := 19) hx hb d_x_answer_7 (by decide) ?_
    refine lv_iconst (v := (-1)) hx hb d_x_answer_19 (by decide) ?_
    exact mu_iret FX va_S.rf (by rw [show (f_x_answer nt G TT ta ou) = ((-1), G, TT) from (by rw [f_x_answer, om_none hq1])]; exact ⟨rfl, hW⟩) d_x_answer_20
  | some j =>
    have hj : j < nt := sa_lt hnt hq1
    have hP : va_P D classes [(ad (5 + 2 * j), .inr (2, [.ref (ad 2), .ref (ad (6 + 2 * j)), .long ((TT j).1), .long ((TT j).2.1), .int (bz (TT j).2.2.1), .int ((TT j).2.2.2.1), .int ((TT j).2.2.2.2.1), .int ((TT j).2.2.2.2.2.1), .int ((TT j).2.2.2.2.2.2.1), .int ((TT j).2.2.2.2.2.2.2.1), .int ((TT j).2.2.2.2.2.2.2.2.1)])), (ad (6 + 2 * j), .inl (cA 0, 40, .inr (.inl ((TT j).2.2.2.2.2.2.2.2.2)))), (ad 0, .inr (0, [.ref (ad 2), .ref (ad 1), .int (nI nt)])), (ad 1, .inl (cA 1, 4, .inr (.inr (.inr (.inr (tvf ad nt)))))), (ad 2, .inr (1, [.ref (ad 3), .ref (ad 4), .int G.2.2.1, .long G.2.2.2.1, .long G.2.2.2.2])), (ad 3, .inl (cA 0, 40, .inr (.inl G.1))), (ad 4, .inl (cA 0, 40, .inr (.inl G.2.1)))] s.heap := (hW.2 j hj).app hP
    have hD : va_D (aw [(ad (5 + 2 * j), .inr (2, [.ref (ad 2), .ref (ad (6 + 2 * j)), .long ((TT j).1), .long ((TT j).2.1), .int (bz (TT j).2.2.1), .int ((TT j).2.2.2.1), .int ((TT j).2.2.2.2.1), .int ((TT j).2.2.2.2.2.1), .int ((TT j).2.2.2.2.2.2.1), .int ((TT j).2.2.2.2.2.2.2.1), .int ((TT j).2.2.2.2.2.2.2.2.1)])), (ad (6 + 2 * j), .inl (cA 0, 40, .inr (.inl ((TT j).2.2.2.2.2.2.2.2.2)))), (ad 0, .inr (0, [.ref (ad 2), .ref (ad 1), .int (nI nt)])), (ad 1, .inl (cA 1, 4, .inr (.inr (.inr (.inr (tvf ad nt)))))), (ad 2, .inr (1, [.ref (ad 3), .ref (ad 4), .int G.2.2.1, .long G.2.2.2.1, .long G.2.2.2.2])), (ad 3, .inl (cA 0, 40, .inr (.inl G.1))), (ad 4, .inl (cA 0, 40, .inr (.inl G.2.1)))]) [(ad (5 + 2 * j), .inr (2, [.ref (ad 2), .ref (ad (6 + 2 * j)), .long ((TT j).1), .long ((TT j).2.1), .int (bz (TT j).2.2.1), .int ((TT j).2.2.2.1), .int ((TT j).2.2.2.2.1), .int ((TT j).2.2.2.2.2.1), .int ((TT j).2.2.2.2.2.2.1), .int ((TT j).2.2.2.2.2.2.2.1), .int ((TT j).2.2.2.2.2.2.2.2.1)])), (ad (6 + 2 * j), .inl (cA 0, 40, .inr (.inl ((TT j).2.2.2.2.2.2.2.2.2)))), (ad 0, .inr (0, [.ref (ad 2), .ref (ad 1), .int (nI nt)])), (ad 1, .inl (cA 1, 4, .inr (.inr (.inr (.inr (tvf ad nt)))))), (ad 2, .inr (1, [.ref (ad 3), .ref (ad 4), .int G.2.2.1, .long G.2.2.2.1, .long G.2.2.2.2])), (ad 3, .inl (cA 0, 40, .inr (.inl G.1))), (ad 4, .inl (cA 0, 40, .inr (.inl G.2.1)))] := aw_self (wx_d7 hinj hj (T := TT j) (G := G))
    have hoA : ∀ q, aw [(ad (5 + 2 * j), .inr (2, [.ref (ad 2), .ref (ad (6 + 2 * j)), .long ((TT j).1), .long ((TT j).2.1), .int (bz (TT j).2.2.1), .int ((TT j).2.2.2.1), .int ((TT j).2.2.2.2.1), .int ((TT j).2.2.2.2.2.1), .int ((TT j).2.2.2.2.2.2.1), .int ((TT j).2.2.2.2.2.2.2.1), .int ((TT j).2.2.2.2.2.2.2.2.1)])), (ad (6 + 2 * j), .inl (cA 0, 40, .inr (.inl ((TT j).2.2.2.2.2.2.2.2.2)))), (ad 0, .inr (0, [.ref (ad 2), .ref (ad 1), .int (nI nt)])), (ad 1, .inl (cA 1, 4, .inr (.inr (.inr (.inr (tvf ad nt)))))), (ad 2, .inr (1, [.ref (ad 3), .ref (ad 4), .int G.2.2.1, .long G.2.2.2.1, .long G.2.2.2.2])), (ad 3, .inl (cA 0, 40, .inr (.inl G.1))), (ad 4, .inl (cA 0, 40, .inr (.inl G.2.1)))] q → ox ad nt q := ox_7 hj (T := TT j) (G := G)
    obtain ⟨A, hA⟩ : ∃ A, A = aw [(ad (5 + 2 * j), .inr (2, [.ref (ad 2), .ref (ad (6 + 2 * j)), .long ((TT j).1), .long ((TT j).2.1), .int (bz (TT j).2.2.1), .int ((TT j).2.2.2.1), .int ((TT j).2.2.2.2.1), .int ((TT j).2.2.2.2.2.1), .int ((TT j).2.2.2.2.2.2.1), .int ((TT j).2.2.2.2.2.2.2.1), .int ((TT j).2.2.2.2.2.2.2.2.1)])), (ad (6 + 2 * j), .inl (cA 0, 40, .inr (.inl ((TT j).2.2.2.2.2.2.2.2.2)))), (ad 0, .inr (0, [.ref (ad 2), .ref (ad 1), .int (nI nt)])), (ad 1, .inl (cA 1, 4, .inr (.inr (.inr (.inr (tvf ad nt)))))), (ad 2, .inr (1, [.ref (ad 3), .ref (ad 4), .int G.2.2.1, .long G.2.2.2.1, .long G.2.2.2.2])), (ad 3, .inl (cA 0, 40, .inr (.inl G.1))), (ad 4, .inl (cA 0, 40, .inr (.inl G.2.1)))] := ⟨_, rfl⟩
    rw [← hA] at hD hoA
    have hS : va_S A s.heap s.heap [] := va_S.rf
    refine W.eq (g2 := F0 m 5 ls [.ref (ad (5 + 2 * j))]) rfl ?_
    refine lv_astore_n (lv' := [(3, .ref (ad (5 + 2 * j))), (0, .ref (ad 0)), (1, .int ta), (2, .int ou)]) hx hb d_x_answer_5 rfl hl (by decide) rfl (fun ls hl => ?_)
    refine lv_aload_n hx hb d_x_answer_6 rfl (lv_at hl 0 rfl) ?_
    refine lv_ifnull hx hb d_x_answer_7 ?_
    refine lv_iload_n hx hb d_x_answer_10 rfl (lv_at hl 3 rfl) ?_
    refine lv_if_lt (tgt := 19) hx hb d_x_answer_11 (by decide) (fun c2 => ?_) (fun c2 => ?_)
    · have c2 := c2
      refine lv_iconst (v := (-1)) hx hb d_x_answer_19 (by decide) ?_
      exact mu_iret FX va_S.rf (by rw [show (f_x_answer nt G TT ta ou) = ((-1), G, TT) from (by rw [f_x_answer, om_some hq1, if_pos c2])]; exact ⟨rfl, hW⟩) d_x_answer_20
    · have c2 := c2
      refine lv_iload_n hx hb d_x_answer_14 rfl (lv_at hl 3 rfl) ?_
      refine lv_iconst (v := 2) hx hb d_x_answer_15 (by decide) ?_
      refine lv_icmp_le (tgt := 21) hx hb d_x_answer_16 (by decide) (fun c3 => ?_) (fun c3 => ?_)
      · have c3 := c3
        refine lv_aload_n hx hb d_x_answer_21 rfl (lv_at hl 0 rfl) ?_
        refine ro_V (v := .int (f_t_asked ((TT j).2.2.2.2.2.2.1) ((TT j).2.2.2.2.2.2.2.1) ((TT j).2.2.2.2.2.2.2.2.2) G.2.1 G.2.2.1 G.2.2.2.1 G.2.2.2.2)) (As := []) (rest := []) (q0 := 0) FX hK (c_t_asked l D cA (ad (5 + 2 * j)) (ad (6 + 2 * j)) ((TT j).1) ((TT j).2.1) ((TT j).2.2.1) ((TT j).2.2.2.1) ((TT j).2.2.2.2.1) ((TT j).2.2.2.2.2.1) ((TT j).2.2.2.2.2.2.1) ((TT j).2.2.2.2.2.2.2.1) ((TT j).2.2.2.2.2.2.2.2.1) ((TT j).2.2.2.2.2.2.2.2.2) (ad 2) (ad 3) (ad 4) G.1 G.2.1 G.2.2.1 G.2.2.2.1 G.2.2.2.2 S hS40 hsz) (hP.sub [0, 1, 4, 5, 6] rfl) hP rfl rfl rfl kc_t_asked km_x_86 ki_t ks_t_asked ke_t_asked rfl ok_t_asked ⟨Nat.le_of_ble_eq_true rfl, Nat.le_of_ble_eq_true rfl⟩ ⟨Nat.zero_le _, Nat.zero_le _⟩ hl.1 rfl (Nat.le_of_ble_eq_true rfl) d_x_answer_22 ?_
        refine lv_istore (lv' := [(4, .int (f_t_asked ((TT j).2.2.2.2.2.2.1) ((TT j).2.2.2.2.2.2.2.1) ((TT j).2.2.2.2.2.2.2.2.2) G.2.1 G.2.2.1 G.2.2.2.1 G.2.2.2.2)), (3, .ref (ad (5 + 2 * j))), (0, .ref (ad 0)), (1, .int ta), (2, .int ou)]) hx hb d_x_answer_25 hl (by decide) rfl (fun ls hl => ?_)
        refine lv_iload hx hb d_x_answer_27 (lv_at hl 0 rfl) ?_
        refine lv_iconst (v := (-1)) hx hb d_x_answer_29 (by decide) ?_
        refine lv_icmp_ne (tgt := 35) hx hb d_x_answer_30 (by decide) (fun c4 => ?_) (fun c4 => ?_)
        · have c4 := c4
          refine lv_iload_n hx hb d_x_answer_35 rfl (lv_at hl 4 rfl) ?_
          refine lv_iconst (v := 2) hx hb d_x_answer_36 (by decide) ?_
          refine lv_icmp_ne (tgt := 49) hx hb d_x_answer_37 (by decide) (fun c5 => ?_) (fun c5 => ?_)
          · have c5 := c5
            refine lv_aload_n hx hb d_x_answer_49 rfl (lv_at hl 1 rfl) ?_
            refine lv_iload hx hb d_x_answer_50 (lv_at hl 0 rfl) ?_
            refine lv_iload_n hx hb d_x_answer_52 rfl (lv_at hl 4 rfl) ?_
            refine mu_V (As := [.int (f_t_asked ((TT j).2.2.2.2.2.2.1) ((TT j).2.2.2.2.2.2.2.1) ((TT j).2.2.2.2.2.2.2.2.2) G.2.1 G.2.2.1 G.2.2.2.1 G.2.2.2.2), .int ou]) (rest := []) (q0 := 0) FX hK (c_t_learn l D cA (ad (5 + 2 * j)) (ad (6 + 2 * j)) ((TT j).1) ((TT j).2.1) ((TT j).2.2.1) ((TT j).2.2.2.1) ((TT j).2.2.2.2.1) ((TT j).2.2.2.2.2.1) ((TT j).2.2.2.2.2.2.1) ((TT j).2.2.2.2.2.2.2.1) ((TT j).2.2.2.2.2.2.2.2.1) ((TT j).2.2.2.2.2.2.2.2.2) (ad 2) (ad 3) (ad 4) G.1 G.2.1 G.2.2.1 G.2.2.2.1 G.2.2.2.2 (f_t_asked ((TT j).2.2.2.2.2.2.1) ((TT j).2.2.2.2.2.2.2.1) ((TT j).2.2.2.2.2.2.2.2.2) G.2.1 G.2.2.1 G.2.2.2.1 G.2.2.2.2) ou) (hP.sub [0, 1, 4, 5, 6] rfl) (hD.sub [0, 1, 4, 5, 6] (by decide) rfl) hP rfl rfl rfl kc_t_learn km_x_93 ki_t ks_t_learn ke_t_learn rfl ok_t_learn ⟨Nat.le_of_ble_eq_true rfl, Nat.le_of_ble_eq_true rfl⟩ ⟨Nat.zero_le _, Nat.zero_le _⟩ hl.1 rfl (Nat.le_of_ble_eq_true rfl) d_x_answer_53 hS (fun q hq => aw_in hD [0, 1, 4, 5, 6] rfl q hq) (fun v0 H1 locs hv0 hz0 hk0 hS => ?_)
            obtain ⟨rfl, hP1, hD1⟩ := hv0
            obtain ⟨hP, hD⟩ := mu_join (wr := [(ad 0, .inr (0, [.ref (ad 2), .ref (ad 1), .int (nI nt)])), (ad 1, .inl (cA 1, 4, .inr (.inr (.inr (.inr (tvf ad nt))))))]) (w1 := [(ad (5 + 2 * j), .inr (2, [.ref (ad 2), .ref (ad (6 + 2 * j)), .long ((TT j).1), .long ((TT j).2.1), .int (bz (TT j).2.2.1), .int ((TT j).2.2.2.1), .int ((TT j).2.2.2.2.1), .int ((TT j).2.2.2.2.2.1), .int ((TT j).2.2.2.2.2.2.1), .int ((f_t_learn ((TT j).2.2.2.2.1) ((TT j).2.2.2.2.2.1) ((TT j).2.2.2.2.2.2.2.1) ((TT j).2.2.2.2.2.2.2.2.2) G.2.1 G.2.2.1 G.2.2.2.1 (f_t_asked ((TT j).2.2.2.2.2.2.1) ((TT j).2.2.2.2.2.2.2.1) ((TT j).2.2.2.2.2.2.2.2.2) G.2.1 G.2.2.1 G.2.2.2.1 G.2.2.2.2) ou).2.1), .int ((TT j).2.2.2.2.2.2.2.2.1)])), (ad (6 + 2 * j), .inl (cA 0, 40, .inr (.inl ((f_t_learn ((TT j).2.2.2.2.1) ((TT j).2.2.2.2.2.1) ((TT j).2.2.2.2.2.2.2.1) ((TT j).2.2.2.2.2.2.2.2.2) G.2.1 G.2.2.1 G.2.2.2.1 (f_t_asked ((TT j).2.2.2.2.2.2.1) ((TT j).2.2.2.2.2.2.2.1) ((TT j).2.2.2.2.2.2.2.2.2) G.2.1 G.2.2.1 G.2.2.2.1 G.2.2.2.2) ou).2.2)))), (ad 2, .inr (1, [.ref (ad 3), .ref (ad 4), .int G.2.2.1, .long ((f_t_learn ((TT j).2.2.2.2.1) ((TT j).2.2.2.2.2.1) ((TT j).2.2.2.2.2.2.2.1) ((TT j).2.2.2.2.2.2.2.2.2) G.2.1 G.2.2.1 G.2.2.2.1 (f_t_asked ((TT j).2.2.2.2.2.2.1) ((TT j).2.2.2.2.2.2.2.1) ((TT j).2.2.2.2.2.2.2.2.2) G.2.1 G.2.2.1 G.2.2.2.1 G.2.2.2.2) ou).1), .long G.2.2.2.2])), (ad 3, .inl (cA 0, 40, .inr (.inl G.1))), (ad 4, .inl (cA 0, 40, .inr (.inl G.2.1)))]) hP hD [0, 1, 4, 5, 6] [2, 3] rfl rfl (by decide) (by decide) hk0 hP1 hD1
            have hP : va_P D classes [(ad (5 + 2 * j), .inr (2, [.ref (ad 2), .ref (ad (6 + 2 * j)), .long ((TT j).1), .long ((TT j).2.1), .int (bz (TT j).2.2.1), .int ((TT j).2.2.2.1), .int ((TT j).2.2.2.2.1), .int ((TT j).2.2.2.2.2.1), .int ((TT j).2.2.2.2.2.2.1), .int ((f_t_learn ((TT j).2.2.2.2.1) ((TT j).2.2.2.2.2.1) ((TT j).2.2.2.2.2.2.2.1) ((TT j).2.2.2.2.2.2.2.2.2) G.2.1 G.2.2.1 G.2.2.2.1 (f_t_asked ((TT j).2.2.2.2.2.2.1) ((TT j).2.2.2.2.2.2.2.1) ((TT j).2.2.2.2.2.2.2.2.2) G.2.1 G.2.2.1 G.2.2.2.1 G.2.2.2.2) ou).2.1), .int ((TT j).2.2.2.2.2.2.2.2.1)])), (ad (6 + 2 * j), .inl (cA 0, 40, .inr (.inl ((f_t_learn ((TT j).2.2.2.2.1) ((TT j).2.2.2.2.2.1) ((TT j).2.2.2.2.2.2.2.1) ((TT j).2.2.2.2.2.2.2.2.2) G.2.1 G.2.2.1 G.2.2.2.1 (f_t_asked ((TT j).2.2.2.2.2.2.1) ((TT j).2.2.2.2.2.2.2.1) ((TT j).2.2.2.2.2.2.2.2.2) G.2.1 G.2.2.1 G.2.2.2.1 G.2.2.2.2) ou).2.2)))), (ad 0, .inr (0, [.ref (ad 2), .ref (ad 1), .int (nI nt)])), (ad 1, .inl (cA 1, 4, .inr (.inr (.inr (.inr (tvf ad nt)))))), (ad 2, .inr (1, [.ref (ad 3), .ref (ad 4), .int G.2.2.1, .long ((f_t_learn ((TT j).2.2.2.2.1) ((TT j).2.2.2.2.2.1) ((TT j).2.2.2.2.2.2.2.1) ((TT j).2.2.2.2.2.2.2.2.2) G.2.1 G.2.2.1 G.2.2.2.1 (f_t_asked ((TT j).2.2.2.2.2.2.1) ((TT j).2.2.2.2.2.2.2.1) ((TT j).2.2.2.2.2.2.2.2.2) G.2.1 G.2.2.1 G.2.2.2.1 G.2.2.2.2) ou).1), .long G.2.2.2.2])), (ad 3, .inl (cA 0, 40, .inr (.inl G.1))), (ad 4, .inl (cA 0, 40, .inr (.inl G.2.1)))] H1 := hP.sub [2, 3, 0, 1, 4, 5, 6] rfl
            have hD : va_D A [(ad (5 + 2 * j), .inr (2, [.ref (ad 2), .ref (ad (6 + 2 * j)), .long ((TT j).1), .long ((TT j).2.1), .int (bz (TT j).2.2.1), .int ((TT j).2.2.2.1), .int ((TT j).2.2.2.2.1), .int ((TT j).2.2.2.2.2.1), .int ((TT j).2.2.2.2.2.2.1), .int ((f_t_learn ((TT j).2.2.2.2.1) ((TT j).2.2.2.2.2.1) ((TT j).2.2.2.2.2.2.2.1) ((TT j).2.2.2.2.2.2.2.2.2) G.2.1 G.2.2.1 G.2.2.2.1 (f_t_asked ((TT j).2.2.2.2.2.2.1) ((TT j).2.2.2.2.2.2.2.1) ((TT j).2.2.2.2.2.2.2.2.2) G.2.1 G.2.2.1 G.2.2.2.1 G.2.2.2.2) ou).2.1), .int ((TT j).2.2.2.2.2.2.2.2.1)])), (ad (6 + 2 * j), .inl (cA 0, 40, .inr (.inl ((f_t_learn ((TT j).2.2.2.2.1) ((TT j).2.2.2.2.2.1) ((TT j).2.2.2.2.2.2.2.1) ((TT j).2.2.2.2.2.2.2.2.2) G.2.1 G.2.2.1 G.2.2.2.1 (f_t_asked ((TT j).2.2.2.2.2.2.1) ((TT j).2.2.2.2.2.2.2.1) ((TT j).2.2.2.2.2.2.2.2.2) G.2.1 G.2.2.1 G.2.2.2.1 G.2.2.2.2) ou).2.2)))), (ad 0, .inr (0, [.ref (ad 2), .ref (ad 1), .int (nI nt)])), (ad 1, .inl (cA 1, 4, .inr (.inr (.inr (.inr (tvf ad nt)))))), (ad 2, .inr (1, [.ref (ad 3), .ref (ad 4), .int G.2.2.1, .long ((f_t_learn ((TT j).2.2.2.2.1) ((TT j).2.2.2.2.2.1) ((TT j).2.2.2.2.2.2.2.1) ((TT j).2.2.2.2.2.2.2.2.2) G.2.1 G.2.2.1 G.2.2.2.1 (f_t_asked ((TT j).2.2.2.2.2.2.1) ((TT j).2.2.2.2.2.2.2.1) ((TT j).2.2.2.2.2.2.2.2.2) G.2.1 G.2.2.1 G.2.2.2.1 G.2.2.2.2) ou).1), .long G.2.2.2.2])), (ad 3, .inl (cA 0, 40, .inr (.inl G.1))), (ad 4, .inl (cA 0, 40, .inr (.inl G.2.1)))] := hD.sub [2, 3, 0, 1, 4, 5, 6] (by decide) rfl
            generalize H1 = H at hP hS ⊢
            refine W.eq (g2 := F0 m 56 ls []) rfl ?_
            refine lv_aload_n hx hb d_x_answer_56 rfl (lv_at hl 1 rfl) ?_
            refine ro_V (v := .int (f_t_standing ((TT j).2.2.2.2.2.2.1) ((f_t_learn ((TT j).2.2.2.2.1) ((TT j).2.2.2.2.2.1) ((TT j).2.2.2.2.2.2.2.1) ((TT j).2.2.2.2.2.2.2.2.2) G.2.1 G.2.2.1 G.2.2.2.1 (f_t_asked ((TT j).2.2.2.2.2.2.1) ((TT j).2.2.2.2.2.2.2.1) ((TT j).2.2.2.2.2.2.2.2.2) G.2.1 G.2.2.1 G.2.2.2.1 G.2.2.2.2) ou).2.1) ((f_t_learn ((TT j).2.2.2.2.1) ((TT j).2.2.2.2.2.1) ((TT j).2.2.2.2.2.2.2.1) ((TT j).2.2.2.2.2.2.2.2.2) G.2.1 G.2.2.1 G.2.2.2.1 (f_t_asked ((TT j).2.2.2.2.2.2.1) ((TT j).2.2.2.2.2.2.2.1) ((TT j).2.2.2.2.2.2.2.2.2) G.2.1 G.2.2.1 G.2.2.2.1 G.2.2.2.2) ou).2.2) G.2.1 G.2.2.1 ((f_t_learn ((TT j).2.2.2.2.1) ((TT j).2.2.2.2.2.1) ((TT j).2.2.2.2.2.2.2.1) ((TT j).2.2.2.2.2.2.2.2.2) G.2.1 G.2.2.1 G.2.2.2.1 (f_t_asked ((TT j).2.2.2.2.2.2.1) ((TT j).2.2.2.2.2.2.2.1) ((TT j).2.2.2.2.2.2.2.2.2) G.2.1 G.2.2.1 G.2.2.2.1 G.2.2.2.2) ou).1) G.2.2.2.2)) (As := []) (rest := []) (q0 := 0) FX hK (c_t_standing l D cA (ad (5 + 2 * j)) (ad (6 + 2 * j)) ((TT j).1) ((TT j).2.1) ((TT j).2.2.1) ((TT j).2.2.2.1) ((TT j).2.2.2.2.1) ((TT j).2.2.2.2.2.1) ((TT j).2.2.2.2.2.2.1) ((f_t_learn ((TT j).2.2.2.2.1) ((TT j).2.2.2.2.2.1) ((TT j).2.2.2.2.2.2.2.1) ((TT j).2.2.2.2.2.2.2.2.2) G.2.1 G.2.2.1 G.2.2.2.1 (f_t_asked ((TT j).2.2.2.2.2.2.1) ((TT j).2.2.2.2.2.2.2.1) ((TT j).2.2.2.2.2.2.2.2.2) G.2.1 G.2.2.1 G.2.2.2.1 G.2.2.2.2) ou).2.1) ((TT j).2.2.2.2.2.2.2.2.1) ((f_t_learn ((TT j).2.2.2.2.1) ((TT j).2.2.2.2.2.1) ((TT j).2.2.2.2.2.2.2.1) ((TT j).2.2.2.2.2.2.2.2.2) G.2.1 G.2.2.1 G.2.2.2.1 (f_t_asked ((TT j).2.2.2.2.2.2.1) ((TT j).2.2.2.2.2.2.2.1) ((TT j).2.2.2.2.2.2.2.2.2) G.2.1 G.2.2.1 G.2.2.2.1 G.2.2.2.2) ou).2.2) (ad 2) (ad 3) (ad 4) G.1 G.2.1 G.2.2.1 ((f_t_learn ((TT j).2.2.2.2.1) ((TT j).2.2.2.2.2.1) ((TT j).2.2.2.2.2.2.2.1) ((TT j).2.2.2.2.2.2.2.2.2) G.2.1 G.2.2.1 G.2.2.2.1 (f_t_asked ((TT j).2.2.2.2.2.2.1) ((TT j).2.2.2.2.2.2.2.1) ((TT j).2.2.2.2.2.2.2.2.2) G.2.1 G.2.2.1 G.2.2.2.1 G.2.2.2.2) ou).1) G.2.2.2.2 S hS40 hsz) (hP.sub [0, 1, 4, 5, 6] rfl) hP rfl rfl rfl kc_t_standing km_x_82 ki_t ks_t_standing ke_t_standing rfl ok_t_standing ⟨Nat.le_of_ble_eq_true rfl, Nat.le_of_ble_eq_true rfl⟩ ⟨Nat.zero_le _, Nat.zero_le _⟩ hl.1 rfl (Nat.le_of_ble_eq_true rfl) d_x_answer_57 ?_
            exact mu_iret FX (S_mono hS hoA) (by rw [show (f_x_answer nt G TT ta ou) = (f_t_standing ((TT j).2.2.2.2.2.2.1) ((f_t_learn ((TT j).2.2.2.2.1) ((TT j).2.2.2.2.2.1) ((TT j).2.2.2.2.2.2.2.1) ((TT j).2.2.2.2.2.2.2.2.2) G.2.1 G.2.2.1 G.2.2.2.1 (f_t_asked ((TT j).2.2.2.2.2.2.1) ((TT j).2.2.2.2.2.2.2.1) ((TT j).2.2.2.2.2.2.2.2.2) G.2.1 G.2.2.1 G.2.2.2.1 G.2.2.2.2) ou).2.1) ((f_t_learn ((TT j).2.2.2.2.1) ((TT j).2.2.2.2.2.1) ((TT j).2.2.2.2.2.2.2.1) ((TT j).2.2.2.2.2.2.2.2.2) G.2.1 G.2.2.1 G.2.2.2.1 (f_t_asked ((TT j).2.2.2.2.2.2.1) ((TT j).2.2.2.2.2.2.2.1) ((TT j).2.2.2.2.2.2.2.2.2) G.2.1 G.2.2.1 G.2.2.2.1 G.2.2.2.2) ou).2.2) G.2.1 G.2.2.1 ((f_t_learn ((TT j).2.2.2.2.1) ((TT j).2.2.2.2.2.1) ((TT j).2.2.2.2.2.2.2.1) ((TT j).2.2.2.2.2.2.2.2.2) G.2.1 G.2.2.1 G.2.2.2.1 (f_t_asked ((TT j).2.2.2.2.2.2.1) ((TT j).2.2.2.2.2.2.2.1) ((TT j).2.2.2.2.2.2.2.2.2) G.2.1 G.2.2.1 G.2.2.2.1 G.2.2.2.2) ou).1) G.2.2.2.2, (G.1, G.2.1, G.2.2.1, (f_t_learn ((TT j).2.2.2.2.1) ((TT j).2.2.2.2.2.1) ((TT j).2.2.2.2.2.2.2.1) ((TT j).2.2.2.2.2.2.2.2.2) G.2.1 G.2.2.1 G.2.2.2.1 (f_t_asked ((TT j).2.2.2.2.2.2.1) ((TT j).2.2.2.2.2.2.2.1) ((TT j).2.2.2.2.2.2.2.2.2) G.2.1 G.2.2.1 G.2.2.2.1 G.2.2.2.2) ou).1, G.2.2.2.2), va_up TT j ((TT j).1, (TT j).2.1, (TT j).2.2.1, (TT j).2.2.2.1, (TT j).2.2.2.2.1, (TT j).2.2.2.2.2.1, (TT j).2.2.2.2.2.2.1, (f_t_learn ((TT j).2.2.2.2.1) ((TT j).2.2.2.2.2.1) ((TT j).2.2.2.2.2.2.2.1) ((TT j).2.2.2.2.2.2.2.2.2) G.2.1 G.2.2.1 G.2.2.2.1 (f_t_asked ((TT j).2.2.2.2.2.2.1) ((TT j).2.2.2.2.2.2.2.1) ((TT j).2.2.2.2.2.2.2.2.2) G.2.1 G.2.2.1 G.2.2.2.1 G.2.2.2.2) ou).2.1, (TT j).2.2.2.2.2.2.2.2.1, (f_t_learn ((TT j).2.2.2.2.1) ((TT j).2.2.2.2.2.1) ((TT j).2.2.2.2.2.2.2.1) ((TT j).2.2.2.2.2.2.2.2.2) G.2.1 G.2.2.1 G.2.2.2.1 (f_t_asked ((TT j).2.2.2.2.2.2.1) ((TT j).2.2.2.2.2.2.2.1) ((TT j).2.2.2.2.2.2.2.2.2) G.2.1 G.2.2.1 G.2.2.2.1 G.2.2.2.2) ou).2.2)) from (by rw [f_x_answer, om_some hq1, if_neg c2, if_pos c3, if_neg c4, if_neg c5])]; exact ⟨rfl, wx_put7 (G' := (G.1, G.2.1, G.2.2.1, (f_t_learn ((TT j).2.2.2.2.1) ((TT j).2.2.2.2.2.1) ((TT j).2.2.2.2.2.2.2.1) ((TT j).2.2.2.2.2.2.2.2.2) G.2.1 G.2.2.1 G.2.2.2.1 (f_t_asked ((TT j).2.2.2.2.2.2.1) ((TT j).2.2.2.2.2.2.2.1) ((TT j).2.2.2.2.2.2.2.2.2) G.2.1 G.2.2.1 G.2.2.2.1 G.2.2.2.2) ou).1, G.2.2.2.2)) (T' := ((TT j).1, (TT j).2.1, (TT j).2.2.1, (TT j).2.2.2.1, (TT j).2.2.2.2.1, (TT j).2.2.2.2.2.1, (TT j).2.2.2.2.2.2.1, (f_t_learn ((TT j).2.2.2.2.1) ((TT j).2.2.2.2.2.1) ((TT j).2.2.2.2.2.2.2.1) ((TT j).2.2.2.2.2.2.2.2.2) G.2.1 G.2.2.1 G.2.2.2.1 (f_t_asked ((TT j).2.2.2.2.2.2.1) ((TT j).2.2.2.2.2.2.2.1) ((TT j).2.2.2.2.2.2.2.2.2) G.2.1 G.2.2.1 G.2.2.2.1 G.2.2.2.2) ou).2.1, (TT j).2.2.2.2.2.2.2.2.1, (f_t_learn ((TT j).2.2.2.2.1) ((TT j).2.2.2.2.2.1) ((TT j).2.2.2.2.2.2.2.1) ((TT j).2.2.2.2.2.2.2.2.2) G.2.1 G.2.2.1 G.2.2.2.1 (f_t_asked ((TT j).2.2.2.2.2.2.1) ((TT j).2.2.2.2.2.2.2.1) ((TT j).2.2.2.2.2.2.2.2.2) G.2.1 G.2.2.1 G.2.2.2.1 G.2.2.2.2) ou).2.2)) hW hinj hj hA hS hP⟩) d_x_answer_60
          · have c5 := c5
            refine lv_aload_n hx hb d_x_answer_40 rfl (lv_at hl 1 rfl) ?_
            refine lv_iload hx hb d_x_answer_41 (lv_at hl 0 rfl) ?_
            refine mu_V (As := [.int (f_t_asked ((TT j).2.2.2.2.2.2.1) ((TT j).2.2.2.2.2.2.2.1) ((TT j).2.2.2.2.2.2.2.2.2) G.2.1 G.2.2.1 G.2.2.2.1 G.2.2.2.2)]) (rest := []) (q0 := 0) FX hK (c_t_skip l D cA (ad (5 + 2 * j)) (ad (6 + 2 * j)) ((TT j).1) ((TT j).2.1) ((TT j).2.2.1) ((TT j).2.2.2.1) ((TT j).2.2.2.2.1) ((TT j).2.2.2.2.2.1) ((TT j).2.2.2.2.2.2.1) ((TT j).2.2.2.2.2.2.2.1) ((TT j).2.2.2.2.2.2.2.2.1) ((TT j).2.2.2.2.2.2.2.2.2) (ad 2) (ad 3) (ad 4) G.1 G.2.1 G.2.2.1 G.2.2.2.1 G.2.2.2.2 (f_t_asked ((TT j).2.2.2.2.2.2.1) ((TT j).2.2.2.2.2.2.2.1) ((TT j).2.2.2.2.2.2.2.2.2) G.2.1 G.2.2.1 G.2.2.2.1 G.2.2.2.2)) (hP.sub [0, 1, 4, 5, 6] rfl) (hD.sub [0, 1, 4, 5, 6] (by decide) rfl) hP rfl rfl rfl kc_t_skip km_x_89 ki_t ks_t_skip ke_t_skip rfl ok_t_skip ⟨Nat.le_of_ble_eq_true rfl, Nat.le_of_ble_eq_true rfl⟩ ⟨Nat.zero_le _, Nat.zero_le _⟩ hl.1 rfl (Nat.le_of_ble_eq_true rfl) d_x_answer_43 hS (fun q hq => aw_in hD [0, 1, 4, 5, 6] rfl q hq) (fun v0 H1 locs hv0 hz0 hk0 hS => ?_)
            obtain ⟨rfl, hP1, hD1⟩ := hv0
            obtain ⟨hP, hD⟩ := mu_join (wr := [(ad 0, .inr (0, [.ref (ad 2), .ref (ad 1), .int (nI nt)])), (ad 1, .inl (cA 1, 4, .inr (.inr (.inr (.inr (tvf ad nt))))))]) (w1 := [(ad (5 + 2 * j), .inr (2, [.ref (ad 2), .ref (ad (6 + 2 * j)), .long ((TT j).1), .long ((TT j).2.1), .int (bz (TT j).2.2.1), .int ((TT j).2.2.2.1), .int ((TT j).2.2.2.2.1), .int ((TT j).2.2.2.2.2.1), .int ((TT j).2.2.2.2.2.2.1), .int ((TT j).2.2.2.2.2.2.2.1), .int ((f_t_skip ((TT j).2.2.2.2.2.2.2.2.1) G.2.2.2.2 (f_t_asked ((TT j).2.2.2.2.2.2.1) ((TT j).2.2.2.2.2.2.2.1) ((TT j).2.2.2.2.2.2.2.2.2) G.2.1 G.2.2.1 G.2.2.2.1 G.2.2.2.2)).2)])), (ad (6 + 2 * j), .inl (cA 0, 40, .inr (.inl ((TT j).2.2.2.2.2.2.2.2.2)))), (ad 2, .inr (1, [.ref (ad 3), .ref (ad 4), .int G.2.2.1, .long G.2.2.2.1, .long ((f_t_skip ((TT j).2.2.2.2.2.2.2.2.1) G.2.2.2.2 (f_t_asked ((TT j).2.2.2.2.2.2.1) ((TT j).2.2.2.2.2.2.2.1) ((TT j).2.2.2.2.2.2.2.2.2) G.2.1 G.2.2.1 G.2.2.2.1 G.2.2.2.2)).1)])), (ad 3, .inl (cA 0, 40, .inr (.inl G.1))), (ad 4, .inl (cA 0, 40, .inr (.inl G.2.1)))]) hP hD [0, 1, 4, 5, 6] [2, 3] rfl rfl (by decide) (by decide) hk0 hP1 hD1
            have hP : va_P D classes [(ad (5 + 2 * j), .inr (2, [.ref (ad 2), .ref (ad (6 + 2 * j)), .long ((TT j).1), .long ((TT j).2.1), .int (bz (TT j).2.2.1), .int ((TT j).2.2.2.1), .int ((TT j).2.2.2.2.1), .int ((TT j).2.2.2.2.2.1), .int ((TT j).2.2.2.2.2.2.1), .int ((TT j).2.2.2.2.2.2.2.1), .int ((f_t_skip ((TT j).2.2.2.2.2.2.2.2.1) G.2.2.2.2 (f_t_asked ((TT j).2.2.2.2.2.2.1) ((TT j).2.2.2.2.2.2.2.1) ((TT j).2.2.2.2.2.2.2.2.2) G.2.1 G.2.2.1 G.2.2.2.1 G.2.2.2.2)).2)])), (ad (6 + 2 * j), .inl (cA 0, 40, .inr (.inl ((TT j).2.2.2.2.2.2.2.2.2)))), (ad 0, .inr (0, [.ref (ad 2), .ref (ad 1), .int (nI nt)])), (ad 1, .inl (cA 1, 4, .inr (.inr (.inr (.inr (tvf ad nt)))))), (ad 2, .inr (1, [.ref (ad 3), .ref (ad 4), .int G.2.2.1, .long G.2.2.2.1, .long ((f_t_skip ((TT j).2.2.2.2.2.2.2.2.1) G.2.2.2.2 (f_t_asked ((TT j).2.2.2.2.2.2.1) ((TT j).2.2.2.2.2.2.2.1) ((TT j).2.2.2.2.2.2.2.2.2) G.2.1 G.2.2.1 G.2.2.2.1 G.2.2.2.2)).1)])), (ad 3, .inl (cA 0, 40, .inr (.inl G.1))), (ad 4, .inl (cA 0, 40, .inr (.inl G.2.1)))] H1 := hP.sub [2, 3, 0, 1, 4, 5, 6] rfl
            have hD : va_D A [(ad (5 + 2 * j), .inr (2, [.ref (ad 2), .ref (ad (6 + 2 * j)), .long ((TT j).1), .long ((TT j).2.1), .int (bz (TT j).2.2.1), .int ((TT j).2.2.2.1), .int ((TT j).2.2.2.2.1), .int ((TT j).2.2.2.2.2.1), .int ((TT j).2.2.2.2.2.2.1), .int ((TT j).2.2.2.2.2.2.2.1), .int ((f_t_skip ((TT j).2.2.2.2.2.2.2.2.1) G.2.2.2.2 (f_t_asked ((TT j).2.2.2.2.2.2.1) ((TT j).2.2.2.2.2.2.2.1) ((TT j).2.2.2.2.2.2.2.2.2) G.2.1 G.2.2.1 G.2.2.2.1 G.2.2.2.2)).2)])), (ad (6 + 2 * j), .inl (cA 0, 40, .inr (.inl ((TT j).2.2.2.2.2.2.2.2.2)))), (ad 0, .inr (0, [.ref (ad 2), .ref (ad 1), .int (nI nt)])), (ad 1, .inl (cA 1, 4, .inr (.inr (.inr (.inr (tvf ad nt)))))), (ad 2, .inr (1, [.ref (ad 3), .ref (ad 4), .int G.2.2.1, .long G.2.2.2.1, .long ((f_t_skip ((TT j).2.2.2.2.2.2.2.2.1) G.2.2.2.2 (f_t_asked ((TT j).2.2.2.2.2.2.1) ((TT j).2.2.2.2.2.2.2.1) ((TT j).2.2.2.2.2.2.2.2.2) G.2.1 G.2.2.1 G.2.2.2.1 G.2.2.2.2)).1)])), (ad 3, .inl (cA 0, 40, .inr (.inl G.1))), (ad 4, .inl (cA 0, 40, .inr (.inl G.2.1)))] := hD.sub [2, 3, 0, 1, 4, 5, 6] (by decide) rfl
            generalize H1 = H at hP hS ⊢
            refine W.eq (g2 := F0 m 46 ls []) rfl ?_
            refine lv_goto (tgt := 56) hx hb d_x_answer_46 (by decide) ?_
            refine lv_aload_n hx hb d_x_answer_56 rfl (lv_at hl 1 rfl) ?_
            refine ro_V (v := .int (f_t_standing ((TT j).2.2.2.2.2.2.1) ((TT j).2.2.2.2.2.2.2.1) ((TT j).2.2.2.2.2.2.2.2.2) G.2.1 G.2.2.1 G.2.2.2.1 ((f_t_skip ((TT j).2.2.2.2.2.2.2.2.1) G.2.2.2.2 (f_t_asked ((TT j).2.2.2.2.2.2.1) ((TT j).2.2.2.2.2.2.2.1) ((TT j).2.2.2.2.2.2.2.2.2) G.2.1 G.2.2.1 G.2.2.2.1 G.2.2.2.2)).1))) (As := []) (rest := []) (q0 := 0) FX hK (c_t_standing l D cA (ad (5 + 2 * j)) (ad (6 + 2 * j)) ((TT j).1) ((TT j).2.1) ((TT j).2.2.1) ((TT j).2.2.2.1) ((TT j).2.2.2.2.1) ((TT j).2.2.2.2.2.1) ((TT j).2.2.2.2.2.2.1) ((TT j).2.2.2.2.2.2.2.1) ((f_t_skip ((TT j).2.2.2.2.2.2.2.2.1) G.2.2.2.2 (f_t_asked ((TT j).2.2.2.2.2.2.1) ((TT j).2.2.2.2.2.2.2.1) ((TT j).2.2.2.2.2.2.2.2.2) G.2.1 G.2.2.1 G.2.2.2.1 G.2.2.2.2)).2) ((TT j).2.2.2.2.2.2.2.2.2) (ad 2) (ad 3) (ad 4) G.1 G.2.1 G.2.2.1 G.2.2.2.1 ((f_t_skip ((TT j).2.2.2.2.2.2.2.2.1) G.2.2.2.2 (f_t_asked ((TT j).2.2.2.2.2.2.1) ((TT j).2.2.2.2.2.2.2.1) ((TT j).2.2.2.2.2.2.2.2.2) G.2.1 G.2.2.1 G.2.2.2.1 G.2.2.2.2)).1) S hS40 hsz) (hP.sub [0, 1, 4, 5, 6] rfl) hP rfl rfl rfl kc_t_standing km_x_82 ki_t ks_t_standing ke_t_standing rfl ok_t_standing ⟨Nat.le_of_ble_eq_true rfl, Nat.le_of_ble_eq_true rfl⟩ ⟨Nat.zero_le _, Nat.zero_le _⟩ hl.1 rfl (Nat.le_of_ble_eq_true rfl) d_x_answer_57 ?_
            exact mu_iret FX (S_mono hS hoA) (by rw [show (f_x_answer nt G TT ta ou) = (f_t_standing ((TT j).2.2.2.2.2.2.1) ((TT j).2.2.2.2.2.2.2.1) ((TT j).2.2.2.2.2.2.2.2.2) G.2.1 G.2.2.1 G.2.2.2.1 ((f_t_skip ((TT j).2.2.2.2.2.2.2.2.1) G.2.2.2.2 (f_t_asked ((TT j).2.2.2.2.2.2.1) ((TT j).2.2.2.2.2.2.2.1) ((TT j).2.2.2.2.2.2.2.2.2) G.2.1 G.2.2.1 G.2.2.2.1 G.2.2.2.2)).1), (G.1, G.2.1, G.2.2.1, G.2.2.2.1, (f_t_skip ((TT j).2.2.2.2.2.2.2.2.1) G.2.2.2.2 (f_t_asked ((TT j).2.2.2.2.2.2.1) ((TT j).2.2.2.2.2.2.2.1) ((TT j).2.2.2.2.2.2.2.2.2) G.2.1 G.2.2.1 G.2.2.2.1 G.2.2.2.2)).1), va_up TT j ((TT j).1, (TT j).2.1, (TT j).2.2.1, (TT j).2.2.2.1, (TT j).2.2.2.2.1, (TT j).2.2.2.2.2.1, (TT j).2.2.2.2.2.2.1, (TT j).2.2.2.2.2.2.2.1, (f_t_skip ((TT j).2.2.2.2.2.2.2.2.1) G.2.2.2.2 (f_t_asked ((TT j).2.2.2.2.2.2.1) ((TT j).2.2.2.2.2.2.2.1) ((TT j).2.2.2.2.2.2.2.2.2) G.2.1 G.2.2.1 G.2.2.2.1 G.2.2.2.2)).2, (TT j).2.2.2.2.2.2.2.2.2)) from (by rw [f_x_answer, om_some hq1, if_neg c2, if_pos c3, if_neg c4, if_pos c5])]; exact ⟨rfl, wx_put7 (G' := (G.1, G.2.1, G.2.2.1, G.2.2.2.1, (f_t_skip ((TT j).2.2.2.2.2.2.2.2.1) G.2.2.2.2 (f_t_asked ((TT j).2.2.2.2.2.2.1) ((TT j).2.2.2.2.2.2.2.1) ((TT j).2.2.2.2.2.2.2.2.2) G.2.1 G.2.2.1 G.2.2.2.1 G.2.2.2.2)).1)) (T' := ((TT j).1, (TT j).2.1, (TT j).2.2.1, (TT j).2.2.2.1, (TT j).2.2.2.2.1, (TT j).2.2.2.2.2.1, (TT j).2.2.2.2.2.2.1, (TT j).2.2.2.2.2.2.2.1, (f_t_skip ((TT j).2.2.2.2.2.2.2.2.1) G.2.2.2.2 (f_t_asked ((TT j).2.2.2.2.2.2.1) ((TT j).2.2.2.2.2.2.2.1) ((TT j).2.2.2.2.2.2.2.2.2) G.2.1 G.2.2.1 G.2.2.2.1 G.2.2.2.2)).2, (TT j).2.2.2.2.2.2.2.2.2)) hW hinj hj hA hS hP⟩) d_x_answer_60
        · have c4 := c4
          refine lv_iconst (v := (-1)) hx hb d_x_answer_33 (by decide) ?_
          exact mu_iret FX va_S.rf (by rw [show (f_x_answer nt G TT ta ou) = ((-1), G, TT) from (by rw [f_x_answer, om_some hq1, if_neg c2, if_pos c3, if_pos c4])]; exact ⟨rfl, hW⟩) d_x_answer_34
      · have c3 := c3
        refine lv_iconst (v := (-1)) hx hb d_x_answer_19 (by decide) ?_
        exact mu_iret FX va_S.rf (by rw [show (f_x_answer nt G TT ta ou) = ((-1), G, TT) from (by rw [f_x_answer, om_some hq1, if_neg c2, if_neg c3])]; exact ⟨rfl, hW⟩) d_x_answer_20
theorem wx_lt {D : va_G} {cA : Nat → ClassId} {ad : Nat → Nat} {nt : Nat} {G : GS} {TT : Nat → TS} {H : Heap} (hW : WX D cA ad nt G TT H) : ∀ i, i < 5 + 2 * nt → ad i < H.size := by
  intro i hi
  by_cases h5 : i < 5
  · rcases (show i = 0 ∨ i = 1 ∨ i = 2 ∨ i = 3 ∨ i = 4 by omega) with rfl | rfl | rfl | rfl | rfl
    · exact (hW.1 0 _ rfl).lt
    · exact (hW.1 1 _ rfl).lt
    · exact (hW.1 2 _ rfl).lt
    · exact (hW.1 3 _ rfl).lt
    · exact (hW.1 4 _ rfl).lt
  · obtain ⟨j, hj⟩ : ∃ j, i = 5 + 2 * j ∨ i = 6 + 2 * j := ⟨(i - 5) / 2, by omega⟩
    rcases hj with rfl | rfl
    · exact (hW.2 j (by omega) 0 _ rfl).lt
    · exact (hW.2 j (by omega) 1 _ rfl).lt
def adn (ad : Nat → Nat) (nt q1 q2 : Nat) : Nat → Nat := fun i => if i = 5 + 2 * nt then q1 else if i = 6 + 2 * nt then q2 else ad i
theorem adn_old {ad : Nat → Nat} {nt q1 q2 i : Nat} (h : i < 5 + 2 * nt) : adn ad nt q1 q2 i = ad i := by
  unfold adn
  rw [if_neg (by omega), if_neg (by omega)]
theorem adn_1 {ad : Nat → Nat} {nt q1 q2 : Nat} : adn ad nt q1 q2 (5 + 2 * nt) = q1 := by
  unfold adn
  rw [if_pos rfl]
theorem adn_2 {ad : Nat → Nat} {nt q1 q2 : Nat} : adn ad nt q1 q2 (6 + 2 * nt) = q2 := by
  unfold adn
  rw [if_neg (by omega), if_pos rfl]
theorem tvf_new {ad : Nat → Nat} {nt q1 q2 : Nat} : tvf (adn ad nt q1 q2) (nt + 1) = va_up (tvf ad nt) nt (some q1) := by
  funext k
  unfold tvf va_up
  by_cases h : k = nt
  · subst h
    rw [if_pos (Nat.lt_succ_self k), if_pos rfl, adn_1]
  · rw [if_neg h]
    show _ = (if k < nt then some (ad (5 + 2 * k)) else none)
    by_cases h2 : k < nt
    · rw [if_pos (by omega), if_pos h2, adn_old (by omega)]
    · rw [if_neg (by omega), if_neg h2]
theorem wx_new {D : va_G} {cA : Nat → ClassId} {ad : Nat → Nat} {nt : Nat} {G : GS} {TT : Nat → TS} {H0 H : Heap} {locs : List Loc} {A : Nat → Prop} {q1 q2 : Nat} (hW : WX D cA ad nt G TT H0) (hinj : adX ad nt) (hA : A = va_A (cX cA ad nt G) H0.size) (h4 : nI nt < 4) (hnt : nt ≤ 4) (hS : va_S A H0 H locs)
    (hP : va_P D classes [(ad 0, .inr (0, [.ref (ad 2), .ref (ad 1), .int (nI nt + 1)])), (ad 1, .inl (cA 1, 4, .inr (.inr (.inr (.inr (va_up (tvf ad nt) (nI nt).toNatClampNeg (some q1))))))), (ad 2, .inr (1, [.ref (ad 3), .ref (ad 4), .int G.2.2.1, .long G.2.2.2.1, .long G.2.2.2.2])), (ad 3, .inl (cA 0, 40, .inr (.inl G.1))), (ad 4, .inl (cA 0, 40, .inr (.inl G.2.1))), (q1, .inr (2, [.ref (ad 2), .ref q2, .long 0, .long 0, .int (bz false), .int (-1), .int 0, .int 1, .int 100, .int 0, .int 0])), (q2, .inl (cA 0, 40, .inr (.inl (fun _ => 0))))] H)
    (hD : va_D A [(ad 0, .inr (0, [.ref (ad 2), .ref (ad 1), .int (nI nt + 1)])), (ad 1, .inl (cA 1, 4, .inr (.inr (.inr (.inr (va_up (tvf ad nt) (nI nt).toNatClampNeg (some q1))))))), (ad 2, .inr (1, [.ref (ad 3), .ref (ad 4), .int G.2.2.1, .long G.2.2.2.1, .long G.2.2.2.2])), (ad 3, .inl (cA 0, 40, .inr (.inl G.1))), (ad 4, .inl (cA 0, 40, .inr (.inl G.2.1))), (q1, .inr (2, [.ref (ad 2), .ref q2, .long 0, .long 0, .int (bz false), .int (-1), .int 0, .int 1, .int 100, .int 0, .int 0])), (q2, .inl (cA 0, 40, .inr (.inl (fun _ => 0))))]) :
    ∃ ad' : Nat → Nat, (∀ q, ox ad' (nt + 1) q → ox ad nt q ∨ H0.size ≤ q) ∧ ad' 0 = ad 0 ∧ adX ad' (nt + 1) ∧ WX D cA ad' (nt + 1) G (va_up TT nt (0, 0, false, (-1), 0, 1, 100, 0, 0, fun _ => 0)) H := by
  subst hA
  have hc : (nI nt).toNatClampNeg = nt := nI_clamp (by omega)
  have hlt := wx_lt hW
  have notin : ∀ q, va_A (cX cA ad nt G) H0.size q → (∀ i, i < 5 → ad i ≠ q) → H0.size ≤ q := by
    intro q h hn
    rcases h with h | h
    · have h' : aw (cX cA ad nt G) q := h
      rw [aw_iff] at h'
      simp only [List.map_cons, List.map_nil, List.mem_cons, List.not_mem_nil, or_false] at h'
      rcases h' with h' | h' | h' | h' | h'
      · exact absurd h'.symm (hn 0 (by omega))
      · exact absurd h'.symm (hn 1 (by omega))
      · exact absurd h'.symm (hn 2 (by omega))
      · exact absurd h'.symm (hn 3 (by omega))
      · exact absurd h'.symm (hn 4 (by omega))
    · exact h
  have hn1 : ∀ i, i < 5 → ad i ≠ q1 := by
    intro i hi e
    rcases (show i = 0 ∨ i = 1 ∨ i = 2 ∨ i = 3 ∨ i = 4 by omega) with rfl | rfl | rfl | rfl | rfl
    · exact absurd (hD.1 0 5 _ _ rfl rfl e) (by decide)
    · exact absurd (hD.1 1 5 _ _ rfl rfl e) (by decide)
    · exact absurd (hD.1 2 5 _ _ rfl rfl e) (by decide)
    · exact absurd (hD.1 3 5 _ _ rfl rfl e) (by decide)
    · exact absurd (hD.1 4 5 _ _ rfl rfl e) (by decide)
  have hn2 : ∀ i, i < 5 → ad i ≠ q2 := by
    intro i hi e
    rcases (show i = 0 ∨ i = 1 ∨ i = 2 ∨ i = 3 ∨ i = 4 by omega) with rfl | rfl | rfl | rfl | rfl
    · exact absurd (hD.1 0 6 _ _ rfl rfl e) (by decide)
    · exact absurd (hD.1 1 6 _ _ rfl rfl e) (by decide)
    · exact absurd (hD.1 2 6 _ _ rfl rfl e) (by decide)
    · exact absurd (hD.1 3 6 _ _ rfl rfl e) (by decide)
    · exact absurd (hD.1 4 6 _ _ rfl rfl e) (by decide)
  have hn12 : q1 ≠ q2 := fun e => absurd (hD.1 5 6 _ _ rfl rfl e) (by decide)
  have g1 : H0.size ≤ q1 := notin q1 (hD.2 5 _ rfl) hn1
  have g2 : H0.size ≤ q2 := notin q2 (hD.2 6 _ rfl) hn2
  refine ⟨adn ad nt q1 q2, fun q h => ?_, adn_old (by omega), fun i j hi hj e => ?_, ?_, fun j hj => ?_⟩
  · obtain ⟨i, hi, rfl⟩ := h
    by_cases h1 : i = 5 + 2 * nt
    · subst h1; rw [adn_1]; exact Or.inr g1
    · by_cases h2 : i = 6 + 2 * nt
      · subst h2; rw [adn_2]; exact Or.inr g2
      · rw [adn_old (by omega)]; exact Or.inl ⟨i, by omega, rfl⟩
  · by_cases i1 : i = 5 + 2 * nt
    · subst i1
      rw [adn_1] at e
      by_cases j1 : j = 5 + 2 * nt
      · exact j1.symm
      · by_cases j2 : j = 6 + 2 * nt
        · subst j2; rw [adn_2] at e; exact absurd e hn12
        · rw [adn_old (by omega)] at e
          have := hlt j (by omega)
          omega
    · by_cases i2 : i = 6 + 2 * nt
      · subst i2
        rw [adn_2] at e
        by_cases j1 : j = 5 + 2 * nt
        · subst j1; rw [adn_1] at e; exact absurd e.symm hn12
        · by_cases j2 : j = 6 + 2 * nt
          · exact j2.symm
          · rw [adn_old (by omega)] at e
            have := hlt j (by omega)
            omega
      · rw [adn_old (by omega)] at e
        have := hlt i (by omega)
        by_cases j1 : j = 5 + 2 * nt
        · subst j1; rw [adn_1] at e; omega
        · by_cases j2 : j = 6 + 2 * nt
          · subst j2; rw [adn_2] at e; omega
          · rw [adn_old (by omega)] at e
            exact hinj i j (by omega) (by omega) e
  · have h0 := hP.sub (ws' := [(ad 0, .inr (0, [.ref (ad 2), .ref (ad 1), .int (nI nt + 1)])), (ad 1, .inl (cA 1, 4, .inr (.inr (.inr (.inr (va_up (tvf ad nt) (nI nt).toNatClampNeg (some q1))))))), (ad 2, .inr (1, [.ref (ad 3), .ref (ad 4), .int G.2.2.1, .long G.2.2.2.1, .long G.2.2.2.2])), (ad 3, .inl (cA 0, 40, .inr (.inl G.1))), (ad 4, .inl (cA 0, 40, .inr (.inl G.2.1)))]) [0, 1, 2, 3, 4] rfl
    rw [hc, nI_1, ← tvf_new (q2 := q2)] at h0
    show va_P D classes (cX cA (adn ad nt q1 q2) (nt + 1) G) H
    unfold cX
    rw [adn_old (i := 0) (by omega), adn_old (i := 1) (by omega), adn_old (i := 2) (by omega), adn_old (i := 3) (by omega), adn_old (i := 4) (by omega)]
    exact h0
  · by_cases hjn : j = nt
    · subst hjn
      rw [va_up_self]
      unfold cT
      rw [adn_1, adn_2, adn_old (i := 2) (by omega)]
      exact hP.sub [5, 6] rfl
    · rw [va_up_ne _ _ hjn]
      have hj' : j < nt := by omega
      unfold cT
      rw [adn_old (i := 2) (by omega), adn_old (i := 5 + 2 * j) (by omega), adn_old (i := 6 + 2 * j) (by omega)]
      refine (hW.2 j hj').kept (fun a q hq => ?_)
      have hq0 := (hW.2 j hj' a q hq).lt
      refine hS.2.1 q.1 hq0 (fun h => ?_)
      have e : ∃ i, (i = 5 + 2 * j ∨ i = 6 + 2 * j) ∧ q.1 = ad i := by
        match a, hq with
        | 0, hq => cases hq; exact ⟨_, Or.inl rfl, rfl⟩
        | 1, hq => cases hq; exact ⟨_, Or.inr rfl, rfl⟩
        | a + 2, hq => simp at hq
      obtain ⟨i, hi, e⟩ := e
      have := notin q.1 h (fun k hk e2 => by
        rw [e] at e2
        have := hinj k i (by omega) (by omega) e2
        omega)
      omega
theorem d_x_target_0 : decode b_x_target 0 = .ok (.aload_n 0, 1) := by decide +kernel
theorem d_x_target_1 : decode b_x_target 1 = .ok (.getfield 22, 3) := by decide +kernel
theorem d_x_target_4 : decode b_x_target 4 = .ok (.ifCond .lt 15, 3) := by decide +kernel
theorem d_x_target_7 : decode b_x_target 7 = .ok (.aload_n 0, 1) := by decide +kernel
theorem d_x_target_8 : decode b_x_target 8 = .ok (.getfield 22, 3) := by decide +kernel
theorem d_x_target_11 : decode b_x_target 11 = .ok (.aload_n 0, 1) := by decide +kernel
theorem d_x_target_12 : decode b_x_target 12 = .ok (.getfield 18, 3) := by decide +kernel
theorem d_x_target_15 : decode b_x_target 15 = .ok (.arraylength, 1) := by decide +kernel
theorem d_x_target_16 : decode b_x_target 16 = .ok (.if_icmp .lt 5, 3) := by decide +kernel
theorem d_x_target_19 : decode b_x_target 19 = .ok (.iconst (-1), 1) := by decide +kernel
theorem d_x_target_20 : decode b_x_target 20 = .ok (.ireturn, 1) := by decide +kernel
theorem d_x_target_21 : decode b_x_target 21 = .ok (.aload_n 0, 1) := by decide +kernel
theorem d_x_target_22 : decode b_x_target 22 = .ok (.getfield 22, 3) := by decide +kernel
theorem d_x_target_25 : decode b_x_target 25 = .ok (.istore_n 1, 1) := by decide +kernel
theorem d_x_target_26 : decode b_x_target 26 = .ok (.aload_n 0, 1) := by decide +kernel
theorem d_x_target_27 : decode b_x_target 27 = .ok (.getfield 18, 3) := by decide +kernel
theorem d_x_target_30 : decode b_x_target 30 = .ok (.iload_n 1, 1) := by decide +kernel
theorem d_x_target_31 : decode b_x_target 31 = .ok (.new 16, 3) := by decide +kernel
theorem d_x_target_34 : decode b_x_target 34 = .ok (.dup, 1) := by decide +kernel
theorem d_x_target_35 : decode b_x_target 35 = .ok (.aload_n 0, 1) := by decide +kernel
theorem d_x_target_36 : decode b_x_target 36 = .ok (.getfield 10, 3) := by decide +kernel
theorem d_x_target_39 : decode b_x_target 39 = .ok (.invokespecial 48, 3) := by decide +kernel
theorem d_x_target_42 : decode b_x_target 42 = .ok (.aastore, 1) := by decide +kernel
theorem d_x_target_43 : decode b_x_target 43 = .ok (.aload_n 0, 1) := by decide +kernel
theorem d_x_target_44 : decode b_x_target 44 = .ok (.dup, 1) := by decide +kernel
theorem d_x_target_45 : decode b_x_target 45 = .ok (.getfield 22, 3) := by decide +kernel
theorem d_x_target_48 : decode b_x_target 48 = .ok (.iconst 1, 1) := by decide +kernel
theorem d_x_target_49 : decode b_x_target 49 = .ok (.iadd, 1) := by decide +kernel
theorem d_x_target_50 : decode b_x_target 50 = .ok (.putfield 22, 3) := by decide +kernel
theorem d_x_target_53 : decode b_x_target 53 = .ok (.iload_n 1, 1) := by decide +kernel
theorem d_x_target_54 : decode b_x_target 54 = .ok (.ireturn, 1) := by decide +kernel
def f_x_target (nt : Nat) (TT : Nat → TS) : Int32 × Nat × (Nat → TS) := if (nI nt) < 0 then
    (((-1), nt, TT))
  else
    (if (nI nt) < 4 then
      ((nI nt, nt + 1, va_up TT nt (0, 0, false, (-1), 0, 1, 100, 0, 0, fun _ => 0)))
    else
      (((-1), nt, TT)))
set_option maxHeartbeats 4000000 in
set_option maxRecDepth 100000 in
theorem c_x_target (l : Launch) (D : va_G) (cA : Nat → ClassId) (ad : Nat → Nat) (nt : Nat) (G : GS) (TT : Nat → TS) (sz : Nat) (hnt : nt ≤ 4) (hinj : adX ad nt) : Met l y_x_target (.code y_x_target b_x_target 2 (some .int) :: tb) (rma 2 2 51) (Pro D cA [.ref (ad 0)] (fun H0 => H0.size = sz ∧ WX D cA ad nt G TT H0)) (Qmu (fun q => ox ad nt q ∨ sz ≤ q) (fun v0 H0 => v0 = some (.int (f_x_target nt TT).1) ∧ ∃ ad' : Nat → Nat, (∀ q, ox ad' (f_x_target nt TT).2.1 q → ox ad nt q ∨ sz ≤ q) ∧ ad' 0 = ad 0 ∧ adX ad' (f_x_target nt TT).2.1 ∧ WX D cA ad' (f_x_target nt TT).2.1 G (f_x_target nt TT).2.2 H0)) 2 51 (fun q => ox ad nt q ∨ sz ≤ q) := by
  refine ro_in (by decide) (Nat.le_of_ble_eq_true rfl) (fun p e s m below meth c ls FX hnm hK hW hl => ?_)
  have hl : lv_has ls 2 [(0, .ref (ad 0))] := hl
  obtain ⟨hsz, hW⟩ := hW
  subst hsz
  have hP : va_P D classes [(ad 0, .inr (0, [.ref (ad 2), .ref (ad 1), .int (nI nt)])), (ad 1, .inl (cA 1, 4, .inr (.inr (.inr (.inr (tvf ad nt)))))), (ad 2, .inr (1, [.ref (ad 3), .ref (ad 4), .int G.2.2.1, .long G.2.2.2.1, .long G.2.2.2.2])), (ad 3, .inl (cA 0, 40, .inr (.inl G.1))), (ad 4, .inl (cA 0, 40, .inr (.inl G.2.1)))] s.heap := hW.1
  have hD : va_D (va_A [(ad 0, .inr (0, [.ref (ad 2), .ref (ad 1), .int (nI nt)])), (ad 1, .inl (cA 1, 4, .inr (.inr (.inr (.inr (tvf ad nt)))))), (ad 2, .inr (1, [.ref (ad 3), .ref (ad 4), .int G.2.2.1, .long G.2.2.2.1, .long G.2.2.2.2])), (ad 3, .inl (cA 0, 40, .inr (.inl G.1))), (ad 4, .inl (cA 0, 40, .inr (.inl G.2.1)))] s.heap.size) [(ad 0, .inr (0, [.ref (ad 2), .ref (ad 1), .int (nI nt)])), (ad 1, .inl (cA 1, 4, .inr (.inr (.inr (.inr (tvf ad nt)))))), (ad 2, .inr (1, [.ref (ad 3), .ref (ad 4), .int G.2.2.1, .long G.2.2.2.1, .long G.2.2.2.2])), (ad 3, .inl (cA 0, 40, .inr (.inl G.1))), (ad 4, .inl (cA 0, 40, .inr (.inl G.2.1)))] := (wx_d5 hinj (G := G)).self
  have hoA : ∀ q, va_A [(ad 0, .inr (0, [.ref (ad 2), .ref (ad 1), .int (nI nt)])), (ad 1, .inl (cA 1, 4, .inr (.inr (.inr (.inr (tvf ad nt)))))), (ad 2, .inr (1, [.ref (ad 3), .ref (ad 4), .int G.2.2.1, .long G.2.2.2.1, .long G.2.2.2.2])), (ad 3, .inl (cA 0, 40, .inr (.inl G.1))), (ad 4, .inl (cA 0, 40, .inr (.inl G.2.1)))] s.heap.size q → (ox ad nt q ∨ s.heap.size ≤ q) := fun q h => h.elim (fun h => Or.inl (ox_5 (G := G) q h)) Or.inr
  obtain ⟨A, hA7⟩ : ∃ A, A = va_A [(ad 0, .inr (0, [.ref (ad 2), .ref (ad 1), .int (nI nt)])), (ad 1, .inl (cA 1, 4, .inr (.inr (.inr (.inr (tvf ad nt)))))), (ad 2, .inr (1, [.ref (ad 3), .ref (ad 4), .int G.2.2.1, .long G.2.2.2.1, .long G.2.2.2.2])), (ad 3, .inl (cA 0, 40, .inr (.inl G.1))), (ad 4, .inl (cA 0, 40, .inr (.inl G.2.1)))] s.heap.size := ⟨_, rfl⟩
  rw [← hA7] at hD hoA
  have hA : ∀ q : Nat, s.heap.size ≤ q → A q := fun q h => by rw [hA7]; exact Or.inr h
  have hS : va_S A s.heap s.heap [] := va_S.rf
  generalize ([.ref (ad 0)] : List Value).toArray = args at FX ⊢
  obtain ⟨hx, hb, hml, hown, hts, hr, hlk⟩ := id FX
  refine lv_aload_n hx hb d_x_target_0 rfl (lv_at hl 0 rfl) ?_
  refine ro_get (v := .int (nI nt)) FX hK hP 0 2 rfl rfl rfl i_x (by decide) kf_x_22 d_x_target_1 ?_
  refine lv_if_lt (tgt := 19) hx hb d_x_target_4 (by decide) (fun c1 => ?_) (fun c1 => ?_)
  · have c1 := c1
    refine lv_iconst (v := (-1)) hx hb d_x_target_19 (by decide) ?_
    refine W.widen (k := 2) (n := 51) (Nat.zero_le _) (Nat.zero_le _) ?_
    exact mu_iret FX va_S.rf (by rw [show (f_x_target nt TT) = ((-1), nt, TT) from (by rw [f_x_target, if_pos c1])]; exact ⟨rfl, ad, fun q h => Or.inl h, rfl, hinj, hW⟩) d_x_target_20
  · have c1 := c1
    refine lv_aload_n hx hb d_x_target_7 rfl (lv_at hl 0 rfl) ?_
    refine ro_get (v := .int (nI nt)) FX hK hP 0 2 rfl rfl rfl i_x (by decide) kf_x_22 d_x_target_8 ?_
    refine lv_aload_n hx hb d_x_target_11 rfl (lv_at hl 0 rfl) ?_
    refine ro_get (v := .ref (ad 1)) FX hK hP 0 1 rfl rfl rfl i_x (by decide) kf_x_18 d_x_target_12 ?_
    refine va_alen (v := 4) hx hb hK.1 hP 1 1 rfl rfl rfl d_x_target_15 ?_
    refine lv_icmp_lt (tgt := 21) hx hb d_x_target_16 (by decide) (fun c2 => ?_) (fun c2 => ?_)
    · have c2 := c2
      refine lv_aload_n hx hb d_x_target_21 rfl (lv_at hl 0 rfl) ?_
      refine ro_get (v := .int (nI nt)) FX hK hP 0 2 rfl rfl rfl i_x (by decide) kf_x_22 d_x_target_22 ?_
      refine lv_istore_n (lv' := [(1, .int (nI nt)), (0, .ref (ad 0))]) hx hb d_x_target_25 rfl hl (by decide) rfl (fun ls hl => ?_)
      refine lv_aload_n hx hb d_x_target_26 rfl (lv_at hl 1 rfl) ?_
      refine ro_get (v := .ref (ad 1)) FX hK hP 0 1 rfl rfl rfl i_x (by decide) kf_x_18 d_x_target_27 ?_
      refine lv_iload_n hx hb d_x_target_30 rfl (lv_at hl 0 rfl) ?_
      refine va_new (ci := 2) (fs := [.null, .null, .long 0, .long 0, .int (bz false), .int 0, .int 0, .int 0, .int 0, .int 0, .int 0]) hx hb hts i_t t_t t_t_ok hown (hts _ kk_x_16) (hts _ kz_t) (hts _ ki_t) hK.1 hP hD hS hA rfl (fun j hj => by rcases (show j = 0 ∨ j = 1 ∨ j = 2 ∨ j = 3 ∨ j = 4 ∨ j = 5 ∨ j = 6 ∨ j = 7 ∨ j = 8 ∨ j = 9 ∨ j = 10 by omega) with rfl | rfl | rfl | rfl | rfl | rfl | rfl | rfl | rfl | rfl | rfl <;> rfl) (Nat.le_of_ble_eq_true rfl) (Nat.le_of_ble_eq_true rfl) d_x_target_31 (fun q3 H hP hD hS => ?_)
      have hP : va_P D classes [(ad 0, .inr (0, [.ref (ad 2), .ref (ad 1), .int (nI nt)])), (ad 1, .inl (cA 1, 4, .inr (.inr (.inr (.inr (tvf ad nt)))))), (ad 2, .inr (1, [.ref (ad 3), .ref (ad 4), .int G.2.2.1, .long G.2.2.2.1, .long G.2.2.2.2])), (ad 3, .inl (cA 0, 40, .inr (.inl G.1))), (ad 4, .inl (cA 0, 40, .inr (.inl G.2.1))), (q3, .inr (2, [.null, .null, .long 0, .long 0, .int (bz false), .int 0, .int 0, .int 0, .int 0, .int 0, .int 0]))] H := hP
      have hD : va_D A [(ad 0, .inr (0, [.ref (ad 2), .ref (ad 1), .int (nI nt)])), (ad 1, .inl (cA 1, 4, .inr (.inr (.inr (.inr (tvf ad nt)))))), (ad 2, .inr (1, [.ref (ad 3), .ref (ad 4), .int G.2.2.1, .long G.2.2.2.1, .long G.2.2.2.2])), (ad 3, .inl (cA 0, 40, .inr (.inl G.1))), (ad 4, .inl (cA 0, 40, .inr (.inl G.2.1))), (q3, .inr (2, [.null, .null, .long 0, .long 0, .int (bz false), .int 0, .int 0, .int 0, .int 0, .int 0, .int 0]))] := hD
      refine lv_dup hx hb d_x_target_34 rfl ?_
      refine lv_aload_n hx hb d_x_target_35 rfl (lv_at hl 1 rfl) ?_
      refine ro_get (v := .ref (ad 2)) FX hK hP 0 0 rfl rfl rfl i_x (by decide) kf_x_10 d_x_target_36 ?_
      have hFc := va_free (wc := [(q3, .inr (2, [.null, .null, .long 0, .long 0, .int (bz false), .int 0, .int 0, .int 0, .int 0, .int 0, .int 0]))]) hD hS hA [5] rfl
      refine al_I (As := [.ref (ad 2)]) (rest := [.ref q3, .int (nI nt), .ref (ad 1)]) FX hK (c_t_init l D cA q3 (ad 2) H.size) (hP.sub [5] rfl) (hD.sub [5] (by decide) rfl) kc_t_init km_x_48 ki_t ks_t_init rfl rfl ok_t_init ⟨Nat.le_of_ble_eq_true rfl, Nat.le_of_ble_eq_true rfl⟩ ⟨Nat.le_of_ble_eq_true rfl, Nat.le_of_ble_eq_true rfl⟩ hl.1 rfl (Nat.le_of_ble_eq_true rfl) d_x_target_39 hS hFc (fun v0 H1 locs hv0 hz0 hk0 hS => ?_)
      obtain ⟨rfl, q4, hP1, hD1⟩ := hv0
      obtain ⟨hP, hD⟩ := va_join (wr := [(ad 0, .inr (0, [.ref (ad 2), .ref (ad 1), .int (nI nt)])), (ad 1, .inl (cA 1, 4, .inr (.inr (.inr (.inr (tvf ad nt)))))), (ad 2, .inr (1, [.ref (ad 3), .ref (ad 4), .int G.2.2.1, .long G.2.2.2.1, .long G.2.2.2.2])), (ad 3, .inl (cA 0, 40, .inr (.inl G.1))), (ad 4, .inl (cA 0, 40, .inr (.inl G.2.1)))]) (w1 := [(q3, .inr (2, [.ref (ad 2), .ref q4, .long 0, .long 0, .int (bz false), .int (-1), .int 0, .int 1, .int 100, .int 0, .int 0])), (q4, .inl (cA 0, 40, .inr (.inl (fun _ => 0))))]) hP hD [5] [0, 1, 2, 3, 4] rfl rfl (by decide) (by decide) hk0 hFc hP1 hD1
      have hP : va_P D classes [(ad 0, .inr (0, [.ref (ad 2), .ref (ad 1), .int (nI nt)])), (ad 1, .inl (cA 1, 4, .inr (.inr (.inr (.inr (tvf ad nt)))))), (ad 2, .inr (1, [.ref (ad 3), .ref (ad 4), .int G.2.2.1, .long G.2.2.2.1, .long G.2.2.2.2])), (ad 3, .inl (cA 0, 40, .inr (.inl G.1))), (ad 4, .inl (cA 0, 40, .inr (.inl G.2.1))), (q3, .inr (2, [.ref (ad 2), .ref q4, .long 0, .long 0, .int (bz false), .int (-1), .int 0, .int 1, .int 100, .int 0, .int 0])), (q4, .inl (cA 0, 40, .inr (.inl (fun _ => 0))))] H1 := hP
      have hD : va_D A [(ad 0, .inr (0, [.ref (ad 2), .ref (ad 1), .int (nI nt)])), (ad 1, .inl (cA 1, 4, .inr (.inr (.inr (.inr (tvf ad nt)))))), (ad 2, .inr (1, [.ref (ad 3), .ref (ad 4), .int G.2.2.1, .long G.2.2.2.1, .long G.2.2.2.2])), (ad 3, .inl (cA 0, 40, .inr (.inl G.1))), (ad 4, .inl (cA 0, 40, .inr (.inl G.2.1))), (q3, .inr (2, [.ref (ad 2), .ref q4, .long 0, .long 0, .int (bz false), .int (-1), .int 0, .int 1, .int 100, .int 0, .int 0])), (q4, .inl (cA 0, 40, .inr (.inl (fun _ => 0))))] := hD
      generalize H1 = H at hP hS ⊢
      refine W.eq (g2 := F0 m 42 ls [.ref q3, .int (nI nt), .ref (ad 1)]) rfl ?_
      refine va_astq (v := q3) hx hb hK.1 hP hD hS 1 1 5 2 rfl rfl rfl rfl (vin3 c1 c2) d_x_target_42 (fun H locs hP hD hS => ?_)
      have hP : va_P D classes [(ad 0, .inr (0, [.ref (ad 2), .ref (ad 1), .int (nI nt)])), (ad 1, .inl (cA 1, 4, .inr (.inr (.inr (.inr (va_up (tvf ad nt) (nI nt).toNatClampNeg (some q3))))))), (ad 2, .inr (1, [.ref (ad 3), .ref (ad 4), .int G.2.2.1, .long G.2.2.2.1, .long G.2.2.2.2])), (ad 3, .inl (cA 0, 40, .inr (.inl G.1))), (ad 4, .inl (cA 0, 40, .inr (.inl G.2.1))), (q3, .inr (2, [.ref (ad 2), .ref q4, .long 0, .long 0, .int (bz false), .int (-1), .int 0, .int 1, .int 100, .int 0, .int 0])), (q4, .inl (cA 0, 40, .inr (.inl (fun _ => 0))))] H := hP
      have hD : va_D A [(ad 0, .inr (0, [.ref (ad 2), .ref (ad 1), .int (nI nt)])), (ad 1, .inl (cA 1, 4, .inr (.inr (.inr (.inr (va_up (tvf ad nt) (nI nt).toNatClampNeg (some q3))))))), (ad 2, .inr (1, [.ref (ad 3), .ref (ad 4), .int G.2.2.1, .long G.2.2.2.1, .long G.2.2.2.2])), (ad 3, .inl (cA 0, 40, .inr (.inl G.1))), (ad 4, .inl (cA 0, 40, .inr (.inl G.2.1))), (q3, .inr (2, [.ref (ad 2), .ref q4, .long 0, .long 0, .int (bz false), .int (-1), .int 0, .int 1, .int 100, .int 0, .int 0])), (q4, .inl (cA 0, 40, .inr (.inl (fun _ => 0))))] := hD
      refine lv_aload_n hx hb d_x_target_43 rfl (lv_at hl 1 rfl) ?_
      refine lv_dup hx hb d_x_target_44 rfl ?_
      refine ro_get (v := .int (nI nt)) FX hK hP 0 2 rfl rfl rfl i_x (by decide) kf_x_22 d_x_target_45 ?_
      refine lv_iconst (v := 1) hx hb d_x_target_48 (by decide) ?_
      refine lv_iadd hx hb d_x_target_49 ?_
      refine va_put (D := D) (v := .int ((nI nt) + 1)) (ty := .int) hx hb hts i_x t_x t_x_ok n_x hown hK.1 hP hD hS 0 rfl rfl 2 (by decide) (hts _ kf_x_22) (fun _ h9 => h9) rfl (by decide +kernel) rfl rfl (Nat.le_of_ble_eq_true rfl) d_x_target_50 (fun H locs hP hD hS => ?_)
      have hP : va_P D classes [(ad 0, .inr (0, [.ref (ad 2), .ref (ad 1), .int ((nI nt) + 1)])), (ad 1, .inl (cA 1, 4, .inr (.inr (.inr (.inr (va_up (tvf ad nt) (nI nt).toNatClampNeg (some q3))))))), (ad 2, .inr (1, [.ref (ad 3), .ref (ad 4), .int G.2.2.1, .long G.2.2.2.1, .long G.2.2.2.2])), (ad 3, .inl (cA 0, 40, .inr (.inl G.1))), (ad 4, .inl (cA 0, 40, .inr (.inl G.2.1))), (q3, .inr (2, [.ref (ad 2), .ref q4, .long 0, .long 0, .int (bz false), .int (-1), .int 0, .int 1, .int 100, .int 0, .int 0])), (q4, .inl (cA 0, 40, .inr (.inl (fun _ => 0))))] H := hP
      have hD : va_D A [(ad 0, .inr (0, [.ref (ad 2), .ref (ad 1), .int ((nI nt) + 1)])), (ad 1, .inl (cA 1, 4, .inr (.inr (.inr (.inr (va_up (tvf ad nt) (nI nt).toNatClampNeg (some q3))))))), (ad 2, .inr (1, [.ref (ad 3), .ref (ad 4), .int G.2.2.1, .long G.2.2.2.1, .long G.2.2.2.2])), (ad 3, .inl (cA 0, 40, .inr (.inl G.1))), (ad 4, .inl (cA 0, 40, .inr (.inl G.2.1))), (q3, .inr (2, [.ref (ad 2), .ref q4, .long 0, .long 0, .int (bz false), .int (-1), .int 0, .int 1, .int 100, .int 0, .int 0])), (q4, .inl (cA 0, 40, .inr (.inl (fun _ => 0))))] := hD
      refine lv_iload_n hx hb d_x_target_53 rfl (lv_at hl 0 rfl) ?_
      exact mu_iret FX (S_mono hS hoA) (by rw [show (f_x_target nt TT) = (nI nt, nt + 1, va_up TT nt (0, 0, false, (-1), 0, 1, 100, 0, 0, fun _ => 0)) from (by rw [f_x_target, if_neg c1, if_pos c2])]; exact ⟨rfl, wx_new hW hinj hA7 c2 hnt hS (hP.sub [0, 1, 2, 3, 4, 5, 6] rfl) (hD.sub [0, 1, 2, 3, 4, 5, 6] (by decide) rfl)⟩) d_x_target_54
    · have c2 := c2
      refine lv_iconst (v := (-1)) hx hb d_x_target_19 (by decide) ?_
      refine W.widen (k := 2) (n := 51) (Nat.zero_le _) (Nat.zero_le _) ?_
      exact mu_iret FX va_S.rf (by rw [show (f_x_target nt TT) = ((-1), nt, TT) from (by rw [f_x_target, if_neg c1, if_neg c2])]; exact ⟨rfl, ad, fun q h => Or.inl h, rfl, hinj, hW⟩) d_x_target_20
end
