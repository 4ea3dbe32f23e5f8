section
-- ===== PART A: goes FIRST, ahead of the names: the tables' words, and 'selects' of the private methods out of them =====
/-- a private method of a class that the tables say can be made, by its rows of tables_1 -/
def lw_okq (q : MethodName × Nat) : Prop := (q.1.cls ≠ "java/lang/invoke/MethodHandle" ∧ q.1.cls ≠ "java/lang/invoke/VarHandle") ∧ Cond.instantiable q.1.cls q.2 ∈ tables_1 ∧ Cond.privateMethod q.1 ∈ tables_1 ∧ Cond.instanceMethod q.1 ∈ tables_1
theorem lw_p0 : lw_okq (⟨"CulpritSearch", "targetAt", "(I)LCulpritSearch$Target;"⟩, 3) := ⟨⟨by decide +kernel, by decide +kernel⟩, List.mem_of_getElem? (i := 8) (by decide +kernel), List.mem_of_getElem? (i := 139) (by decide +kernel), List.mem_of_getElem? (i := 140) (by decide +kernel)⟩
theorem lw_p1 : lw_okq (⟨"CulpritSearch", "searchAt", "(I)LCulpritSearch$Target;"⟩, 3) := ⟨⟨by decide +kernel, by decide +kernel⟩, List.mem_of_getElem? (i := 8) (by decide +kernel), List.mem_of_getElem? (i := 183) (by decide +kernel), List.mem_of_getElem? (i := 184) (by decide +kernel)⟩
theorem lw_p2 : lw_okq (⟨"CulpritSearch$Target", "mostEven", "()I"⟩, 11) := ⟨⟨by decide +kernel, by decide +kernel⟩, List.mem_of_getElem? (i := 92) (by decide +kernel), List.mem_of_getElem? (i := 208) (by decide +kernel), List.mem_of_getElem? (i := 209) (by decide +kernel)⟩
theorem lw_p3 : lw_okq (⟨"CulpritSearch$Target", "likelihood", "(IZ)J"⟩, 11) := ⟨⟨by decide +kernel, by decide +kernel⟩, List.mem_of_getElem? (i := 92) (by decide +kernel), List.mem_of_getElem? (i := 256) (by decide +kernel), List.mem_of_getElem? (i := 257) (by decide +kernel)⟩
theorem lw_p4 : lw_okq (⟨"CulpritSearch$Target", "rankOf", "(I)I"⟩, 11) := ⟨⟨by decide +kernel, by decide +kernel⟩, List.mem_of_getElem? (i := 92) (by decide +kernel), List.mem_of_getElem? (i := 291) (by decide +kernel), List.mem_of_getElem? (i := 292) (by decide +kernel)⟩
theorem lw_p5 : lw_okq (⟨"CulpritSearchModel", "isChange", "(I)Z"⟩, 16) := ⟨⟨by decide +kernel, by decide +kernel⟩, List.mem_of_getElem? (i := 317) (by decide +kernel), List.mem_of_getElem? (i := 378) (by decide +kernel), List.mem_of_getElem? (i := 379) (by decide +kernel)⟩
theorem lw_p6 : lw_okq (⟨"CulpritSearchModel", "comes", "(II)Z"⟩, 16) := ⟨⟨by decide +kernel, by decide +kernel⟩, List.mem_of_getElem? (i := 317) (by decide +kernel), List.mem_of_getElem? (i := 385) (by decide +kernel), List.mem_of_getElem? (i := 386) (by decide +kernel)⟩
theorem lw_p7 : lw_okq (⟨"CulpritSearchModel", "isTarget", "(I)Z"⟩, 16) := ⟨⟨by decide +kernel, by decide +kernel⟩, List.mem_of_getElem? (i := 317) (by decide +kernel), List.mem_of_getElem? (i := 401) (by decide +kernel), List.mem_of_getElem? (i := 402) (by decide +kernel)⟩
theorem lw_p8 : lw_okq (⟨"CulpritSearchModel", "isGood", "(II)Z"⟩, 16) := ⟨⟨by decide +kernel, by decide +kernel⟩, List.mem_of_getElem? (i := 317) (by decide +kernel), List.mem_of_getElem? (i := 409) (by decide +kernel), List.mem_of_getElem? (i := 410) (by decide +kernel)⟩
theorem lw_p9 : lw_okq (⟨"CulpritSearchModel", "isSearch", "(I)Z"⟩, 16) := ⟨⟨by decide +kernel, by decide +kernel⟩, List.mem_of_getElem? (i := 317) (by decide +kernel), List.mem_of_getElem? (i := 418) (by decide +kernel), List.mem_of_getElem? (i := 419) (by decide +kernel)⟩
theorem lw_p10 : lw_okq (⟨"CulpritSearchModel", "heavy", "(I)I"⟩, 16) := ⟨⟨by decide +kernel, by decide +kernel⟩, List.mem_of_getElem? (i := 317) (by decide +kernel), List.mem_of_getElem? (i := 439) (by decide +kernel), List.mem_of_getElem? (i := 440) (by decide +kernel)⟩
theorem lw_p11 : lw_okq (⟨"CulpritSearchModel", "even", "(I)I"⟩, 16) := ⟨⟨by decide +kernel, by decide +kernel⟩, List.mem_of_getElem? (i := 317) (by decide +kernel), List.mem_of_getElem? (i := 445) (by decide +kernel), List.mem_of_getElem? (i := 446) (by decide +kernel)⟩
def lw_privs_1 : List (MethodName × Nat) := [(⟨"CulpritSearch", "targetAt", "(I)LCulpritSearch$Target;"⟩, 3), (⟨"CulpritSearch", "searchAt", "(I)LCulpritSearch$Target;"⟩, 3), (⟨"CulpritSearch$Target", "mostEven", "()I"⟩, 11), (⟨"CulpritSearch$Target", "likelihood", "(IZ)J"⟩, 11), (⟨"CulpritSearch$Target", "rankOf", "(I)I"⟩, 11), (⟨"CulpritSearchModel", "isChange", "(I)Z"⟩, 16), (⟨"CulpritSearchModel", "comes", "(II)Z"⟩, 16), (⟨"CulpritSearchModel", "isTarget", "(I)Z"⟩, 16), (⟨"CulpritSearchModel", "isGood", "(II)Z"⟩, 16), (⟨"CulpritSearchModel", "isSearch", "(I)Z"⟩, 16), (⟨"CulpritSearchModel", "heavy", "(I)I"⟩, 16), (⟨"CulpritSearchModel", "even", "(I)I"⟩, 16)]
theorem lw_r1 : ∀ q ∈ lw_privs_1, lw_okq q := List.forall_mem_cons.mpr ⟨lw_p0, List.forall_mem_cons.mpr ⟨lw_p1, List.forall_mem_cons.mpr ⟨lw_p2, List.forall_mem_cons.mpr ⟨lw_p3, List.forall_mem_cons.mpr ⟨lw_p4, List.forall_mem_cons.mpr ⟨lw_p5, List.forall_mem_cons.mpr ⟨lw_p6, List.forall_mem_cons.mpr ⟨lw_p7, List.forall_mem_cons.mpr ⟨lw_p8, List.forall_mem_cons.mpr ⟨lw_p9, List.forall_mem_cons.mpr ⟨lw_p10, List.forall_mem_cons.mpr ⟨lw_p11, fun _ h => absurd h List.not_mem_nil⟩⟩⟩⟩⟩⟩⟩⟩⟩⟩⟩⟩
def lw_privs : List (MethodName × Nat) := lw_privs_1
def lw_tbl : List Cond := k2_sels lw_privs ++ tables_1
theorem lw_privs_ok : ∀ q ∈ lw_privs, lw_okq q := lw_r1
end
section
-- names: classes, fields in the order of the slots, methods
def R_x : String := "CulpritSearch"
def F_x : u_T := fun k => match k with
  | 0 => ("CulpritSearch", "graph", "LCulpritSearch$Graph;", true)
  | 1 => ("CulpritSearch", "targets", "[LCulpritSearch$Target;", true)
  | _ => ("CulpritSearch", "targetCount", "I", false)
def t_x : Nat → FieldType := fun k => match k with
  | 0 => (.object "CulpritSearch$Graph")
  | 1 => (.array (.object "CulpritSearch$Target"))
  | _ => .int
def R_g : String := "CulpritSearch$Graph"
def F_g : u_T := fun k => match k with
  | 0 => ("CulpritSearch$Graph", "parents", "[J", true)
  | 1 => ("CulpritSearch$Graph", "reaches", "[J", true)
  | 2 => ("CulpritSearch$Graph", "size", "I", false)
  | 3 => ("CulpritSearch$Graph", "built", "J", false)
  | _ => ("CulpritSearch$Graph", "skipped", "J", false)
def t_g : Nat → FieldType := fun k => match k with
  | 0 => (.array .long)
  | 1 => (.array .long)
  | 2 => .int
  | 3 => .long
  | _ => .long
def R_t : String := "CulpritSearch$Target"
def F_t : u_T := fun k => match k with
  | 0 => ("CulpritSearch$Target", "graph", "LCulpritSearch$Graph;", true)
  | 1 => ("CulpritSearch$Target", "weights", "[J", true)
  | 2 => ("CulpritSearch$Target", "goodOnes", "J", false)
  | 3 => ("CulpritSearch$Target", "cleared", "J", false)
  | 4 => ("CulpritSearch$Target", "searched", "Z", false)
  | 5 => ("CulpritSearch$Target", "bad", "I", false)
  | 6 => ("CulpritSearch$Target", "p", "I", false)
  | 7 => ("CulpritSearch$Target", "q", "I", false)
  | 8 => ("CulpritSearch$Target", "sure", "I", false)
  | 9 => ("CulpritSearch$Target", "answers", "I", false)
  | _ => ("CulpritSearch$Target", "skips", "I", false)
def t_t : Nat → FieldType := fun k => match k with
  | 0 => (.object "CulpritSearch$Graph")
  | 1 => (.array .long)
  | 2 => .long
  | 3 => .long
  | 4 => .boolean
  | 5 => .int
  | 6 => .int
  | 7 => .int
  | 8 => .int
  | 9 => .int
  | _ => .int
def R_m : String := "CulpritSearchModel"
def F_m : u_T := fun k => match k with
  | 0 => ("CulpritSearchModel", "changes", "I", false)
  | 1 => ("CulpritSearchModel", "parents", "[I", true)
  | 2 => ("CulpritSearchModel", "hasIt", "[Z", true)
  | 3 => ("CulpritSearchModel", "skipped", "[Z", true)
  | 4 => ("CulpritSearchModel", "built", "[Z", true)
  | 5 => ("CulpritSearchModel", "targets", "I", false)
  | 6 => ("CulpritSearchModel", "goodIn", "[Z", true)
  | 7 => ("CulpritSearchModel", "isOn", "[Z", true)
  | 8 => ("CulpritSearchModel", "badOne", "[I", true)
  | 9 => ("CulpritSearchModel", "up", "[I", true)
  | 10 => ("CulpritSearchModel", "down", "[I", true)
  | 11 => ("CulpritSearchModel", "sureness", "[I", true)
  | 12 => ("CulpritSearchModel", "skips", "[I", true)
  | 13 => ("CulpritSearchModel", "answers", "[I", true)
  | 14 => ("CulpritSearchModel", "askedIn", "[I", true)
  | _ => ("CulpritSearchModel", "failed", "[Z", true)
def t_m : Nat → FieldType := fun k => match k with
  | 0 => .int
  | 1 => (.array .int)
  | 2 => (.array .boolean)
  | 3 => (.array .boolean)
  | 4 => (.array .boolean)
  | 5 => .int
  | 6 => (.array .boolean)
  | 7 => (.array .boolean)
  | 8 => (.array .int)
  | 9 => (.array .int)
  | 10 => (.array .int)
  | 11 => (.array .int)
  | 12 => (.array .int)
  | 13 => (.array .int)
  | 14 => (.array .int)
  | _ => (.array .boolean)
abbrev classes : List vw_C := [(R_x, F_x, 3), (R_g, F_g, 5), (R_t, F_t, 11), (R_m, F_m, 16)]
abbrev tyz (cA : Nat → ClassId) : List (ClassId × FieldType) := [(cA 0, .long), (cA 1, .object "CulpritSearch$Target"), (cA 2, .int), (cA 3, .boolean)]
def overs : List String := ["CulpritSearch$Target"]
abbrev b_g_init : ByteArray := prog_2_method_1_code
def y_g_init : MethodName := ⟨"CulpritSearch$Graph", "<init>", "()V"⟩
abbrev b_t_init : ByteArray := prog_3_method_1_code
def y_t_init : MethodName := ⟨"CulpritSearch$Target", "<init>", "(LCulpritSearch$Graph;)V"⟩
abbrev b_x_init : ByteArray := prog_1_method_1_code
def y_x_init : MethodName := ⟨"CulpritSearch", "<init>", "()V"⟩
abbrev b_lo_bitCount : ByteArray := prog_6_method_50_code
def y_lo_bitCount : MethodName := ⟨"java/lang/Long", "bitCount", "(J)I"⟩
abbrev b_x_isNumber : ByteArray := prog_1_method_22_code
def y_x_isNumber : MethodName := ⟨"CulpritSearch", "isNumber", "(I)Z"⟩
abbrev b_x_only : ByteArray := prog_1_method_23_code
def y_x_only : MethodName := ⟨"CulpritSearch", "only", "(I)J"⟩
abbrev b_x_contains : ByteArray := prog_1_method_24_code
def y_x_contains : MethodName := ⟨"CulpritSearch", "contains", "(JI)Z"⟩
abbrev b_x_isFlake : ByteArray := prog_1_method_20_code
def y_x_isFlake : MethodName := ⟨"CulpritSearch", "isFlake", "(II)Z"⟩
abbrev b_x_isSure : ByteArray := prog_1_method_21_code
def y_x_isSure : MethodName := ⟨"CulpritSearch", "isSure", "(I)Z"⟩
abbrev b_g_holds : ByteArray := prog_2_method_2_code
def y_g_holds : MethodName := ⟨"CulpritSearch$Graph", "holds", "(I)Z"⟩
abbrev b_g_mayBeParent : ByteArray := prog_2_method_3_code
def y_g_mayBeParent : MethodName := ⟨"CulpritSearch$Graph", "mayBeParent", "(I)Z"⟩
abbrev b_g_reach : ByteArray := prog_2_method_5_code
def y_g_reach : MethodName := ⟨"CulpritSearch$Graph", "reach", "(I)J"⟩
abbrev b_g_isBuilt : ByteArray := prog_2_method_9_code
def y_g_isBuilt : MethodName := ⟨"CulpritSearch$Graph", "isBuilt", "(I)Z"⟩
abbrev b_g_isSkipped : ByteArray := prog_2_method_10_code
def y_g_isSkipped : MethodName := ⟨"CulpritSearch$Graph", "isSkipped", "(I)Z"⟩
abbrev b_g_builtCount : ByteArray := prog_2_method_11_code
def y_g_builtCount : MethodName := ⟨"CulpritSearch$Graph", "builtCount", "()I"⟩
abbrev b_g_stepToward : ByteArray := prog_2_method_6_code
def y_g_stepToward : MethodName := ⟨"CulpritSearch$Graph", "stepToward", "(II)I"⟩
abbrev b_g_markBuilt : ByteArray := prog_2_method_7_code
def y_g_markBuilt : MethodName := ⟨"CulpritSearch$Graph", "markBuilt", "(I)V"⟩
abbrev b_g_markSkipped : ByteArray := prog_2_method_8_code
def y_g_markSkipped : MethodName := ⟨"CulpritSearch$Graph", "markSkipped", "(I)V"⟩
abbrev b_g_add : ByteArray := prog_2_method_4_code
def y_g_add : MethodName := ⟨"CulpritSearch$Graph", "add", "(J)I"⟩
abbrev b_t_isSearched : ByteArray := prog_3_method_2_code
def y_t_isSearched : MethodName := ⟨"CulpritSearch$Target", "isSearched", "()Z"⟩
abbrev b_t_isCleared : ByteArray := prog_3_method_3_code
def y_t_isCleared : MethodName := ⟨"CulpritSearch$Target", "isCleared", "(I)Z"⟩
abbrev b_t_weightOf : ByteArray := prog_3_method_7_code
def y_t_weightOf : MethodName := ⟨"CulpritSearch$Target", "weightOf", "(I)J"⟩
abbrev b_t_weightWithin : ByteArray := prog_3_method_8_code
def y_t_weightWithin : MethodName := ⟨"CulpritSearch$Target", "weightWithin", "(J)J"⟩
abbrev b_t_weightOfAll : ByteArray := prog_3_method_9_code
def y_t_weightOfAll : MethodName := ⟨"CulpritSearch$Target", "weightOfAll", "()J"⟩
abbrev b_t_culprit : ByteArray := prog_3_method_10_code
def y_t_culprit : MethodName := ⟨"CulpritSearch$Target", "culprit", "()I"⟩
abbrev b_t_mostEven : ByteArray := prog_3_method_13_code
def y_t_mostEven : MethodName := ⟨"CulpritSearch$Target", "mostEven", "()I"⟩
abbrev b_t_standing : ByteArray := prog_3_method_11_code
def y_t_standing : MethodName := ⟨"CulpritSearch$Target", "standing", "()I"⟩
abbrev b_t_asked : ByteArray := prog_3_method_12_code
def y_t_asked : MethodName := ⟨"CulpritSearch$Target", "asked", "()I"⟩
abbrev b_t_likelihood : ByteArray := prog_3_method_16_code
def y_t_likelihood : MethodName := ⟨"CulpritSearch$Target", "likelihood", "(IZ)J"⟩
abbrev b_t_rankOf : ByteArray := prog_3_method_18_code
def y_t_rankOf : MethodName := ⟨"CulpritSearch$Target", "rankOf", "(I)I"⟩
abbrev b_t_ranked : ByteArray := prog_3_method_17_code
def y_t_ranked : MethodName := ⟨"CulpritSearch$Target", "ranked", "(I)I"⟩
abbrev b_t_onWay : ByteArray := prog_3_method_19_code
def y_t_onWay : MethodName := ⟨"CulpritSearch$Target", "onWay", "(I)I"⟩
abbrev b_t_markGood : ByteArray := prog_3_method_4_code
def y_t_markGood : MethodName := ⟨"CulpritSearch$Target", "markGood", "(I)Z"⟩
abbrev b_t_giveUp : ByteArray := prog_3_method_6_code
def y_t_giveUp : MethodName := ⟨"CulpritSearch$Target", "giveUp", "()V"⟩
abbrev b_t_skip : ByteArray := prog_3_method_14_code
def y_t_skip : MethodName := ⟨"CulpritSearch$Target", "skip", "(I)V"⟩
abbrev b_t_start : ByteArray := prog_3_method_5_code
def y_t_start : MethodName := ⟨"CulpritSearch$Target", "start", "(IIII)I"⟩
abbrev b_t_learn : ByteArray := prog_3_method_15_code
def y_t_learn : MethodName := ⟨"CulpritSearch$Target", "learn", "(II)V"⟩
abbrev b_x_targetAt : ByteArray := prog_1_method_18_code
def y_x_targetAt : MethodName := ⟨"CulpritSearch", "targetAt", "(I)LCulpritSearch$Target;"⟩
abbrev b_x_searchAt : ByteArray := prog_1_method_19_code
def y_x_searchAt : MethodName := ⟨"CulpritSearch", "searchAt", "(I)LCulpritSearch$Target;"⟩
abbrev b_x_has : ByteArray := prog_1_method_3_code
def y_x_has : MethodName := ⟨"CulpritSearch", "has", "(II)Z"⟩
abbrev b_x_state : ByteArray := prog_1_method_8_code
def y_x_state : MethodName := ⟨"CulpritSearch", "state", "(I)I"⟩
abbrev b_x_next : ByteArray := prog_1_method_9_code
def y_x_next : MethodName := ⟨"CulpritSearch", "next", "(I)I"⟩
abbrev b_x_weight : ByteArray := prog_1_method_11_code
def y_x_weight : MethodName := ⟨"CulpritSearch", "weight", "(II)J"⟩
abbrev b_x_part : ByteArray := prog_1_method_12_code
def y_x_part : MethodName := ⟨"CulpritSearch", "part", "(II)J"⟩
abbrev b_x_total : ByteArray := prog_1_method_13_code
def y_x_total : MethodName := ⟨"CulpritSearch", "total", "(I)J"⟩
abbrev b_x_found : ByteArray := prog_1_method_14_code
def y_x_found : MethodName := ⟨"CulpritSearch", "found", "(I)I"⟩
abbrev b_x_told : ByteArray := prog_1_method_15_code
def y_x_told : MethodName := ⟨"CulpritSearch", "told", "(II)I"⟩
abbrev b_x_way : ByteArray := prog_1_method_16_code
def y_x_way : MethodName := ⟨"CulpritSearch", "way", "(II)I"⟩
abbrev b_x_counted : ByteArray := prog_1_method_17_code
def y_x_counted : MethodName := ⟨"CulpritSearch", "counted", "(II)I"⟩
abbrev b_x_change : ByteArray := prog_1_method_2_code
def y_x_change : MethodName := ⟨"CulpritSearch", "change", "(III)I"⟩
abbrev b_x_good : ByteArray := prog_1_method_5_code
def y_x_good : MethodName := ⟨"CulpritSearch", "good", "(II)I"⟩
abbrev b_x_begin : ByteArray := prog_1_method_6_code
def y_x_begin : MethodName := ⟨"CulpritSearch", "begin", "(IIIII)I"⟩
abbrev b_x_stop : ByteArray := prog_1_method_7_code
def y_x_stop : MethodName := ⟨"CulpritSearch", "stop", "(I)Z"⟩
abbrev b_x_answer : ByteArray := prog_1_method_10_code
def y_x_answer : MethodName := ⟨"CulpritSearch", "answer", "(II)I"⟩
abbrev b_x_target : ByteArray := prog_1_method_4_code
def y_x_target : MethodName := ⟨"CulpritSearch", "target", "()I"⟩
end
section
/-! THE LAYER: one list of words for every method (tb), one bundle of what the tables say (KK), contracts of methods that change nothing (Pro, Qro) and of methods that do (Qmu), the rows for their entries, calls and ends. -/
def gB (w : Cond) : Bool := (w.onTables && w.keeps) || (match w with | .arrayClass _ => true | _ => false)
theorem gB_ok {w : Cond} (h : gB w = true) : (w.onTables && w.keeps) = true ∨ ∃ ty, w = .arrayClass ty := by
  unfold gB at h
  rw [Bool.or_eq_true] at h
  rcases h with h | h
  · exact Or.inl h
  · right
    split at h
    · exact ⟨_, rfl⟩
    · cases h
def tb : List Cond := lw_tbl.filter gB
def nB (w : Cond) : Bool := match w with
  | .fieldLinkNest .. => true
  | .methodLinkNest .. => true
  | _ => false
def nests : List Cond := lw_tbl.filter nB
theorem tb_mem {w : Cond} (i : Nat) (h : lw_tbl[i]? = some w) (hg : gB w = true) : w ∈ tb := List.mem_filter.mpr ⟨List.mem_of_getElem? h, hg⟩
theorem ne_mem {w : Cond} (i : Nat) (h : lw_tbl[i]? = some w) (hg : nB w = true) : w ∈ nests := List.mem_filter.mpr ⟨List.mem_of_getElem? h, hg⟩
theorem tb_good {a z : Cond} (hz : z ∈ tb) : GoodIn (a :: tb) (z :: tb) := by
  intro w hw
  have hw' : w ∈ tb := by
    rcases List.mem_cons.mp hw with h | h
    · rw [h]; exact hz
    · exact h
  exact ⟨List.mem_cons_of_mem _ hw', gB_ok (List.mem_filter.mp hw').2⟩
theorem tb_goodT {z : Cond} (hz : z ∈ tb) : GoodIn tb (z :: tb) := by
  intro w hw
  have hw' : w ∈ tb := by
    rcases List.mem_cons.mp hw with h | h
    · rw [h]; exact hz
    · exact h
  exact ⟨hw', gB_ok (List.mem_filter.mp hw').2⟩
theorem nw_warm {w : Cond} (hn : nB w = true) {s U : State} (hW : s.WarmedH U.vm) (h : va_Nw w s) : va_Nw w U := by
  unfold nB at hn
  split at hn
  · exact va_Nw.warmF hW h
  · exact va_Nw.warmM hW h
  · cases hn
theorem nw_same {w : Cond} (hn : nB w = true) {u U : State} (h : u.vm = U.vm) (hZ : va_Nw w u) : va_Nw w U := by
  unfold nB at hn
  split at hn
  · exact va_Nw.same rfl h hZ
  · exact va_Nw.same rfl h hZ
  · cases hn
/-- what the tables say, for good: the classes, the array classes cA (by their place in tyz), the links of nest mates -/
def KK (D : va_G) (cA : Nat → ClassId) (U : State) : Prop := va_K D classes (tyz cA) U ∧ (∀ w ∈ nests, va_Nw w U) ∧ (∀ C ∈ overs, va_AO C U)
theorem KK.warm {D : va_G} {cA : Nat → ClassId} {s U : State} (hW : s.WarmedH U.vm) (h : KK D cA s) : KK D cA U :=
  ⟨va_K.moved hW.alike h.1, fun w hw => nw_warm (List.mem_filter.mp hw).2 hW (h.2.1 w hw), fun C hC => va_AO.moved hW.alike (h.2.2 C hC)⟩
theorem KK.calling {D : va_G} {cA : Nat → ClassId} {U : State} {g : JFrame} {mk : MethodId} {a : Array Value} (h : KK D cA U) : KK D cA (U.calling g mk a) :=
  ⟨va_K.moved (u := U) (U := U.calling g mk a) (Vm.Alike.refl U.vm) h.1, fun w hw => nw_same (List.mem_filter.mp hw).2 (u := U) (U := U.calling g mk a) rfl (h.2.1 w hw), fun C hC => va_AO.moved (u := U) (U := U.calling g mk a) (Vm.Alike.refl U.vm) (h.2.2 C hC)⟩
def nof : Addr → Prop := fun _ => False
def Pro (D : va_G) (cA : Nat → ClassId) (As : List Value) (B : Heap → Prop) : Array Value → State → Prop := va_Pc As (fun U => KK D cA U ∧ B U.heap)
theorem Pro.blind {D : va_G} {cA : Nat → ClassId} {As : List Value} {B : Heap → Prop} : FrameBlind (Pro D cA As B) := fun _ _ _ _ q => ⟨q.1, q.2.1.calling, q.2.2⟩
/-- it answers v, and the heap stays -/
def Qro (v : Value) : Array Value → State → Outcome → State → Prop := fun _ st o t => o = .returned (some v) ∧ t.heap = st.heap
/-- it answers, and 'P answer heap'; nothing but A has changed -/
def Qmu (A : Nat → Prop) (P : Option Value → Heap → Prop) : Array Value → State → Outcome → State → Prop := fun _ st o t => (∃ v, o = .returned v ∧ P v t.heap) ∧ va_F A st t
def rmd (d : Nat) : Room := { frames := d, cells := 0, slots := 0, locals := 40 * d }
def FX (p : Program) (s : State) (m : MethodId) (meth : Method) (c : Code) (args : Array Value) (y : MethodName) (b : ByteArray) (n : Nat) (ret : Option FieldType) : Prop :=
  p.tables.exec = Jvm.exec ∧ c.code = b ∧ c.maxLocals = n ∧ s.vm.findClass y.cls = some m.cls ∧ (∀ w ∈ tb, w.before args s = true) ∧ meth.sig.returnType = ret ∧ meth.locks = false
def bz (b : Bool) : Int32 := if b = true then 1 else 0
theorem bz_t {b : Bool} (h : ¬ bz b = 0) : b = true := by
  cases b
  · exact absurd rfl h
  · rfl
theorem bz_f {b : Bool} (h : bz b = 0) : ¬ b = true := by
  intro q
  rw [q] at h
  exact absurd h (by decide)
theorem bz_1 {b : Bool} (h : b = true) : bz b = 1 := by rw [h]; rfl
theorem bz_0 {b : Bool} (h : ¬ b = true) : bz b = 0 := by
  cases b
  · rfl
  · exact absurd rfl h
theorem bz_n (b : Bool) : narrow .boolean (.int (bz b)) = .int (bz b) := by cases b <;> rfl
theorem bz_ft (b : Bool) : fits .boolean (.int (bz b)) = true := by cases b <;> rfl
theorem bz_inj {a b : Bool} (h : bz a = bz b) : a = b := by
  cases a <;> cases b <;> first | rfl | exact absurd h (by decide)
theorem cp_le {x y : Int64} (h : lg_cmp x y ≤ 0) : ¬ y < x := by
  intro q
  have e : lg_cmp x y = 1 := by simp [lg_cmp, q]
  rw [e] at h
  exact absurd h (by decide)
theorem cp_nle {x y : Int64} (h : ¬ lg_cmp x y ≤ 0) : y < x := by
  apply Classical.byContradiction
  intro q
  apply h
  by_cases h2 : x = y
  · have e : lg_cmp x y = 0 := by simp [lg_cmp, q, h2]
    rw [e]; decide
  · have e : lg_cmp x y = -1 := by simp [lg_cmp, q, h2]
    rw [e]; decide
theorem cp_gt {x y : Int64} (h : 0 < lg_cmp x y) : y < x := by
  apply Classical.byContradiction
  intro q
  by_cases h2 : x = y
  · have e : lg_cmp x y = 0 := by simp [lg_cmp, q, h2]
    rw [e] at h; exact absurd h (by decide)
  · have e : lg_cmp x y = -1 := by simp [lg_cmp, q, h2]
    rw [e] at h; exact absurd h (by decide)
theorem cp_ngt {x y : Int64} (h : ¬ 0 < lg_cmp x y) : ¬ y < x := by
  intro q
  apply h
  have e : lg_cmp x y = 1 := by simp [lg_cmp, q]
  rw [e]; decide
theorem cp_eq {x y : Int64} (h : lg_cmp x y = 0) : x = y := by
  apply Classical.byContradiction
  intro h2
  by_cases q : y < x
  · have e : lg_cmp x y = 1 := by simp [lg_cmp, q]
    rw [e] at h; exact absurd h (by decide)
  · have e : lg_cmp x y = -1 := by simp [lg_cmp, q, h2]
    rw [e] at h; exact absurd h (by decide)
theorem cp_ne {x y : Int64} (h : ¬ lg_cmp x y = 0) : ¬ x = y := by
  intro q
  apply h
  subst q
  simp [lg_cmp]
theorem cp_lt {x y : Int64} (h : lg_cmp x y < 0) : x < y := by
  apply Classical.byContradiction
  intro h2
  by_cases q : y < x
  · have e : lg_cmp x y = 1 := by simp [lg_cmp, q]
    rw [e] at h; exact absurd h (by decide)
  · have e2 : x = y := Int64.le_antisymm (Int64.not_lt.mp q) (Int64.not_lt.mp h2)
    have e : lg_cmp x y = 0 := by simp [lg_cmp, e2]
    rw [e] at h; exact absurd h (by decide)
theorem cp_nlt {x y : Int64} (h : ¬ lg_cmp x y < 0) : ¬ x < y := by
  intro q
  apply h
  have q1 : ¬ y < x := Int64.not_lt.mpr (Int64.le_of_lt q)
  have q2 : ¬ x = y := fun z => by rw [z] at q; exact absurd q Int64.lt_irrefl
  have e : lg_cmp x y = -1 := by simp [lg_cmp, q1, q2]
  rw [e]; decide
theorem cp_ge {x y : Int64} (h : 0 ≤ lg_cmp x y) : ¬ x < y := cp_nlt (Int32.not_lt.mpr h)
theorem cp_nge {x y : Int64} (h : ¬ 0 ≤ lg_cmp x y) : x < y := cp_lt (Int32.not_le.mp h)
section LAY
variable {p : Program} {l : Launch} {e : Env} {R : Room} {s : State} {m : MethodId} {args : Array Value} {below : List Frame} {meth : Method} {c : Code} {H : Heap} {locs : List Loc} {cells slots : Nat} {Q : State → Prop} {D : va_G} {cA : Nat → ClassId}
variable {y : MethodName} {b : ByteArray} {n : Nat} {ret : Option FieldType} {pc : Nat} {ls : Array Slot} {rest st : List Value}
theorem ro_in {rm : Room} {As : List Value} {B : Heap → Prop} {Qc : Array Value → State → Outcome → State → Prop} {mc ms : Nat} {free : Addr → Prop} (hy : plainName y.cls = true) (hn : (lg_sl As).length ≤ n)
    (body : ∀ (p : Program) (e : Env) (s : State) (m : MethodId) (below : List Frame) (meth : Method) (c : Code) (ls : Array Slot), FX p s m meth c As.toArray y b n ret → meth.name = y.name → KK D cA s → B s.heap → lv_has ls n (lv_args 0 As) → W p l e rm s m As.toArray below meth c s.heap [] 0 0 (MQ below Qc As.toArray s mc ms free) (F0 m 0 ls [])) :
    Met l y (.code y b n ret :: tb) rm (Pro D cA As B) Qc mc ms free := by
  refine Met.ofW (cc := b) (maxL := n) (ret := ret) hy rfl ?_
  intro p e s m args below meth c s₁ Bd hml hv
  obtain ⟨rfl, hK, hB⟩ := hv
  have hts := atoms_spec (ws := .code y b n ret :: tb) Bd.pre
  have hl := lv_entry As (n := n) hn
  rw [lg_entry_eq]
  exact body p e s m below meth c _ ⟨Bd.exec, Bd.bytes, hml, findClass_of_methodNamed Bd.named, fun w hw => hts w (List.mem_cons_of_mem _ hw), Bd.returns, Bd.notSynchronized⟩ (name_of_methodNamed Bd.named Bd.method).1 hK hB hl
theorem ro_iret {v v' : Int32} (F : FX p s m meth c args y b n (some .int)) (hv : v = v') (hdg : decode b pc = .ok (.ireturn, 1)) : W p l e R s m args below meth c s.heap [] 0 0 (MQ below (Qro (.int v')) args s 0 0 nof) (F0 m pc ls [.int v]) := by
  subst hv
  exact W.iret F.1 F.2.1 F.2.2.2.2.2.1 (fun t ht _ => ⟨rfl, ht⟩) (fun q h => by cases h) hdg F.2.2.2.2.2.2
theorem ro_zret {v : Int32} {v' : Bool} (F : FX p s m meth c args y b n (some .boolean)) (hv : v = bz v') (hdg : decode b pc = .ok (.ireturn, 1)) : W p l e R s m args below meth c s.heap [] 0 0 (MQ below (Qro (.int (bz v'))) args s 0 0 nof) (F0 m pc ls [.int v]) := by
  subst hv
  exact W.zret F.1 F.2.1 F.2.2.2.2.2.1 (bz_n v') (fun t ht _ => ⟨rfl, ht⟩) (fun q h => by cases h) hdg F.2.2.2.2.2.2
theorem ro_lret {v v' : Int64} (F : FX p s m meth c args y b n (some .long)) (hv : v = v') (hdg : decode b pc = .ok (.lreturn, 1)) : W p l e R s m args below meth c s.heap [] 0 0 (MQ below (Qro (.long v')) args s 0 0 nof) (F0 m pc ls [.long v]) := by
  subst hv
  exact W.lret F.1 F.2.1 F.2.2.2.2.2.1 (fun t ht _ => ⟨rfl, ht⟩) (fun q h => by cases h) hdg F.2.2.2.2.2.2
theorem ro_aret {v : Value} {v' : Option Nat} {C : String} (F : FX p s m meth c args y b n (some (.object C))) (hv : v = va_rf v') (hdg : decode b pc = .ok (.areturn, 1)) : W p l e R s m args below meth c s.heap [] 0 0 (MQ below (Qro (va_rf v')) args s 0 0 nof) (F0 m pc ls [v]) := by
  subst hv
  exact W.aret F.1 F.2.1 F.2.2.2.2.2.1 (Or.inl ⟨_, rfl⟩) (va_rf_or v') (fun t ht _ => ⟨rfl, ht⟩) (fun q h => by cases h) hdg F.2.2.2.2.2.2
/-- the call of a method that changes nothing goes on with its answer -/
theorem ro_call {v : Value} {a : Array Value} {g : JFrame} (hr : CallRun p l e R s m args below meth c H locs cells slots 0 0 g rest (Qro v a) nof) (kk : W p l e R s m args below meth c H locs cells slots Q { g with pc := g.pc + 3, stack := v :: rest }) : W p l e R s m args below meth c H locs cells slots Q g := by
  intro T hT X
  obtain ⟨v', st₀, t, T', L, h0, X', hL, e1, ⟨hv, hh⟩, st⟩ := hr T hT X
  cases hv
  obtain ⟨t2, a1, b1⟩ := kk T' (by rw [e1, hh, h0]) (Stand.forget X' (fun q h => (hL q h).elim))
  exact ⟨t2, st t2 a1, b1⟩
variable {y' : MethodName} {b' : ByteArray} {n' d idx kn : Nat} {ret' : Option FieldType} {As : List Value} {B : Heap → Prop} {v : Value} {host : String}
abbrev okd (y' : MethodName) (k : Nat) : Prop := y'.cls ≠ "java/lang/invoke/MethodHandle" ∧ y'.cls ≠ "java/lang/invoke/VarHandle" ∧ (parseMethodDescriptor y'.desc).map (fun d => d.parameters.length) = some k
theorem ro_cB (F : FX p s m meth c args y b n ret) (hc : Cond.code y' b' n' ret' ∈ tb) (hl : Cond.methodLink y.cls idx y' ∈ tb) (hi : Cond.initialized y'.cls ∈ tb) (hkn : As.length = kn) (hd : okd y' kn) (hR : d + 1 ≤ R.frames ∧ 8 + (n' + 11) + 40 * d ≤ R.locals) : CallB R s args y.cls idx y' b' n' ret' (.code y' b' n' ret' :: tb) (rmd d) 0 0 kn :=
  callB_of kn F.2.2.2.2.1 (tb_goodT hc) rfl rfl rfl (F.2.2.2.2.1 _ hi) (F.2.2.2.2.1 _ hl) hd hR
theorem ro_cN (F : FX p s m meth c args y b n ret) (hK : KK D cA s) (hc : Cond.code y' b' n' ret' ∈ tb) (hl : Cond.methodLinkNest y.cls idx y' host ∈ nests) (hi : Cond.initialized y'.cls ∈ tb) (hkn : As.length = kn) (hd : okd y' kn) (hR : d + 1 ≤ R.frames ∧ 8 + (n' + 11) + 40 * d ≤ R.locals) : va_CN R s args y.cls idx y' host b' n' ret' (.code y' b' n' ret' :: tb) (rmd d) 0 0 kn :=
  va_cnB kn F.2.2.2.2.1 (tb_goodT hc) rfl rfl rfl (hK.2.1 _ hl) (F.2.2.2.2.1 _ hi) hd hR
/-- a static method of the own class -/
theorem ro_S (F : FX p s m meth c args y b n ret) (hK : KK D cA s) (hM : Met l y' (.code y' b' n' ret' :: tb) (rmd d) (Pro D cA As B) (Qro v) 0 0 nof) (hB : B H) (hc : Cond.code y' b' n' ret' ∈ tb) (hl : Cond.methodLink y.cls idx y' ∈ tb) (hi : Cond.initialized y'.cls ∈ tb) (hs : Cond.static y' ∈ tb) (hkn : As.length = kn) (hd : okd y' kn) (hR : d + 1 ≤ R.frames ∧ 8 + (n' + 11) + 40 * d ≤ R.locals) (hf : cells ≤ R.cells ∧ slots ≤ R.slots) (hsz : ls.size = n) (hst : st = As.reverse ++ rest) (hW : (rest.map fun v => v.category).sum ≤ 8) (hdg : decode b pc = .ok (.invokestatic idx, 3))
    (kk : W p l e R s m args below meth c H locs cells slots Q (F0 m (pc + 3) ls (v :: rest))) : W p l e R s m args below meth c H locs cells slots Q (F0 m pc ls st) :=
  ro_call (va_runS (As := As) (rest := rest) ⟨F.1, F.2.1, F.2.2.1, F.2.2.2.1, F.2.2.2.2.1⟩ hM ⟨ro_cB F hc hl hi hkn hd hR, F.2.2.2.2.1 _ hs⟩ ⟨Pro.blind, fun U hU hW => ⟨rfl, hK.warm hW, by rw [hU]; exact hB⟩⟩ rfl hkn hsz hst (lv_room hW) hdg hf).run kk
/-- a private static method of a nest mate -/
theorem ro_SN (F : FX p s m meth c args y b n ret) (hK : KK D cA s) (hM : Met l y' (.code y' b' n' ret' :: tb) (rmd d) (Pro D cA As B) (Qro v) 0 0 nof) (hB : B H) (hc : Cond.code y' b' n' ret' ∈ tb) (hl : Cond.methodLinkNest y.cls idx y' host ∈ nests) (hi : Cond.initialized y'.cls ∈ tb) (hs : Cond.static y' ∈ tb) (hkn : As.length = kn) (hd : okd y' kn) (hR : d + 1 ≤ R.frames ∧ 8 + (n' + 11) + 40 * d ≤ R.locals) (hf : cells ≤ R.cells ∧ slots ≤ R.slots) (hsz : ls.size = n) (hst : st = As.reverse ++ rest) (hW : (rest.map fun v => v.category).sum ≤ 8) (hdg : decode b pc = .ok (.invokestatic idx, 3))
    (kk : W p l e R s m args below meth c H locs cells slots Q (F0 m (pc + 3) ls (v :: rest))) : W p l e R s m args below meth c H locs cells slots Q (F0 m pc ls st) :=
  ro_call (va_runSN (As := As) (rest := rest) ⟨F.1, F.2.1, F.2.2.1, F.2.2.2.1, F.2.2.2.2.1⟩ hM ⟨ro_cN F hK hc hl hi hkn hd hR, F.2.2.2.2.1 _ hs, trivial⟩ ⟨Pro.blind, fun U hU hW => ⟨rfl, hK.warm hW, by rw [hU]; exact hB⟩⟩ rfl hkn hsz hst (lv_room hW) hdg hf).run kk
variable {a : Nat} {ci q0 : Nat} {q : vw_C} {fs : List Value} {ws : va_W}
/-- a method of an object whose class is known -/
theorem ro_V (F : FX p s m meth c args y b n ret) (hK : KK D cA s) (hM : Met l y' (.code y' b' n' ret' :: tb) (rmd d) (Pro D cA (.ref a :: As) B) (Qro v) 0 0 nof) (hB : B H) (hP : va_P D classes ws H) (he : ws[q0]? = some (a, .inr (ci, fs))) (hcl : classes[ci]? = some q) (hcq : q.1 = y'.cls) (hc : Cond.code y' b' n' ret' ∈ tb) (hl : Cond.methodLink y.cls idx y' ∈ tb) (hi : Cond.initialized y'.cls ∈ tb) (hs : Cond.instanceMethod y' ∈ tb) (hse : Cond.selects y'.cls y' y' ∈ tb) (hkn : As.length = kn) (hd : okd y' kn) (hR : d + 1 ≤ R.frames ∧ 8 + (n' + 11) + 40 * d ≤ R.locals) (hf : cells ≤ R.cells ∧ slots ≤ R.slots) (hsz : ls.size = n) (hst : st = As.reverse ++ .ref a :: rest) (hW : (rest.map fun v => v.category).sum ≤ 8) (hdg : decode b pc = .ok (.invokevirtual idx, 3))
    (kk : W p l e R s m args below meth c H locs cells slots Q (F0 m (pc + 3) ls (v :: rest))) : W p l e R s m args below meth c H locs cells slots Q (F0 m pc ls st) :=
  ro_call (va_runV (As := As) (rest := rest) (C := y'.cls) ⟨F.1, F.2.1, F.2.2.1, F.2.2.2.1, F.2.2.2.2.1⟩ hM ⟨ro_cB F hc hl hi hkn hd hR, F.2.2.2.2.1 _ hs, F.2.2.2.2.1 _ hse⟩ ⟨Pro.blind, by rw [← hcq]; exact va_recv hK.1 hP hcl he, fun U hU hW => ⟨rfl, hK.warm hW, by rw [hU]; exact hB⟩⟩ rfl hkn hsz hst (lv_room hW) hdg hf).run kk
/-- a private method of an object, or one of a nest mate's -/
theorem ro_VN (F : FX p s m meth c args y b n ret) (hK : KK D cA s) (hM : Met l y' (.code y' b' n' ret' :: tb) (rmd d) (Pro D cA (.ref a :: As) B) (Qro v) 0 0 nof) (hB : B H) (hP : va_P D classes ws H) (he : ws[q0]? = some (a, .inr (ci, fs))) (hcl : classes[ci]? = some q) (hcq : q.1 = y'.cls) (hc : Cond.code y' b' n' ret' ∈ tb) (hl : Cond.methodLinkNest y.cls idx y' host ∈ nests) (hi : Cond.initialized y'.cls ∈ tb) (hs : Cond.instanceMethod y' ∈ tb) (hse : Cond.selects y'.cls y' y' ∈ tb) (hkn : As.length = kn) (hd : okd y' kn) (hR : d + 1 ≤ R.frames ∧ 8 + (n' + 11) + 40 * d ≤ R.locals) (hf : cells ≤ R.cells ∧ slots ≤ R.slots) (hsz : ls.size = n) (hst : st = As.reverse ++ .ref a :: rest) (hW : (rest.map fun v => v.category).sum ≤ 8) (hdg : decode b pc = .ok (.invokevirtual idx, 3))
    (kk : W p l e R s m args below meth c H locs cells slots Q (F0 m (pc + 3) ls (v :: rest))) : W p l e R s m args below meth c H locs cells slots Q (F0 m pc ls st) :=
  ro_call (va_runVN (As := As) (rest := rest) (C := y'.cls) ⟨F.1, F.2.1, F.2.2.1, F.2.2.2.1, F.2.2.2.2.1⟩ hM ⟨ro_cN F hK hc hl hi hkn hd hR, F.2.2.2.2.1 _ hs, F.2.2.2.2.1 _ hse⟩ ⟨Pro.blind, by rw [← hcq]; exact va_recv hK.1 hP hcl he, fun U hU hW => ⟨rfl, hK.warm hW, by rw [hU]; exact hB⟩⟩ rfl hkn hsz hst (lv_room hW) hdg hf).run kk
variable {C : String} {T : u_T} {N : Nat}
theorem ro_get (F : FX p s m meth c args y b n ret) (hK : KK D cA s) (hP : va_P D classes ws H) (q0 k : Nat) (he : ws[q0]? = some (a, .inr (ci, fs))) (hcl : classes[ci]? = some (C, T, N)) (hv : fs[k]? = some v) (hin : ∀ w ∈ u_ws C T N, w ∈ tb) (hk : k < N) (hl : Cond.fieldLink y.cls idx (T k).1 (T k).2.1 (T k).2.2.1 ∈ tb) (hdg : decode b pc = .ok (.getfield idx, 3))
    (kk : W p l e R s m args below meth c H locs cells slots Q (F0 m (pc + 3) ls (v :: rest))) : W p l e R s m args below meth c H locs cells slots Q (F0 m pc ls (.ref a :: rest)) :=
  va_get F.1 F.2.1 F.2.2.2.2.1 hin F.2.2.2.1 hK.1 hP q0 he hcl k hk (F.2.2.2.2.1 _ hl) (fun _ h => h) hv hdg kk
theorem ro_getN (F : FX p s m meth c args y b n ret) (hK : KK D cA s) (hP : va_P D classes ws H) (q0 k : Nat) (he : ws[q0]? = some (a, .inr (ci, fs))) (hcl : classes[ci]? = some (C, T, N)) (hv : fs[k]? = some v) (hin : ∀ w ∈ u_ws C T N, w ∈ tb) (hk : k < N) (hl : Cond.fieldLinkNest y.cls idx (T k).1 (T k).2.1 (T k).2.2.1 host ∈ nests) (hdg : decode b pc = .ok (.getfield idx, 3))
    (kk : W p l e R s m args below meth c H locs cells slots Q (F0 m (pc + 3) ls (v :: rest))) : W p l e R s m args below meth c H locs cells slots Q (F0 m pc ls (.ref a :: rest)) :=
  va_getN F.1 F.2.1 F.2.2.2.2.1 hin F.2.2.2.1 hK.1 hP q0 he hcl k hk (va_Nw.use rfl (hK.2.1 _ hl)) (fun _ h => h) hv hdg kk
end LAY
/-- the cells of a world -/
def aw (ws : va_W) : Nat → Prop := fun q => ∃ (k : Nat) (e : va_E), ws[k]? = some (q, e)
theorem aw_self {ws : va_W} {A : Nat → Prop} (h : va_D A ws) : va_D (aw ws) ws := ⟨h.1, fun k q hk => ⟨k, q.2, hk⟩⟩
theorem aw_in {A : Nat → Prop} {ws wc : va_W} (hD : va_D A ws) (is : List Nat) (hC : is.map (fun i => ws[i]?) = wc.map some) : ∀ q, aw wc q → A q := by
  intro q h
  obtain ⟨k, e, h⟩ := h
  have h1 : (is.map (fun i => ws[i]?))[k]? = some (some (q, e)) := by rw [hC, List.getElem?_map, h]; rfl
  rw [List.getElem?_map] at h1
  cases hi : is[k]? with
  | none => rw [hi] at h1; cases h1
  | some i => rw [hi] at h1; exact hD.2 i (q, e) (Option.some.inj h1)
/-- behind a call that changed the cells wc to w1: they beside the rest, which is as it was -/
theorem mu_join {A0 : Nat → Prop} {D : va_G} {cl : List vw_C} {ws wc wr w1 : va_W} {H H1 : Heap} (hP : va_P D cl ws H) (hD : va_D A0 ws) (isC isR : List Nat) (hC : isC.map (fun i => ws[i]?) = wc.map some) (hR : isR.map (fun i => ws[i]?) = wr.map some) (hn : va_nd isR = true) (hdis : ∀ i ∈ isR, i ∉ isC)
    (hk : ∀ q : Nat, q < H.size → ¬ aw wc q → H1[q]? = H[q]?) (hP1 : va_P D cl w1 H1) (hD1 : va_D (aw wc) w1) : va_P D cl (wr ++ w1) H1 ∧ va_D A0 (wr ++ w1) := by
  have at' : ∀ {is : List Nat} {w : va_W}, is.map (fun i => ws[i]?) = w.map some → ∀ (k : Nat) (q : Nat × va_E), w[k]? = some q → ∃ i, is[k]? = some i ∧ ws[i]? = some q := by
    intro is w hs k q hq
    have h1 : (is.map (fun i => ws[i]?))[k]? = some (some q) := by rw [hs, List.getElem?_map, hq]; rfl
    rw [List.getElem?_map] at h1
    cases hi : is[k]? with
    | none => rw [hi] at h1; cases h1
    | some i => rw [hi] at h1; exact ⟨i, rfl, Option.some.inj h1⟩
  have apart : ∀ (k : Nat) (q : Nat × va_E), wr[k]? = some q → q.1 < H.size ∧ ¬ aw wc q.1 := by
    intro k q hq
    obtain ⟨i, h1, h2⟩ := at' hR k q hq
    refine ⟨(hP i q h2).lt, fun h => ?_⟩
    obtain ⟨k2, e, h⟩ := h
    obtain ⟨j, h3, h4⟩ := at' hC k2 (q.1, e) h
    have hij := hD.1 i j q (q.1, e) h2 h4 rfl
    subst hij
    exact hdis i (List.mem_of_getElem? h1) (List.mem_of_getElem? h3)
  refine ⟨va_P.app (fun k q hq => ?_) hP1, va_D.app (hD.sub isR hn hR) (hD1.weaken (fun k q _ h => aw_in hD isC hC q.1 h)) (fun i j x y hx hy hxy => ?_)⟩
  · obtain ⟨i, h1, h2⟩ := at' hR k q hq
    obtain ⟨g1, g2⟩ := apart k q hq
    exact (hP i q h2).kept (hk q.1 g1 g2)
  · exact (apart i x hx).2 (by rw [hxy]; exact hD1.2 j y hy)
section LAY2
variable {p : Program} {l : Launch} {e : Env} {R : Room} {s : State} {m : MethodId} {args : Array Value} {below : List Frame} {meth : Method} {c : Code} {H : Heap} {locs : List Loc} {cells slots : Nat} {Q : State → Prop} {D : va_G} {cA : Nat → ClassId}
variable {y : MethodName} {b : ByteArray} {n : Nat} {ret : Option FieldType} {pc : Nat} {ls : Array Slot} {rest st : List Value}
theorem ro_to {v v' : Value} {g : JFrame} {H0 : Heap} (h : v' = v) (k : W p l e R s m args below meth c H0 [] 0 0 (MQ below (Qro v) args s 0 0 nof) g) : W p l e R s m args below meth c H0 [] 0 0 (MQ below (Qro v') args s 0 0 nof) g := by
  rw [h]; exact k
variable {A : Nat → Prop} {P : Option Value → Heap → Prop}
theorem mu_iret {v : Int32} (F : FX p s m meth c args y b n (some .int)) (hS : va_S A s.heap H locs) (hP : P (some (.int v)) H) (hdg : decode b pc = .ok (.ireturn, 1)) : W p l e R s m args below meth c H locs cells slots (MQ below (Qmu A P) args s cells slots A) (F0 m pc ls [.int v]) :=
  W.iret F.1 F.2.1 F.2.2.2.2.2.1 (fun t ht _ => ⟨⟨_, rfl, by rw [ht]; exact hP⟩, hS.F ht⟩) hS.2.2 hdg F.2.2.2.2.2.2
theorem mu_lret {v : Int64} (F : FX p s m meth c args y b n (some .long)) (hS : va_S A s.heap H locs) (hP : P (some (.long v)) H) (hdg : decode b pc = .ok (.lreturn, 1)) : W p l e R s m args below meth c H locs cells slots (MQ below (Qmu A P) args s cells slots A) (F0 m pc ls [.long v]) :=
  W.lret F.1 F.2.1 F.2.2.2.2.2.1 (fun t ht _ => ⟨⟨_, rfl, by rw [ht]; exact hP⟩, hS.F ht⟩) hS.2.2 hdg F.2.2.2.2.2.2
theorem mu_zret {v : Int32} (v' : Bool) (hv : v = bz v') (F : FX p s m meth c args y b n (some .boolean)) (hS : va_S A s.heap H locs) (hP : P (some (.int (bz v'))) H) (hdg : decode b pc = .ok (.ireturn, 1)) : W p l e R s m args below meth c H locs cells slots (MQ below (Qmu A P) args s cells slots A) (F0 m pc ls [.int v]) := by
  subst hv
  exact W.zret F.1 F.2.1 F.2.2.2.2.2.1 (bz_n v') (fun t ht _ => ⟨⟨_, rfl, by rw [ht]; exact hP⟩, hS.F ht⟩) hS.2.2 hdg F.2.2.2.2.2.2
theorem mu_vret (F : FX p s m meth c args y b n none) (hS : va_S A s.heap H locs) (hP : P none H) (hdg : decode b pc = .ok (.return_, 1)) : W p l e R s m args below meth c H locs cells slots (MQ below (Qmu A P) args s cells slots A) (F0 m pc ls []) :=
  W.vret F.1 F.2.1 F.2.2.2.2.2.1 (fun t ht _ => ⟨⟨_, rfl, by rw [ht]; exact hP⟩, hS.F ht⟩) hS.2.2 hdg F.2.2.2.2.2.2
theorem mu_call {A0 : Nat → Prop} {a : Array Value} {g : JFrame} {H0 : Heap} {mc ms : Nat} {free : Addr → Prop} (hr : CallRun p l e R s m args below meth c H locs cells slots mc ms g rest (Qmu A P a) free) (hS : va_S A0 H0 H locs) (hA : ∀ q, q < H.size → A q → A0 q) (hfr : ∀ q, free q → A0 q)
    (kk : ∀ (v : Option Value) (H1 : Heap) (locs1 : List Loc), P v H1 → H.size ≤ H1.size → (∀ q : Nat, q < H.size → ¬ A q → H1[q]? = H[q]?) → va_S A0 H0 H1 locs1 → W p l e R s m args below meth c H1 locs1 (cells + mc) (slots + ms) Q { g with pc := g.pc + 3, stack := v.toList ++ rest }) : W p l e R s m args below meth c H locs cells slots Q g := by
  intro T hT X
  obtain ⟨v, st₀, t, T', L, h0, X', hL, e1, ⟨⟨v', hv, hp⟩, hz, hk⟩, st⟩ := hr T hT X
  cases hv
  rw [h0] at hz hk
  obtain ⟨t2, a1, b1⟩ := kk v T'.heap (locs ++ L) (by rw [e1]; exact hp) (by rw [e1]; exact hz) (fun q h1 h2 => by rw [e1]; exact hk q h1 h2)
    ⟨Nat.le_trans hS.1 (by rw [e1]; exact hz), fun q h1 h2 => by rw [e1, hk q (Nat.lt_of_lt_of_le h1 hS.1) (fun z => h2 (hA q (Nat.lt_of_lt_of_le h1 hS.1) z))]; exact hS.2.1 q h1 h2, fun q hq => by
      rcases List.mem_append.mp hq with h | h
      · exact hS.2.2 q h
      · exact hfr _ (hL q h)⟩ T' rfl X'
  exact ⟨t2, st t2 a1, b1⟩
variable {y' : MethodName} {b' : ByteArray} {n' d idx kn : Nat} {ret' : Option FieldType} {As : List Value} {host : String} {a : Nat} {ci q0 : Nat} {q : vw_C} {fs : List Value} {ws wc : va_W} {A0 : Nat → Prop} {H0 : Heap}
/-- a method that changes the cells wc of the object's world -/
theorem mu_V (F : FX p s m meth c args y b n ret) (hK : KK D cA s) (hM : Met l y' (.code y' b' n' ret' :: tb) (rmd d) (Pro D cA (.ref a :: As) (fun H0 => va_P D classes wc H0 ∧ va_D (fun _ => True) wc)) (Qmu (aw wc) P) 0 0 (aw wc)) (hPc : va_P D classes wc H) (hDc : va_D A0 wc) (hP : va_P D classes ws H) (he : ws[q0]? = some (a, .inr (ci, fs))) (hcl : classes[ci]? = some q) (hcq : q.1 = y'.cls) (hc : Cond.code y' b' n' ret' ∈ tb) (hl : Cond.methodLink y.cls idx y' ∈ tb) (hi : Cond.initialized y'.cls ∈ tb) (hs : Cond.instanceMethod y' ∈ tb) (hse : Cond.selects y'.cls y' y' ∈ tb) (hkn : As.length = kn) (hd : okd y' kn) (hR : d + 1 ≤ R.frames ∧ 8 + (n' + 11) + 40 * d ≤ R.locals) (hf : cells ≤ R.cells ∧ slots ≤ R.slots) (hsz : ls.size = n) (hst : st = As.reverse ++ .ref a :: rest) (hW : (rest.map fun v => v.category).sum ≤ 8) (hdg : decode b pc = .ok (.invokevirtual idx, 3)) (hS : va_S A0 H0 H locs) (hA : ∀ q, aw wc q → A0 q)
    (kk : ∀ (v : Option Value) (H1 : Heap) (locs1 : List Loc), P v H1 → H.size ≤ H1.size → (∀ q : Nat, q < H.size → ¬ aw wc q → H1[q]? = H[q]?) → va_S A0 H0 H1 locs1 → W p l e R s m args below meth c H1 locs1 cells slots Q (F0 m (pc + 3) ls (v.toList ++ rest))) : W p l e R s m args below meth c H locs cells slots Q (F0 m pc ls st) :=
  mu_call (va_runV (As := As) (rest := rest) (C := y'.cls) ⟨F.1, F.2.1, F.2.2.1, F.2.2.2.1, F.2.2.2.2.1⟩ hM ⟨ro_cB F hc hl hi hkn hd hR, F.2.2.2.2.1 _ hs, F.2.2.2.2.1 _ hse⟩ ⟨Pro.blind, by rw [← hcq]; exact va_recv hK.1 hP hcl he, fun U hU hW => ⟨rfl, hK.warm hW, by rw [hU]; exact ⟨hPc, hDc.weaken (fun _ _ _ _ => trivial)⟩⟩⟩ rfl hkn hsz hst (lv_room hW) hdg hf).run hS (fun q _ h => hA q h) hA kk
theorem mu_VN (F : FX p s m meth c args y b n ret) (hK : KK D cA s) (hM : Met l y' (.code y' b' n' ret' :: tb) (rmd d) (Pro D cA (.ref a :: As) (fun H0 => va_P D classes wc H0 ∧ va_D (fun _ => True) wc)) (Qmu (aw wc) P) 0 0 (aw wc)) (hPc : va_P D classes wc H) (hDc : va_D A0 wc) (hP : va_P D classes ws H) (he : ws[q0]? = some (a, .inr (ci, fs))) (hcl : classes[ci]? = some q) (hcq : q.1 = y'.cls) (hc : Cond.code y' b' n' ret' ∈ tb) (hl : Cond.methodLinkNest y.cls idx y' host ∈ nests) (hi : Cond.initialized y'.cls ∈ tb) (hs : Cond.instanceMethod y' ∈ tb) (hse : Cond.selects y'.cls y' y' ∈ tb) (hkn : As.length = kn) (hd : okd y' kn) (hR : d + 1 ≤ R.frames ∧ 8 + (n' + 11) + 40 * d ≤ R.locals) (hf : cells ≤ R.cells ∧ slots ≤ R.slots) (hsz : ls.size = n) (hst : st = As.reverse ++ .ref a :: rest) (hW : (rest.map fun v => v.category).sum ≤ 8) (hdg : decode b pc = .ok (.invokevirtual idx, 3)) (hS : va_S A0 H0 H locs) (hA : ∀ q, aw wc q → A0 q)
    (kk : ∀ (v : Option Value) (H1 : Heap) (locs1 : List Loc), P v H1 → H.size ≤ H1.size → (∀ q : Nat, q < H.size → ¬ aw wc q → H1[q]? = H[q]?) → va_S A0 H0 H1 locs1 → W p l e R s m args below meth c H1 locs1 cells slots Q (F0 m (pc + 3) ls (v.toList ++ rest))) : W p l e R s m args below meth c H locs cells slots Q (F0 m pc ls st) :=
  mu_call (va_runVN (As := As) (rest := rest) (C := y'.cls) ⟨F.1, F.2.1, F.2.2.1, F.2.2.2.1, F.2.2.2.2.1⟩ hM ⟨ro_cN F hK hc hl hi hkn hd hR, F.2.2.2.2.1 _ hs, F.2.2.2.2.1 _ hse⟩ ⟨Pro.blind, by rw [← hcq]; exact va_recv hK.1 hP hcl he, fun U hU hW => ⟨rfl, hK.warm hW, by rw [hU]; exact ⟨hPc, hDc.weaken (fun _ _ _ _ => trivial)⟩⟩⟩ rfl hkn hsz hst (lv_room hW) hdg hf).run hS (fun q _ h => hA q h) hA kk
end LAY2
theorem k_lt {k B : Nat} {xi b : Int32} (hx : xi = nI k) (hb : b = nI B) (h : ¬ b ≤ xi) (hk : k < 2 ^ 31) : k < B := by
  subst hx; subst hb
  exact Nat.lt_of_not_le (fun q => h (nI_le q hk))
theorem vin {k N : Nat} {xi : Int32} (hx : xi = nI k) (h : k < N) (hN : N < 2 ^ 31) : vp_in xi N := by
  rw [hx]; exact vp_in_nI h hN
theorem in_nI {x : Int32} (h0 : ¬ x < 0) (h : ¬ (40 : Int32) ≤ x) : ∃ j : Nat, j < 40 ∧ x = nI j := by
  obtain ⟨j, hj, e⟩ := nI_of h0
  refine ⟨j, ?_, e⟩
  exact k_lt e (rfl : (40 : Int32) = nI 40) h hj
theorem upd_bz {bh : Nat → Bool} {k : Nat} {b : Bool} : upd (fun i => bz (bh i)) k (vp_nar .boolean (bz b)) = (fun i => bz (va_up bh k b i)) := by
  funext i
  unfold upd va_up
  by_cases h : i = k
  · rw [if_pos h, if_pos h]
    cases b <;> rfl
  · rw [if_neg h, if_neg h]
theorem vlin {a b : Nat} {x y : Int32} (c N : Nat) (hx : x = nI a) (hy : y = nI b) (h : c * a + b < N) (hN : N < 2 ^ 31) : vp_in (nI c * x + y) N := by
  rw [hx, hy, pk_mul, nI_add]
  exact vp_in_nI h hN
theorem vlin0 {a : Nat} {x : Int32} (c N : Nat) (hx : x = nI a) (h : c * a < N) (hN : N < 2 ^ 31) : vp_in (nI c * x) N := by
  rw [hx, pk_mul]
  exact vp_in_nI h hN
def rma (d mc ms : Nat) : Room := { frames := d, cells := mc, slots := ms, locals := 40 * d }
section LAY4
variable {p : Program} {l : Launch} {e : Env} {R : Room} {s : State} {m : MethodId} {args : Array Value} {below : List Frame} {meth : Method} {c : Code} {H : Heap} {locs : List Loc} {cells slots : Nat} {Q : State → Prop} {D : va_G} {cA : Nat → ClassId}
variable {y : MethodName} {b : ByteArray} {n : Nat} {ret : Option FieldType} {pc : Nat} {ls : Array Slot} {rest st : List Value} {P : Option Value → Heap → Prop}
variable {y' : MethodName} {b' : ByteArray} {n' d idx kn mc ms : Nat} {As : List Value} {a : Nat} {wc : va_W} {A0 : Nat → Prop} {H0 : Heap}
/-- a constructor that makes cells: mc of them, with ms slots -/
theorem al_I (F : FX p s m meth c args y b n ret) (hK : KK D cA s) (hM : Met l y' (.code y' b' n' none :: tb) (rma d mc ms) (Pro D cA (.ref a :: As) (fun H0 => H0.size = H.size ∧ va_P D classes wc H0 ∧ va_D (fun _ => True) wc)) (Qmu (va_A wc H.size) P) mc ms (va_A wc H.size)) (hPc : va_P D classes wc H) (hDc : va_D A0 wc) (hc : Cond.code y' b' n' none ∈ tb) (hl : Cond.methodLink y.cls idx y' ∈ tb) (hi : Cond.initialized y'.cls ∈ tb) (hs : Cond.instanceMethod y' ∈ tb) (hy1 : y'.name = "<init>") (hkn : As.length = kn) (hd : okd y' kn) (hR : d + 1 ≤ R.frames ∧ 8 + (n' + 11) + 40 * d ≤ R.locals) (hf : cells + mc ≤ R.cells ∧ slots + ms ≤ R.slots) (hsz : ls.size = n) (hst : st = As.reverse ++ .ref a :: rest) (hW : (rest.map fun v => v.category).sum ≤ 8) (hdg : decode b pc = .ok (.invokespecial idx, 3)) (hS : va_S A0 H0 H locs) (hA : ∀ q, va_A wc H.size q → A0 q)
    (kk : ∀ (v : Option Value) (H1 : Heap) (locs1 : List Loc), P v H1 → H.size ≤ H1.size → (∀ q : Nat, q < H.size → ¬ va_A wc H.size q → H1[q]? = H[q]?) → va_S A0 H0 H1 locs1 → W p l e R s m args below meth c H1 locs1 (cells + mc) (slots + ms) Q (F0 m (pc + 3) ls (v.toList ++ rest))) : W p l e R s m args below meth c H locs cells slots Q (F0 m pc ls st) :=
  mu_call (va_runI (As := As) (rest := rest) ⟨F.1, F.2.1, F.2.2.1, F.2.2.2.1, F.2.2.2.2.1⟩ hM ⟨callB_of kn F.2.2.2.2.1 (tb_goodT hc) rfl rfl rfl (F.2.2.2.2.1 _ hi) (F.2.2.2.2.1 _ hl) hd hR, hy1, F.2.2.2.2.1 _ hs⟩ ⟨Pro.blind, fun U hU hW => ⟨rfl, hK.warm hW, by rw [hU]; exact ⟨rfl, hPc, hDc.weaken (fun _ _ _ _ => trivial)⟩⟩⟩ rfl hkn hsz hst (lv_room hW) hdg hf).run hS (fun q _ h => hA q h) hA kk
theorem arr_same {cL : ClassId} {ty : FieldType} (k : Nat) (hk : (tyz cA)[k]? = some (cA k, ty)) (hK : KK D cA s) (h : va_K D classes (tyz cA ++ [(cL, ty)]) s) (hr : ∀ c c', va_RA s c ty → va_RA s c' ty → c = c') : cL = cA k := by
  have h1 := (hK.1.2 k _ hk).2
  have h2 := (h.2 (tyz cA).length (cL, ty) (by rw [List.getElem?_append_right (Nat.le_refl _), Nat.sub_self]; rfl)).2
  exact hr _ _ h2 h1
theorem ra_prim {ty : FieldType} (hty : ∀ C, ty ≠ .object C) {c c' : ClassId} (h : va_RA s c ty) (h' : va_RA s c' ty) : c = c' := by
  cases ty with
  | object C => exact absurd rfl (hty C)
  | _ => exact Option.some.inj (Eq.trans (Eq.symm h) h')
theorem ra_obj {C : String} {c c' : ClassId} (h : va_RA s c (.object C)) (h' : va_RA s c' (.object C)) : c = c' := by
  obtain ⟨_, _, _, _, _, h1⟩ := h
  obtain ⟨_, _, _, _, _, h2⟩ := h'
  exact Option.some.inj (h1.symm.trans h2)
end LAY4
end
section
theorem n_x : ∀ a, a < 3 → ∀ b, b < 3 → a ≠ b → (F_x a).2.1 ≠ (F_x b).2.1 := by decide +kernel
theorem t_x_ok : ∀ k, k < 3 → parseFieldDescriptor (F_x k).2.2.1 = some (t_x k) := by decide +kernel
set_option maxRecDepth 100000 in
theorem i_x : ∀ w ∈ u_ws R_x F_x 3, w ∈ tb := by decide +kernel
theorem n_g : ∀ a, a < 5 → ∀ b, b < 5 → a ≠ b → (F_g a).2.1 ≠ (F_g b).2.1 := by decide +kernel
theorem t_g_ok : ∀ k, k < 5 → parseFieldDescriptor (F_g k).2.2.1 = some (t_g k) := by decide +kernel
set_option maxRecDepth 100000 in
theorem i_g : ∀ w ∈ u_ws R_g F_g 5, w ∈ tb := by decide +kernel
theorem n_t : ∀ a, a < 11 → ∀ b, b < 11 → a ≠ b → (F_t a).2.1 ≠ (F_t b).2.1 := by decide +kernel
theorem t_t_ok : ∀ k, k < 11 → parseFieldDescriptor (F_t k).2.2.1 = some (t_t k) := by decide +kernel
set_option maxRecDepth 100000 in
theorem i_t : ∀ w ∈ u_ws R_t F_t 11, w ∈ tb := by decide +kernel
theorem n_m : ∀ a, a < 16 → ∀ b, b < 16 → a ≠ b → (F_m a).2.1 ≠ (F_m b).2.1 := by decide +kernel
theorem t_m_ok : ∀ k, k < 16 → parseFieldDescriptor (F_m k).2.2.1 = some (t_m k) := by decide +kernel
set_option maxRecDepth 100000 in
theorem i_m : ∀ w ∈ u_ws R_m F_m 16, w ∈ tb := by decide +kernel
theorem ok_g_init : okd y_g_init 0 := by decide +kernel
theorem ok_t_init : okd y_t_init 1 := by decide +kernel
theorem ok_x_init : okd y_x_init 0 := by decide +kernel
theorem ok_lo_bitCount : okd y_lo_bitCount 1 := by decide +kernel
theorem ok_x_isNumber : okd y_x_isNumber 1 := by decide +kernel
theorem ok_x_only : okd y_x_only 1 := by decide +kernel
theorem ok_x_contains : okd y_x_contains 2 := by decide +kernel
theorem ok_x_isFlake : okd y_x_isFlake 2 := by decide +kernel
theorem ok_x_isSure : okd y_x_isSure 1 := by decide +kernel
theorem ok_g_holds : okd y_g_holds 1 := by decide +kernel
theorem ok_g_mayBeParent : okd y_g_mayBeParent 1 := by decide +kernel
theorem ok_g_reach : okd y_g_reach 1 := by decide +kernel
theorem ok_g_isBuilt : okd y_g_isBuilt 1 := by decide +kernel
theorem ok_g_isSkipped : okd y_g_isSkipped 1 := by decide +kernel
theorem ok_g_builtCount : okd y_g_builtCount 0 := by decide +kernel
theorem ok_g_stepToward : okd y_g_stepToward 2 := by decide +kernel
theorem ok_g_markBuilt : okd y_g_markBuilt 1 := by decide +kernel
theorem ok_g_markSkipped : okd y_g_markSkipped 1 := by decide +kernel
theorem ok_g_add : okd y_g_add 1 := by decide +kernel
theorem ok_t_isSearched : okd y_t_isSearched 0 := by decide +kernel
theorem ok_t_isCleared : okd y_t_isCleared 1 := by decide +kernel
theorem ok_t_weightOf : okd y_t_weightOf 1 := by decide +kernel
theorem ok_t_weightWithin : okd y_t_weightWithin 1 := by decide +kernel
theorem ok_t_weightOfAll : okd y_t_weightOfAll 0 := by decide +kernel
theorem ok_t_culprit : okd y_t_culprit 0 := by decide +kernel
theorem ok_t_mostEven : okd y_t_mostEven 0 := by decide +kernel
theorem ok_t_standing : okd y_t_standing 0 := by decide +kernel
theorem ok_t_asked : okd y_t_asked 0 := by decide +kernel
theorem ok_t_likelihood : okd y_t_likelihood 2 := by decide +kernel
theorem ok_t_rankOf : okd y_t_rankOf 1 := by decide +kernel
theorem ok_t_ranked : okd y_t_ranked 1 := by decide +kernel
theorem ok_t_onWay : okd y_t_onWay 1 := by decide +kernel
theorem ok_t_markGood : okd y_t_markGood 1 := by decide +kernel
theorem ok_t_giveUp : okd y_t_giveUp 0 := by decide +kernel
theorem ok_t_skip : okd y_t_skip 1 := by decide +kernel
theorem ok_t_start : okd y_t_start 4 := by decide +kernel
theorem ok_t_learn : okd y_t_learn 2 := by decide +kernel
theorem ok_x_targetAt : okd y_x_targetAt 1 := by decide +kernel
theorem ok_x_searchAt : okd y_x_searchAt 1 := by decide +kernel
theorem ok_x_has : okd y_x_has 2 := by decide +kernel
theorem ok_x_state : okd y_x_state 1 := by decide +kernel
theorem ok_x_next : okd y_x_next 1 := by decide +kernel
theorem ok_x_weight : okd y_x_weight 2 := by decide +kernel
theorem ok_x_part : okd y_x_part 2 := by decide +kernel
theorem ok_x_total : okd y_x_total 1 := by decide +kernel
theorem ok_x_found : okd y_x_found 1 := by decide +kernel
theorem ok_x_told : okd y_x_told 2 := by decide +kernel
theorem ok_x_way : okd y_x_way 2 := by decide +kernel
theorem ok_x_counted : okd y_x_counted 2 := by decide +kernel
theorem ok_x_change : okd y_x_change 3 := by decide +kernel
theorem ok_x_good : okd y_x_good 2 := by decide +kernel
theorem ok_x_begin : okd y_x_begin 5 := by decide +kernel
theorem ok_x_stop : okd y_x_stop 1 := by decide +kernel
theorem ok_x_answer : okd y_x_answer 2 := by decide +kernel
theorem ok_x_target : okd y_x_target 0 := by decide +kernel
theorem km_g_3 : Cond.methodLink "CulpritSearch$Graph" 3 objectInit ∈ tb := tb_mem 32 (by decide +kernel) (by decide +kernel)
theorem ks_objInit : Cond.instanceMethod objectInit ∈ tb := tb_mem 25 (by decide +kernel) (by decide +kernel)
theorem kc_objInit : Cond.code objectInit ⟨#[0xb1]⟩ 1 none ∈ tb := tb_mem 26 (by decide +kernel) (by decide +kernel)
theorem ka_long : Cond.arrayClass .long ∈ tb := tb_mem 50 (by decide +kernel) (by decide +kernel)
theorem kf_g_9 : Cond.fieldLink "CulpritSearch$Graph" 9 "CulpritSearch$Graph" "parents" "[J" ∈ tb := tb_mem 33 (by decide +kernel) (by decide +kernel)
theorem kf_g_15 : Cond.fieldLink "CulpritSearch$Graph" 15 "CulpritSearch$Graph" "reaches" "[J" ∈ tb := tb_mem 34 (by decide +kernel) (by decide +kernel)
theorem kf_g_18 : Cond.fieldLink "CulpritSearch$Graph" 18 "CulpritSearch$Graph" "size" "I" ∈ tb := tb_mem 35 (by decide +kernel) (by decide +kernel)
theorem kf_g_22 : Cond.fieldLink "CulpritSearch$Graph" 22 "CulpritSearch$Graph" "built" "J" ∈ tb := tb_mem 37 (by decide +kernel) (by decide +kernel)
theorem kf_g_26 : Cond.fieldLink "CulpritSearch$Graph" 26 "CulpritSearch$Graph" "skipped" "J" ∈ tb := tb_mem 38 (by decide +kernel) (by decide +kernel)
theorem km_t_3 : Cond.methodLink "CulpritSearch$Target" 3 objectInit ∈ tb := tb_mem 108 (by decide +kernel) (by decide +kernel)
theorem kf_t_9 : Cond.fieldLink "CulpritSearch$Target" 9 "CulpritSearch$Target" "graph" "LCulpritSearch$Graph;" ∈ tb := tb_mem 109 (by decide +kernel) (by decide +kernel)
theorem kf_t_15 : Cond.fieldLink "CulpritSearch$Target" 15 "CulpritSearch$Target" "weights" "[J" ∈ tb := tb_mem 110 (by decide +kernel) (by decide +kernel)
theorem kf_t_19 : Cond.fieldLink "CulpritSearch$Target" 19 "CulpritSearch$Target" "goodOnes" "J" ∈ tb := tb_mem 111 (by decide +kernel) (by decide +kernel)
theorem kf_t_23 : Cond.fieldLink "CulpritSearch$Target" 23 "CulpritSearch$Target" "cleared" "J" ∈ tb := tb_mem 112 (by decide +kernel) (by decide +kernel)
theorem kf_t_26 : Cond.fieldLink "CulpritSearch$Target" 26 "CulpritSearch$Target" "searched" "Z" ∈ tb := tb_mem 113 (by decide +kernel) (by decide +kernel)
theorem kf_t_30 : Cond.fieldLink "CulpritSearch$Target" 30 "CulpritSearch$Target" "bad" "I" ∈ tb := tb_mem 114 (by decide +kernel) (by decide +kernel)
theorem kf_t_34 : Cond.fieldLink "CulpritSearch$Target" 34 "CulpritSearch$Target" "p" "I" ∈ tb := tb_mem 116 (by decide +kernel) (by decide +kernel)
theorem kf_t_37 : Cond.fieldLink "CulpritSearch$Target" 37 "CulpritSearch$Target" "q" "I" ∈ tb := tb_mem 117 (by decide +kernel) (by decide +kernel)
theorem kf_t_40 : Cond.fieldLink "CulpritSearch$Target" 40 "CulpritSearch$Target" "sure" "I" ∈ tb := tb_mem 118 (by decide +kernel) (by decide +kernel)
theorem kf_t_43 : Cond.fieldLink "CulpritSearch$Target" 43 "CulpritSearch$Target" "answers" "I" ∈ tb := tb_mem 119 (by decide +kernel) (by decide +kernel)
theorem kf_t_46 : Cond.fieldLink "CulpritSearch$Target" 46 "CulpritSearch$Target" "skips" "I" ∈ tb := tb_mem 121 (by decide +kernel) (by decide +kernel)
theorem km_x_1 : Cond.methodLink "CulpritSearch" 1 objectInit ∈ tb := tb_mem 24 (by decide +kernel) (by decide +kernel)
theorem kk_x_7 : Cond.classLink "CulpritSearch" 7 "CulpritSearch$Graph" ∈ tb := tb_mem 27 (by decide +kernel) (by decide +kernel)
theorem kz_g : Cond.instantiable "CulpritSearch$Graph" 5 ∈ tb := tb_mem 28 (by decide +kernel) (by decide +kernel)
theorem ki_g : Cond.initialized "CulpritSearch$Graph" ∈ tb := tb_mem 14 (by decide +kernel) (by decide +kernel)
theorem kc_g_init : Cond.code y_g_init b_g_init 1 none ∈ tb := tb_mem 31 (by decide +kernel) (by decide +kernel)
theorem km_x_9 : Cond.methodLink "CulpritSearch" 9 y_g_init ∈ tb := tb_mem 29 (by decide +kernel) (by decide +kernel)
theorem ks_g_init : Cond.instanceMethod y_g_init ∈ tb := tb_mem 30 (by decide +kernel) (by decide +kernel)
theorem kf_x_10 : Cond.fieldLink "CulpritSearch" 10 "CulpritSearch" "graph" "LCulpritSearch$Graph;" ∈ tb := tb_mem 53 (by decide +kernel) (by decide +kernel)
theorem kk_x_16 : Cond.classLink "CulpritSearch" 16 "CulpritSearch$Target" ∈ tb := tb_mem 51 (by decide +kernel) (by decide +kernel)
theorem kf_x_18 : Cond.fieldLink "CulpritSearch" 18 "CulpritSearch" "targets" "[LCulpritSearch$Target;" ∈ tb := tb_mem 54 (by decide +kernel) (by decide +kernel)
theorem kf_x_22 : Cond.fieldLink "CulpritSearch" 22 "CulpritSearch" "targetCount" "I" ∈ tb := tb_mem 55 (by decide +kernel) (by decide +kernel)
theorem kl_lo_314 : Cond.constantLong "java/lang/Long" 314 (6148914691236517205) ∈ tb := tb_mem 187 (by decide +kernel) (by decide +kernel)
theorem kl_lo_316 : Cond.constantLong "java/lang/Long" 316 (3689348814741910323) ∈ tb := tb_mem 188 (by decide +kernel) (by decide +kernel)
theorem kl_lo_318 : Cond.constantLong "java/lang/Long" 318 (1085102592571150095) ∈ tb := tb_mem 189 (by decide +kernel) (by decide +kernel)
theorem kc_x_isNumber : Cond.code y_x_isNumber b_x_isNumber 1 (some .boolean) ∈ tb := tb_mem 77 (by decide +kernel) (by decide +kernel)
theorem km_x_130 : Cond.methodLink "CulpritSearch" 130 y_x_isNumber ∈ tb := tb_mem 81 (by decide +kernel) (by decide +kernel)
theorem ki_x : Cond.initialized "CulpritSearch" ∈ tb := tb_mem 13 (by decide +kernel) (by decide +kernel)
theorem ks_x_isNumber : Cond.static y_x_isNumber ∈ tb := tb_mem 76 (by decide +kernel) (by decide +kernel)
theorem km_g_29 : Cond.methodLinkNest "CulpritSearch$Graph" 29 y_x_isNumber "CulpritSearch" ∈ nests := ne_mem 75 (by decide +kernel) (by decide +kernel)
theorem kc_g_holds : Cond.code y_g_holds b_g_holds 2 (some .boolean) ∈ tb := tb_mem 74 (by decide +kernel) (by decide +kernel)
theorem km_g_33 : Cond.methodLink "CulpritSearch$Graph" 33 y_g_holds ∈ tb := tb_mem 71 (by decide +kernel) (by decide +kernel)
theorem ks_g_holds : Cond.instanceMethod y_g_holds ∈ tb := tb_mem 72 (by decide +kernel) (by decide +kernel)
theorem ke_g_holds : Cond.selects "CulpritSearch$Graph" y_g_holds y_g_holds ∈ tb := tb_mem 73 (by decide +kernel) (by decide +kernel)
theorem kc_x_contains : Cond.code y_x_contains b_x_contains 3 (some .boolean) ∈ tb := tb_mem 89 (by decide +kernel) (by decide +kernel)
theorem km_g_40 : Cond.methodLinkNest "CulpritSearch$Graph" 40 y_x_contains "CulpritSearch" ∈ nests := ne_mem 87 (by decide +kernel) (by decide +kernel)
theorem ks_x_contains : Cond.static y_x_contains ∈ tb := tb_mem 88 (by decide +kernel) (by decide +kernel)
theorem kc_lo_bitCount : Cond.code y_lo_bitCount b_lo_bitCount 2 (some .int) ∈ tb := tb_mem 186 (by decide +kernel) (by decide +kernel)
theorem km_g_44 : Cond.methodLink "CulpritSearch$Graph" 44 y_lo_bitCount ∈ tb := tb_mem 327 (by decide +kernel) (by decide +kernel)
theorem ki_lo : Cond.initialized "java/lang/Long" ∈ tb := tb_mem 17 (by decide +kernel) (by decide +kernel)
theorem ks_lo_bitCount : Cond.static y_lo_bitCount ∈ tb := tb_mem 185 (by decide +kernel) (by decide +kernel)
theorem kc_x_only : Cond.code y_x_only b_x_only 1 (some .long) ∈ tb := tb_mem 80 (by decide +kernel) (by decide +kernel)
theorem km_g_36 : Cond.methodLinkNest "CulpritSearch$Graph" 36 y_x_only "CulpritSearch" ∈ nests := ne_mem 86 (by decide +kernel) (by decide +kernel)
theorem ks_x_only : Cond.static y_x_only ∈ tb := tb_mem 79 (by decide +kernel) (by decide +kernel)
theorem km_t_49 : Cond.methodLinkNest "CulpritSearch$Target" 49 y_x_contains "CulpritSearch" ∈ nests := ne_mem 162 (by decide +kernel) (by decide +kernel)
theorem kc_t_weightOfAll : Cond.code y_t_weightOfAll b_t_weightOfAll 4 (some .long) ∈ tb := tb_mem 217 (by decide +kernel) (by decide +kernel)
theorem km_t_70 : Cond.methodLink "CulpritSearch$Target" 70 y_t_weightOfAll ∈ tb := tb_mem 214 (by decide +kernel) (by decide +kernel)
theorem ki_t : Cond.initialized "CulpritSearch$Target" ∈ tb := tb_mem 16 (by decide +kernel) (by decide +kernel)
theorem ks_t_weightOfAll : Cond.instanceMethod y_t_weightOfAll ∈ tb := tb_mem 215 (by decide +kernel) (by decide +kernel)
theorem ke_t_weightOfAll : Cond.selects "CulpritSearch$Target" y_t_weightOfAll y_t_weightOfAll ∈ tb := tb_mem 216 (by decide +kernel) (by decide +kernel)
theorem kl_t_74 : Cond.constantLong "CulpritSearch$Target" 74 (100) ∈ tb := tb_mem 218 (by decide +kernel) (by decide +kernel)
theorem kf_t_86 : Cond.fieldLinkNest "CulpritSearch$Target" 86 "CulpritSearch$Graph" "size" "I" "CulpritSearch" ∈ nests := ne_mem 36 (by decide +kernel) (by decide +kernel)
theorem kc_g_isSkipped : Cond.code y_g_isSkipped b_g_isSkipped 2 (some .boolean) ∈ tb := tb_mem 226 (by decide +kernel) (by decide +kernel)
theorem km_t_89 : Cond.methodLink "CulpritSearch$Target" 89 y_g_isSkipped ∈ tb := tb_mem 223 (by decide +kernel) (by decide +kernel)
theorem ks_g_isSkipped : Cond.instanceMethod y_g_isSkipped ∈ tb := tb_mem 224 (by decide +kernel) (by decide +kernel)
theorem ke_g_isSkipped : Cond.selects "CulpritSearch$Graph" y_g_isSkipped y_g_isSkipped ∈ tb := tb_mem 225 (by decide +kernel) (by decide +kernel)
theorem kc_g_reach : Cond.code y_g_reach b_g_reach 2 (some .long) ∈ tb := tb_mem 98 (by decide +kernel) (by decide +kernel)
theorem km_t_57 : Cond.methodLink "CulpritSearch$Target" 57 y_g_reach ∈ tb := tb_mem 164 (by decide +kernel) (by decide +kernel)
theorem ks_g_reach : Cond.instanceMethod y_g_reach ∈ tb := tb_mem 96 (by decide +kernel) (by decide +kernel)
theorem ke_g_reach : Cond.selects "CulpritSearch$Graph" y_g_reach y_g_reach ∈ tb := tb_mem 97 (by decide +kernel) (by decide +kernel)
theorem kc_t_weightWithin : Cond.code y_t_weightWithin b_t_weightWithin 6 (some .long) ∈ tb := tb_mem 230 (by decide +kernel) (by decide +kernel)
theorem km_t_93 : Cond.methodLink "CulpritSearch$Target" 93 y_t_weightWithin ∈ tb := tb_mem 227 (by decide +kernel) (by decide +kernel)
theorem ks_t_weightWithin : Cond.instanceMethod y_t_weightWithin ∈ tb := tb_mem 228 (by decide +kernel) (by decide +kernel)
theorem ke_t_weightWithin : Cond.selects "CulpritSearch$Target" y_t_weightWithin y_t_weightWithin ∈ tb := tb_mem 229 (by decide +kernel) (by decide +kernel)
theorem km_t_97 : Cond.methodLink "CulpritSearch$Target" 97 Lib.MathLoose.abs_long.x ∈ tb := tb_mem 231 (by decide +kernel) (by decide +kernel)
theorem ks_abs_long : Cond.static Lib.MathLoose.abs_long.x ∈ tb := tb_mem 232 (by decide +kernel) (by decide +kernel)
theorem ki_ma : Cond.initialized "java/lang/Math" ∈ tb := tb_mem 18 (by decide +kernel) (by decide +kernel)
theorem kc_abs_long : Cond.code Lib.MathLoose.abs_long.x Lib.MathLoose.abs_long.code 2 (some .long) ∈ tb := tb_mem 233 (by decide +kernel) (by decide +kernel)
theorem kc_g_isBuilt : Cond.code y_g_isBuilt b_g_isBuilt 2 (some .boolean) ∈ tb := tb_mem 237 (by decide +kernel) (by decide +kernel)
theorem km_t_102 : Cond.methodLink "CulpritSearch$Target" 102 y_g_isBuilt ∈ tb := tb_mem 234 (by decide +kernel) (by decide +kernel)
theorem ks_g_isBuilt : Cond.instanceMethod y_g_isBuilt ∈ tb := tb_mem 235 (by decide +kernel) (by decide +kernel)
theorem ke_g_isBuilt : Cond.selects "CulpritSearch$Graph" y_g_isBuilt y_g_isBuilt ∈ tb := tb_mem 236 (by decide +kernel) (by decide +kernel)
theorem kc_t_culprit : Cond.code y_t_culprit b_t_culprit 4 (some .int) ∈ tb := tb_mem 213 (by decide +kernel) (by decide +kernel)
theorem km_t_76 : Cond.methodLink "CulpritSearch$Target" 76 y_t_culprit ∈ tb := tb_mem 210 (by decide +kernel) (by decide +kernel)
theorem ks_t_culprit : Cond.instanceMethod y_t_culprit ∈ tb := tb_mem 211 (by decide +kernel) (by decide +kernel)
theorem ke_t_culprit : Cond.selects "CulpritSearch$Target" y_t_culprit y_t_culprit ∈ tb := tb_mem 212 (by decide +kernel) (by decide +kernel)
theorem kc_t_mostEven : Cond.code y_t_mostEven b_t_mostEven 12 (some .int) ∈ tb := tb_mem 222 (by decide +kernel) (by decide +kernel)
theorem km_t_80 : Cond.methodLink "CulpritSearch$Target" 80 y_t_mostEven ∈ tb := tb_mem 219 (by decide +kernel) (by decide +kernel)
theorem ks_t_mostEven : Cond.instanceMethod y_t_mostEven ∈ tb := tb_mem 221 (by decide +kernel) (by decide +kernel)
theorem ke_t_mostEven : Cond.selects "CulpritSearch$Target" y_t_mostEven y_t_mostEven ∈ tb := tb_mem 2 (by decide +kernel) (by decide +kernel)
theorem kc_t_standing : Cond.code y_t_standing b_t_standing 1 (some .int) ∈ tb := tb_mem 209 (by decide +kernel) (by decide +kernel)
theorem km_t_83 : Cond.methodLink "CulpritSearch$Target" 83 y_t_standing ∈ tb := tb_mem 246 (by decide +kernel) (by decide +kernel)
theorem ks_t_standing : Cond.instanceMethod y_t_standing ∈ tb := tb_mem 207 (by decide +kernel) (by decide +kernel)
theorem ke_t_standing : Cond.selects "CulpritSearch$Target" y_t_standing y_t_standing ∈ tb := tb_mem 208 (by decide +kernel) (by decide +kernel)
theorem kc_t_weightOf : Cond.code y_t_weightOf b_t_weightOf 2 (some .long) ∈ tb := tb_mem 278 (by decide +kernel) (by decide +kernel)
theorem km_t_120 : Cond.methodLink "CulpritSearch$Target" 120 y_t_weightOf ∈ tb := tb_mem 306 (by decide +kernel) (by decide +kernel)
theorem ks_t_weightOf : Cond.instanceMethod y_t_weightOf ∈ tb := tb_mem 276 (by decide +kernel) (by decide +kernel)
theorem ke_t_weightOf : Cond.selects "CulpritSearch$Target" y_t_weightOf y_t_weightOf ∈ tb := tb_mem 277 (by decide +kernel) (by decide +kernel)
theorem kc_t_rankOf : Cond.code y_t_rankOf b_t_rankOf 6 (some .int) ∈ tb := tb_mem 305 (by decide +kernel) (by decide +kernel)
theorem km_t_116 : Cond.methodLink "CulpritSearch$Target" 116 y_t_rankOf ∈ tb := tb_mem 302 (by decide +kernel) (by decide +kernel)
theorem ks_t_rankOf : Cond.instanceMethod y_t_rankOf ∈ tb := tb_mem 304 (by decide +kernel) (by decide +kernel)
theorem ke_t_rankOf : Cond.selects "CulpritSearch$Target" y_t_rankOf y_t_rankOf ∈ tb := tb_mem 4 (by decide +kernel) (by decide +kernel)
theorem kc_g_stepToward : Cond.code y_g_stepToward b_g_stepToward 4 (some .int) ∈ tb := tb_mem 318 (by decide +kernel) (by decide +kernel)
theorem km_t_123 : Cond.methodLink "CulpritSearch$Target" 123 y_g_stepToward ∈ tb := tb_mem 315 (by decide +kernel) (by decide +kernel)
theorem ks_g_stepToward : Cond.instanceMethod y_g_stepToward ∈ tb := tb_mem 316 (by decide +kernel) (by decide +kernel)
theorem ke_g_stepToward : Cond.selects "CulpritSearch$Graph" y_g_stepToward y_g_stepToward ∈ tb := tb_mem 317 (by decide +kernel) (by decide +kernel)
theorem km_t_53 : Cond.methodLinkNest "CulpritSearch$Target" 53 y_x_only "CulpritSearch" ∈ nests := ne_mem 163 (by decide +kernel) (by decide +kernel)
theorem kc_g_markSkipped : Cond.code y_g_markSkipped b_g_markSkipped 2 none ∈ tb := tb_mem 258 (by decide +kernel) (by decide +kernel)
theorem km_t_105 : Cond.methodLink "CulpritSearch$Target" 105 y_g_markSkipped ∈ tb := tb_mem 255 (by decide +kernel) (by decide +kernel)
theorem ks_g_markSkipped : Cond.instanceMethod y_g_markSkipped ∈ tb := tb_mem 256 (by decide +kernel) (by decide +kernel)
theorem ke_g_markSkipped : Cond.selects "CulpritSearch$Graph" y_g_markSkipped y_g_markSkipped ∈ tb := tb_mem 257 (by decide +kernel) (by decide +kernel)
theorem kl_t_62 : Cond.constantLong "CulpritSearch$Target" 62 (-1) ∈ tb := tb_mem 183 (by decide +kernel) (by decide +kernel)
theorem km_t_64 : Cond.methodLink "CulpritSearch$Target" 64 y_lo_bitCount ∈ tb := tb_mem 184 (by decide +kernel) (by decide +kernel)
theorem kc_g_markBuilt : Cond.code y_g_markBuilt b_g_markBuilt 2 none ∈ tb := tb_mem 266 (by decide +kernel) (by decide +kernel)
theorem km_t_109 : Cond.methodLink "CulpritSearch$Target" 109 y_g_markBuilt ∈ tb := tb_mem 263 (by decide +kernel) (by decide +kernel)
theorem ks_g_markBuilt : Cond.instanceMethod y_g_markBuilt ∈ tb := tb_mem 264 (by decide +kernel) (by decide +kernel)
theorem ke_g_markBuilt : Cond.selects "CulpritSearch$Graph" y_g_markBuilt y_g_markBuilt ∈ tb := tb_mem 265 (by decide +kernel) (by decide +kernel)
theorem kc_t_likelihood : Cond.code y_t_likelihood b_t_likelihood 3 (some .long) ∈ tb := tb_mem 270 (by decide +kernel) (by decide +kernel)
theorem km_t_112 : Cond.methodLink "CulpritSearch$Target" 112 y_t_likelihood ∈ tb := tb_mem 267 (by decide +kernel) (by decide +kernel)
theorem ks_t_likelihood : Cond.instanceMethod y_t_likelihood ∈ tb := tb_mem 269 (by decide +kernel) (by decide +kernel)
theorem ke_t_likelihood : Cond.selects "CulpritSearch$Target" y_t_likelihood y_t_likelihood ∈ tb := tb_mem 3 (by decide +kernel) (by decide +kernel)
theorem kc_x_targetAt : Cond.code y_x_targetAt b_x_targetAt 2 (some (.object "CulpritSearch$Target")) ∈ tb := tb_mem 153 (by decide +kernel) (by decide +kernel)
theorem km_x_51 : Cond.methodLink "CulpritSearch" 51 y_x_targetAt ∈ tb := tb_mem 150 (by decide +kernel) (by decide +kernel)
theorem ks_x_targetAt : Cond.instanceMethod y_x_targetAt ∈ tb := tb_mem 152 (by decide +kernel) (by decide +kernel)
theorem ke_x_targetAt : Cond.selects "CulpritSearch" y_x_targetAt y_x_targetAt ∈ tb := tb_mem 0 (by decide +kernel) (by decide +kernel)
theorem kc_t_isSearched : Cond.code y_t_isSearched b_t_isSearched 1 (some .boolean) ∈ tb := tb_mem 157 (by decide +kernel) (by decide +kernel)
theorem km_x_55 : Cond.methodLink "CulpritSearch" 55 y_t_isSearched ∈ tb := tb_mem 154 (by decide +kernel) (by decide +kernel)
theorem ks_t_isSearched : Cond.instanceMethod y_t_isSearched ∈ tb := tb_mem 155 (by decide +kernel) (by decide +kernel)
theorem ke_t_isSearched : Cond.selects "CulpritSearch$Target" y_t_isSearched y_t_isSearched ∈ tb := tb_mem 156 (by decide +kernel) (by decide +kernel)
theorem km_x_38 : Cond.methodLink "CulpritSearch" 38 y_g_holds ∈ tb := tb_mem 94 (by decide +kernel) (by decide +kernel)
theorem km_x_41 : Cond.methodLink "CulpritSearch" 41 y_g_reach ∈ tb := tb_mem 95 (by decide +kernel) (by decide +kernel)
theorem km_x_44 : Cond.methodLink "CulpritSearch" 44 y_x_contains ∈ tb := tb_mem 99 (by decide +kernel) (by decide +kernel)
theorem kc_x_searchAt : Cond.code y_x_searchAt b_x_searchAt 3 (some (.object "CulpritSearch$Target")) ∈ tb := tb_mem 197 (by decide +kernel) (by decide +kernel)
theorem km_x_76 : Cond.methodLink "CulpritSearch" 76 y_x_searchAt ∈ tb := tb_mem 194 (by decide +kernel) (by decide +kernel)
theorem ks_x_searchAt : Cond.instanceMethod y_x_searchAt ∈ tb := tb_mem 196 (by decide +kernel) (by decide +kernel)
theorem ke_x_searchAt : Cond.selects "CulpritSearch" y_x_searchAt y_x_searchAt ∈ tb := tb_mem 1 (by decide +kernel) (by decide +kernel)
theorem km_x_82 : Cond.methodLink "CulpritSearch" 82 y_t_standing ∈ tb := tb_mem 206 (by decide +kernel) (by decide +kernel)
theorem kc_t_asked : Cond.code y_t_asked b_t_asked 1 (some .int) ∈ tb := tb_mem 245 (by decide +kernel) (by decide +kernel)
theorem km_x_86 : Cond.methodLink "CulpritSearch" 86 y_t_asked ∈ tb := tb_mem 242 (by decide +kernel) (by decide +kernel)
theorem ks_t_asked : Cond.instanceMethod y_t_asked ∈ tb := tb_mem 243 (by decide +kernel) (by decide +kernel)
theorem ke_t_asked : Cond.selects "CulpritSearch$Target" y_t_asked y_t_asked ∈ tb := tb_mem 244 (by decide +kernel) (by decide +kernel)
theorem km_x_97 : Cond.methodLink "CulpritSearch" 97 y_t_weightOf ∈ tb := tb_mem 275 (by decide +kernel) (by decide +kernel)
theorem km_x_100 : Cond.methodLink "CulpritSearch" 100 y_t_weightWithin ∈ tb := tb_mem 283 (by decide +kernel) (by decide +kernel)
theorem km_x_104 : Cond.methodLink "CulpritSearch" 104 y_t_weightOfAll ∈ tb := tb_mem 288 (by decide +kernel) (by decide +kernel)
theorem km_x_108 : Cond.methodLink "CulpritSearch" 108 y_t_culprit ∈ tb := tb_mem 293 (by decide +kernel) (by decide +kernel)
theorem kc_t_ranked : Cond.code y_t_ranked b_t_ranked 3 (some .int) ∈ tb := tb_mem 301 (by decide +kernel) (by decide +kernel)
theorem km_x_111 : Cond.methodLink "CulpritSearch" 111 y_t_ranked ∈ tb := tb_mem 298 (by decide +kernel) (by decide +kernel)
theorem ks_t_ranked : Cond.instanceMethod y_t_ranked ∈ tb := tb_mem 299 (by decide +kernel) (by decide +kernel)
theorem ke_t_ranked : Cond.selects "CulpritSearch$Target" y_t_ranked y_t_ranked ∈ tb := tb_mem 300 (by decide +kernel) (by decide +kernel)
theorem kc_t_onWay : Cond.code y_t_onWay b_t_onWay 5 (some .int) ∈ tb := tb_mem 314 (by decide +kernel) (by decide +kernel)
theorem km_x_115 : Cond.methodLink "CulpritSearch" 115 y_t_onWay ∈ tb := tb_mem 311 (by decide +kernel) (by decide +kernel)
theorem ks_t_onWay : Cond.instanceMethod y_t_onWay ∈ tb := tb_mem 312 (by decide +kernel) (by decide +kernel)
theorem ke_t_onWay : Cond.selects "CulpritSearch$Target" y_t_onWay y_t_onWay ∈ tb := tb_mem 313 (by decide +kernel) (by decide +kernel)
theorem kf_x_127 : Cond.fieldLinkNest "CulpritSearch" 127 "CulpritSearch$Target" "bad" "I" "CulpritSearch" ∈ nests := ne_mem 115 (by decide +kernel) (by decide +kernel)
theorem kf_x_124 : Cond.fieldLinkNest "CulpritSearch" 124 "CulpritSearch$Target" "answers" "I" "CulpritSearch" ∈ nests := ne_mem 120 (by decide +kernel) (by decide +kernel)
theorem kf_x_121 : Cond.fieldLinkNest "CulpritSearch" 121 "CulpritSearch$Target" "skips" "I" "CulpritSearch" ∈ nests := ne_mem 122 (by decide +kernel) (by decide +kernel)
theorem kc_g_builtCount : Cond.code y_g_builtCount b_g_builtCount 1 (some .int) ∈ tb := tb_mem 326 (by decide +kernel) (by decide +kernel)
theorem km_x_118 : Cond.methodLink "CulpritSearch" 118 y_g_builtCount ∈ tb := tb_mem 323 (by decide +kernel) (by decide +kernel)
theorem ks_g_builtCount : Cond.instanceMethod y_g_builtCount ∈ tb := tb_mem 324 (by decide +kernel) (by decide +kernel)
theorem ke_g_builtCount : Cond.selects "CulpritSearch$Graph" y_g_builtCount y_g_builtCount ∈ tb := tb_mem 325 (by decide +kernel) (by decide +kernel)
theorem kc_g_mayBeParent : Cond.code y_g_mayBeParent b_g_mayBeParent 2 (some .boolean) ∈ tb := tb_mem 70 (by decide +kernel) (by decide +kernel)
theorem km_x_26 : Cond.methodLink "CulpritSearch" 26 y_g_mayBeParent ∈ tb := tb_mem 67 (by decide +kernel) (by decide +kernel)
theorem ks_g_mayBeParent : Cond.instanceMethod y_g_mayBeParent ∈ tb := tb_mem 68 (by decide +kernel) (by decide +kernel)
theorem ke_g_mayBeParent : Cond.selects "CulpritSearch$Graph" y_g_mayBeParent y_g_mayBeParent ∈ tb := tb_mem 69 (by decide +kernel) (by decide +kernel)
theorem km_x_30 : Cond.methodLink "CulpritSearch" 30 y_x_only ∈ tb := tb_mem 78 (by decide +kernel) (by decide +kernel)
theorem kc_g_add : Cond.code y_g_add b_g_add 7 (some .int) ∈ tb := tb_mem 85 (by decide +kernel) (by decide +kernel)
theorem km_x_34 : Cond.methodLink "CulpritSearch" 34 y_g_add ∈ tb := tb_mem 82 (by decide +kernel) (by decide +kernel)
theorem ks_g_add : Cond.instanceMethod y_g_add ∈ tb := tb_mem 83 (by decide +kernel) (by decide +kernel)
theorem ke_g_add : Cond.selects "CulpritSearch$Graph" y_g_add y_g_add ∈ tb := tb_mem 84 (by decide +kernel) (by decide +kernel)
theorem kc_t_markGood : Cond.code y_t_markGood b_t_markGood 2 (some .boolean) ∈ tb := tb_mem 161 (by decide +kernel) (by decide +kernel)
theorem km_x_59 : Cond.methodLink "CulpritSearch" 59 y_t_markGood ∈ tb := tb_mem 158 (by decide +kernel) (by decide +kernel)
theorem ks_t_markGood : Cond.instanceMethod y_t_markGood ∈ tb := tb_mem 159 (by decide +kernel) (by decide +kernel)
theorem ke_t_markGood : Cond.selects "CulpritSearch$Target" y_t_markGood y_t_markGood ∈ tb := tb_mem 160 (by decide +kernel) (by decide +kernel)
theorem kc_x_isFlake : Cond.code y_x_isFlake b_x_isFlake 2 (some .boolean) ∈ tb := tb_mem 171 (by decide +kernel) (by decide +kernel)
theorem km_x_62 : Cond.methodLink "CulpritSearch" 62 y_x_isFlake ∈ tb := tb_mem 169 (by decide +kernel) (by decide +kernel)
theorem ks_x_isFlake : Cond.static y_x_isFlake ∈ tb := tb_mem 170 (by decide +kernel) (by decide +kernel)
theorem kc_x_isSure : Cond.code y_x_isSure b_x_isSure 1 (some .boolean) ∈ tb := tb_mem 174 (by decide +kernel) (by decide +kernel)
theorem km_x_66 : Cond.methodLink "CulpritSearch" 66 y_x_isSure ∈ tb := tb_mem 172 (by decide +kernel) (by decide +kernel)
theorem ks_x_isSure : Cond.static y_x_isSure ∈ tb := tb_mem 173 (by decide +kernel) (by decide +kernel)
theorem kc_t_isCleared : Cond.code y_t_isCleared b_t_isCleared 2 (some .boolean) ∈ tb := tb_mem 178 (by decide +kernel) (by decide +kernel)
theorem km_x_69 : Cond.methodLink "CulpritSearch" 69 y_t_isCleared ∈ tb := tb_mem 175 (by decide +kernel) (by decide +kernel)
theorem ks_t_isCleared : Cond.instanceMethod y_t_isCleared ∈ tb := tb_mem 176 (by decide +kernel) (by decide +kernel)
theorem ke_t_isCleared : Cond.selects "CulpritSearch$Target" y_t_isCleared y_t_isCleared ∈ tb := tb_mem 177 (by decide +kernel) (by decide +kernel)
theorem kc_t_start : Cond.code y_t_start b_t_start 8 (some .int) ∈ tb := tb_mem 182 (by decide +kernel) (by decide +kernel)
theorem km_x_72 : Cond.methodLink "CulpritSearch" 72 y_t_start ∈ tb := tb_mem 179 (by decide +kernel) (by decide +kernel)
theorem ks_t_start : Cond.instanceMethod y_t_start ∈ tb := tb_mem 180 (by decide +kernel) (by decide +kernel)
theorem ke_t_start : Cond.selects "CulpritSearch$Target" y_t_start y_t_start ∈ tb := tb_mem 181 (by decide +kernel) (by decide +kernel)
theorem kc_t_giveUp : Cond.code y_t_giveUp b_t_giveUp 1 none ∈ tb := tb_mem 201 (by decide +kernel) (by decide +kernel)
theorem km_x_79 : Cond.methodLink "CulpritSearch" 79 y_t_giveUp ∈ tb := tb_mem 198 (by decide +kernel) (by decide +kernel)
theorem ks_t_giveUp : Cond.instanceMethod y_t_giveUp ∈ tb := tb_mem 199 (by decide +kernel) (by decide +kernel)
theorem ke_t_giveUp : Cond.selects "CulpritSearch$Target" y_t_giveUp y_t_giveUp ∈ tb := tb_mem 200 (by decide +kernel) (by decide +kernel)
theorem kc_t_learn : Cond.code y_t_learn b_t_learn 6 none ∈ tb := tb_mem 262 (by decide +kernel) (by decide +kernel)
theorem km_x_93 : Cond.methodLink "CulpritSearch" 93 y_t_learn ∈ tb := tb_mem 259 (by decide +kernel) (by decide +kernel)
theorem ks_t_learn : Cond.instanceMethod y_t_learn ∈ tb := tb_mem 260 (by decide +kernel) (by decide +kernel)
theorem ke_t_learn : Cond.selects "CulpritSearch$Target" y_t_learn y_t_learn ∈ tb := tb_mem 261 (by decide +kernel) (by decide +kernel)
theorem kc_t_skip : Cond.code y_t_skip b_t_skip 2 none ∈ tb := tb_mem 254 (by decide +kernel) (by decide +kernel)
theorem km_x_89 : Cond.methodLink "CulpritSearch" 89 y_t_skip ∈ tb := tb_mem 251 (by decide +kernel) (by decide +kernel)
theorem ks_t_skip : Cond.instanceMethod y_t_skip ∈ tb := tb_mem 252 (by decide +kernel) (by decide +kernel)
theorem ke_t_skip : Cond.selects "CulpritSearch$Target" y_t_skip y_t_skip ∈ tb := tb_mem 253 (by decide +kernel) (by decide +kernel)
theorem kz_t : Cond.instantiable "CulpritSearch$Target" 11 ∈ tb := tb_mem 104 (by decide +kernel) (by decide +kernel)
theorem kc_t_init : Cond.code y_t_init b_t_init 2 none ∈ tb := tb_mem 107 (by decide +kernel) (by decide +kernel)
theorem km_x_48 : Cond.methodLink "CulpritSearch" 48 y_t_init ∈ tb := tb_mem 105 (by decide +kernel) (by decide +kernel)
theorem ks_t_init : Cond.instanceMethod y_t_init ∈ tb := tb_mem 106 (by decide +kernel) (by decide +kernel)
end
section
theorem d_lo_bitCount_0 : decode b_lo_bitCount 0 = .ok (.lload_n 0, 1) := by decide +kernel
theorem d_lo_bitCount_1 : decode b_lo_bitCount 1 = .ok (.lload_n 0, 1) := by decide +kernel
theorem d_lo_bitCount_2 : decode b_lo_bitCount 2 = .ok (.iconst 1, 1) := by decide +kernel
theorem d_lo_bitCount_3 : decode b_lo_bitCount 3 = .ok (.lushr, 1) := by decide +kernel
theorem d_lo_bitCount_4 : decode b_lo_bitCount 4 = .ok (.ldc2_w 314, 3) := by decide +kernel
theorem d_lo_bitCount_7 : decode b_lo_bitCount 7 = .ok (.land, 1) := by decide +kernel
theorem d_lo_bitCount_8 : decode b_lo_bitCount 8 = .ok (.lsub, 1) := by decide +kernel
theorem d_lo_bitCount_9 : decode b_lo_bitCount 9 = .ok (.lstore_n 0, 1) := by decide +kernel
theorem d_lo_bitCount_10 : decode b_lo_bitCount 10 = .ok (.lload_n 0, 1) := by decide +kernel
theorem d_lo_bitCount_11 : decode b_lo_bitCount 11 = .ok (.ldc2_w 316, 3) := by decide +kernel
theorem d_lo_bitCount_14 : decode b_lo_bitCount 14 = .ok (.land, 1) := by decide +kernel
theorem d_lo_bitCount_15 : decode b_lo_bitCount 15 = .ok (.lload_n 0, 1) := by decide +kernel
theorem d_lo_bitCount_16 : decode b_lo_bitCount 16 = .ok (.iconst 2, 1) := by decide +kernel
theorem d_lo_bitCount_17 : decode b_lo_bitCount 17 = .ok (.lushr, 1) := by decide +kernel
theorem d_lo_bitCount_18 : decode b_lo_bitCount 18 = .ok (.ldc2_w 316, 3) := by decide +kernel
theorem d_lo_bitCount_21 : decode b_lo_bitCount 21 = .ok (.land, 1) := by decide +kernel
theorem d_lo_bitCount_22 : decode b_lo_bitCount 22 = .ok (.ladd, 1) := by decide +kernel
theorem d_lo_bitCount_23 : decode b_lo_bitCount 23 = .ok (.lstore_n 0, 1) := by decide +kernel
theorem d_lo_bitCount_24 : decode b_lo_bitCount 24 = .ok (.lload_n 0, 1) := by decide +kernel
theorem d_lo_bitCount_25 : decode b_lo_bitCount 25 = .ok (.lload_n 0, 1) := by decide +kernel
theorem d_lo_bitCount_26 : decode b_lo_bitCount 26 = .ok (.iconst 4, 1) := by decide +kernel
theorem d_lo_bitCount_27 : decode b_lo_bitCount 27 = .ok (.lushr, 1) := by decide +kernel
theorem d_lo_bitCount_28 : decode b_lo_bitCount 28 = .ok (.ladd, 1) := by decide +kernel
theorem d_lo_bitCount_29 : decode b_lo_bitCount 29 = .ok (.ldc2_w 318, 3) := by decide +kernel
theorem d_lo_bitCount_32 : decode b_lo_bitCount 32 = .ok (.land, 1) := by decide +kernel
theorem d_lo_bitCount_33 : decode b_lo_bitCount 33 = .ok (.lstore_n 0, 1) := by decide +kernel
theorem d_lo_bitCount_34 : decode b_lo_bitCount 34 = .ok (.lload_n 0, 1) := by decide +kernel
theorem d_lo_bitCount_35 : decode b_lo_bitCount 35 = .ok (.lload_n 0, 1) := by decide +kernel
theorem d_lo_bitCount_36 : decode b_lo_bitCount 36 = .ok (.bipush 8, 2) := by decide +kernel
theorem d_lo_bitCount_38 : decode b_lo_bitCount 38 = .ok (.lushr, 1) := by decide +kernel
theorem d_lo_bitCount_39 : decode b_lo_bitCount 39 = .ok (.ladd, 1) := by decide +kernel
theorem d_lo_bitCount_40 : decode b_lo_bitCount 40 = .ok (.lstore_n 0, 1) := by decide +kernel
theorem d_lo_bitCount_41 : decode b_lo_bitCount 41 = .ok (.lload_n 0, 1) := by decide +kernel
theorem d_lo_bitCount_42 : decode b_lo_bitCount 42 = .ok (.lload_n 0, 1) := by decide +kernel
theorem d_lo_bitCount_43 : decode b_lo_bitCount 43 = .ok (.bipush 16, 2) := by decide +kernel
theorem d_lo_bitCount_45 : decode b_lo_bitCount 45 = .ok (.lushr, 1) := by decide +kernel
theorem d_lo_bitCount_46 : decode b_lo_bitCount 46 = .ok (.ladd, 1) := by decide +kernel
theorem d_lo_bitCount_47 : decode b_lo_bitCount 47 = .ok (.lstore_n 0, 1) := by decide +kernel
theorem d_lo_bitCount_48 : decode b_lo_bitCount 48 = .ok (.lload_n 0, 1) := by decide +kernel
theorem d_lo_bitCount_49 : decode b_lo_bitCount 49 = .ok (.lload_n 0, 1) := by decide +kernel
theorem d_lo_bitCount_50 : decode b_lo_bitCount 50 = .ok (.bipush 32, 2) := by decide +kernel
theorem d_lo_bitCount_52 : decode b_lo_bitCount 52 = .ok (.lushr, 1) := by decide +kernel
theorem d_lo_bitCount_53 : decode b_lo_bitCount 53 = .ok (.ladd, 1) := by decide +kernel
theorem d_lo_bitCount_54 : decode b_lo_bitCount 54 = .ok (.lstore_n 0, 1) := by decide +kernel
theorem d_lo_bitCount_55 : decode b_lo_bitCount 55 = .ok (.lload_n 0, 1) := by decide +kernel
theorem d_lo_bitCount_56 : decode b_lo_bitCount 56 = .ok (.l2i, 1) := by decide +kernel
theorem d_lo_bitCount_57 : decode b_lo_bitCount 57 = .ok (.bipush 127, 2) := by decide +kernel
theorem d_lo_bitCount_59 : decode b_lo_bitCount 59 = .ok (.iand, 1) := by decide +kernel
theorem d_lo_bitCount_60 : decode b_lo_bitCount 60 = .ok (.ireturn, 1) := by decide +kernel
def f_lo_bitCount (zs : Int64) : Int32 := (((((((((zs - (((zs.toUInt64 >>> ((1 : Int32).toInt64.toUInt64 &&& Int64.toUInt64 63)).toInt64) &&& 6148914691236517205)) &&& 3689348814741910323) + ((((zs - (((zs.toUInt64 >>> ((1 : Int32).toInt64.toUInt64 &&& Int64.toUInt64 63)).toInt64) &&& 6148914691236517205)).toUInt64 >>> ((2 : Int32).toInt64.toUInt64 &&& Int64.toUInt64 63)).toInt64) &&& 3689348814741910323)) + (((((zs - (((zs.toUInt64 >>> ((1 : Int32).toInt64.toUInt64 &&& Int64.toUInt64 63)).toInt64) &&& 6148914691236517205)) &&& 3689348814741910323) + ((((zs - (((zs.toUInt64 >>> ((1 : Int32).toInt64.toUInt64 &&& Int64.toUInt64 63)).toInt64) &&& 6148914691236517205)).toUInt64 >>> ((2 : Int32).toInt64.toUInt64 &&& Int64.toUInt64 63)).toInt64) &&& 3689348814741910323)).toUInt64 >>> ((4 : Int32).toInt64.toUInt64 &&& Int64.toUInt64 63)).toInt64)) &&& 1085102592571150095) + (((((((zs - (((zs.toUInt64 >>> ((1 : Int32).toInt64.toUInt64 &&& Int64.toUInt64 63)).toInt64) &&& 6148914691236517205)) &&& 3689348814741910323) + ((((zs - (((zs.toUInt64 >>> ((1 : Int32).toInt64.toUInt64 &&& Int64.toUInt64 63)).toInt64) &&& 6148914691236517205)).toUInt64 >>> ((2 : Int32).toInt64.toUInt64 &&& Int64.toUInt64 63)).toInt64) &&& 3689348814741910323)) + (((((zs - (((zs.toUInt64 >>> ((1 : Int32).toInt64.toUInt64 &&& Int64.toUInt64 63)).toInt64) &&& 6148914691236517205)) &&& 3689348814741910323) + ((((zs - (((zs.toUInt64 >>> ((1 : Int32).toInt64.toUInt64 &&& Int64.toUInt64 63)).toInt64) &&& 6148914691236517205)).toUInt64 >>> ((2 : Int32).toInt64.toUInt64 &&& Int64.toUInt64 63)).toInt64) &&& 3689348814741910323)).toUInt64 >>> ((4 : Int32).toInt64.toUInt64 &&& Int64.toUInt64 63)).toInt64)) &&& 1085102592571150095).toUInt64 >>> ((8 : Int32).toInt64.toUInt64 &&& Int64.toUInt64 63)).toInt64)) + ((((((((zs - (((zs.toUInt64 >>> ((1 : Int32).toInt64.toUInt64 &&& Int64.toUInt64 63)).toInt64) &&& 6148914691236517205)) &&& 3689348814741910323) + ((((zs - (((zs.toUInt64 >>> ((1 : Int32).toInt64.toUInt64 &&& Int64.toUInt64 63)).toInt64) &&& 6148914691236517205)).toUInt64 >>> ((2 : Int32).toInt64.toUInt64 &&& Int64.toUInt64 63)).toInt64) &&& 3689348814741910323)) + (((((zs - (((zs.toUInt64 >>> ((1 : Int32).toInt64.toUInt64 &&& Int64.toUInt64 63)).toInt64) &&& 6148914691236517205)) &&& 3689348814741910323) + ((((zs - (((zs.toUInt64 >>> ((1 : Int32).toInt64.toUInt64 &&& Int64.toUInt64 63)).toInt64) &&& 6148914691236517205)).toUInt64 >>> ((2 : Int32).toInt64.toUInt64 &&& Int64.toUInt64 63)).toInt64) &&& 3689348814741910323)).toUInt64 >>> ((4 : Int32).toInt64.toUInt64 &&& Int64.toUInt64 63)).toInt64)) &&& 1085102592571150095) + (((((((zs - (((zs.toUInt64 >>> ((1 : Int32).toInt64.toUInt64 &&& Int64.toUInt64 63)).toInt64) &&& 6148914691236517205)) &&& 3689348814741910323) + ((((zs - (((zs.toUInt64 >>> ((1 : Int32).toInt64.toUInt64 &&& Int64.toUInt64 63)).toInt64) &&& 6148914691236517205)).toUInt64 >>> ((2 : Int32).toInt64.toUInt64 &&& Int64.toUInt64 63)).toInt64) &&& 3689348814741910323)) + (((((zs - (((zs.toUInt64 >>> ((1 : Int32).toInt64.toUInt64 &&& Int64.toUInt64 63)).toInt64) &&& 6148914691236517205)) &&& 3689348814741910323) + ((((zs - (((zs.toUInt64 >>> ((1 : Int32).toInt64.toUInt64 &&& Int64.toUInt64 63)).toInt64) &&& 6148914691236517205)).toUInt64 >>> ((2 : Int32).toInt64.toUInt64 &&& Int64.toUInt64 63)).toInt64) &&& 3689348814741910323)).toUInt64 >>> ((4 : Int32).toInt64.toUInt64 &&& Int64.toUInt64 63)).toInt64)) &&& 1085102592571150095).toUInt64 >>> ((8 : Int32).toInt64.toUInt64 &&& Int64.toUInt64 63)).toInt64)).toUInt64 >>> ((16 : Int32).toInt64.toUInt64 &&& Int64.toUInt64 63)).toInt64)) + (((((((((zs - (((zs.toUInt64 >>> ((1 : Int32).toInt64.toUInt64 &&& Int64.toUInt64 63)).toInt64) &&& 6148914691236517205)) &&& 3689348814741910323) + ((((zs - (((zs.toUInt64 >>> ((1 : Int32).toInt64.toUInt64 &&& Int64.toUInt64 63)).toInt64) &&& 6148914691236517205)).toUInt64 >>> ((2 : Int32).toInt64.toUInt64 &&& Int64.toUInt64 63)).toInt64) &&& 3689348814741910323)) + (((((zs - (((zs.toUInt64 >>> ((1 : Int32).toInt64.toUInt64 &&& Int64.toUInt64 63)).toInt64) &&& 6148914691236517205)) &&& 3689348814741910323) + ((((zs - (((zs.toUInt64 >>> ((1 : Int32).toInt64.toUInt64 &&& Int64.toUInt64 63)).toInt64) &&& 6148914691236517205)).toUInt64 >>> ((2 : Int32).toInt64.toUInt64 &&& Int64.toUInt64 63)).toInt64) &&& 3689348814741910323)).toUInt64 >>> ((4 : Int32).toInt64.toUInt64 &&& Int64.toUInt64 63)).toInt64)) &&& 1085102592571150095) + (((((((zs - (((zs.toUInt64 >>> ((1 : Int32).toInt64.toUInt64 &&& Int64.toUInt64 63)).toInt64) &&& 6148914691236517205)) &&& 3689348814741910323) + ((((zs - (((zs.toUInt64 >>> ((1 : Int32).toInt64.toUInt64 &&& Int64.toUInt64 63)).toInt64) &&& 6148914691236517205)).toUInt64 >>> ((2 : Int32).toInt64.toUInt64 &&& Int64.toUInt64 63)).toInt64) &&& 3689348814741910323)) + (((((zs - (((zs.toUInt64 >>> ((1 : Int32).toInt64.toUInt64 &&& Int64.toUInt64 63)).toInt64) &&& 6148914691236517205)) &&& 3689348814741910323) + ((((zs - (((zs.toUInt64 >>> ((1 : Int32).toInt64.toUInt64 &&& Int64.toUInt64 63)).toInt64) &&& 6148914691236517205)).toUInt64 >>> ((2 : Int32).toInt64.toUInt64 &&& Int64.toUInt64 63)).toInt64) &&& 3689348814741910323)).toUInt64 >>> ((4 : Int32).toInt64.toUInt64 &&& Int64.toUInt64 63)).toInt64)) &&& 1085102592571150095).toUInt64 >>> ((8 : Int32).toInt64.toUInt64 &&& Int64.toUInt64 63)).toInt64)) + ((((((((zs - (((zs.toUInt64 >>> ((1 : Int32).toInt64.toUInt64 &&& Int64.toUInt64 63)).toInt64) &&& 6148914691236517205)) &&& 3689348814741910323) + ((((zs - (((zs.toUInt64 >>> ((1 : Int32).toInt64.toUInt64 &&& Int64.toUInt64 63)).toInt64) &&& 6148914691236517205)).toUInt64 >>> ((2 : Int32).toInt64.toUInt64 &&& Int64.toUInt64 63)).toInt64) &&& 3689348814741910323)) + (((((zs - (((zs.toUInt64 >>> ((1 : Int32).toInt64.toUInt64 &&& Int64.toUInt64 63)).toInt64) &&& 6148914691236517205)) &&& 3689348814741910323) + ((((zs - (((zs.toUInt64 >>> ((1 : Int32).toInt64.toUInt64 &&& Int64.toUInt64 63)).toInt64) &&& 6148914691236517205)).toUInt64 >>> ((2 : Int32).toInt64.toUInt64 &&& Int64.toUInt64 63)).toInt64) &&& 3689348814741910323)).toUInt64 >>> ((4 : Int32).toInt64.toUInt64 &&& Int64.toUInt64 63)).toInt64)) &&& 1085102592571150095) + (((((((zs - (((zs.toUInt64 >>> ((1 : Int32).toInt64.toUInt64 &&& Int64.toUInt64 63)).toInt64) &&& 6148914691236517205)) &&& 3689348814741910323) + ((((zs - (((zs.toUInt64 >>> ((1 : Int32).toInt64.toUInt64 &&& Int64.toUInt64 63)).toInt64) &&& 6148914691236517205)).toUInt64 >>> ((2 : Int32).toInt64.toUInt64 &&& Int64.toUInt64 63)).toInt64) &&& 3689348814741910323)) + (((((zs - (((zs.toUInt64 >>> ((1 : Int32).toInt64.toUInt64 &&& Int64.toUInt64 63)).toInt64) &&& 6148914691236517205)) &&& 3689348814741910323) + ((((zs - (((zs.toUInt64 >>> ((1 : Int32).toInt64.toUInt64 &&& Int64.toUInt64 63)).toInt64) &&& 6148914691236517205)).toUInt64 >>> ((2 : Int32).toInt64.toUInt64 &&& Int64.toUInt64 63)).toInt64) &&& 3689348814741910323)).toUInt64 >>> ((4 : Int32).toInt64.toUInt64 &&& Int64.toUInt64 63)).toInt64)) &&& 1085102592571150095).toUInt64 >>> ((8 : Int32).toInt64.toUInt64 &&& Int64.toUInt64 63)).toInt64)).toUInt64 >>> ((16 : Int32).toInt64.toUInt64 &&& Int64.toUInt64 63)).toInt64)).toUInt64 >>> ((32 : Int32).toInt64.toUInt64 &&& Int64.toUInt64 63)).toInt64)).toInt32) &&& 127
set_option maxHeartbeats 4000000 in
set_option maxRecDepth 100000 in
theorem c_lo_bitCount (l : Launch) (D : va_G) (cA : Nat → ClassId) (zs : Int64) : Met l y_lo_bitCount (.code y_lo_bitCount b_lo_bitCount 2 (some .int) :: tb) (rmd 0) (Pro D cA [.long zs] (fun _ => True)) (Qro (.int (f_lo_bitCount zs))) 0 0 nof := by
  refine ro_in (by decide) (Nat.le_of_ble_eq_true rfl) (fun p e s m below meth c ls FX hnm hK hP hl => ?_)
  have hl : lv_has ls 2 [(0, .long zs)] := hl
  generalize ([.long zs] : List Value).toArray = args at FX ⊢
  obtain ⟨hx, hb, hml, hown, hts, hr, hlk⟩ := id FX
  refine lv_lload_n hx hb d_lo_bitCount_0 rfl (lv_at hl 0 rfl) ?_
  refine lv_lload_n hx hb d_lo_bitCount_1 rfl (lv_at hl 0 rfl) ?_
  refine lv_iconst (v := 1) hx hb d_lo_bitCount_2 (by decide) ?_
  refine lv_lushr (v := (zs.toUInt64 >>> ((1 : Int32).toInt64.toUInt64 &&& Int64.toUInt64 63)).toInt64) hx hb d_lo_bitCount_3 rfl ?_
  refine lv_ldc2 (v := 6148914691236517205) hx hb hown (hts _ kl_lo_314) d_lo_bitCount_4 ?_
  refine lv_land hx hb d_lo_bitCount_7 ?_
  refine lv_lsub hx hb d_lo_bitCount_8 ?_
  refine lv_lstore_n (lv' := [(0, .long (zs - (((zs.toUInt64 >>> ((1 : Int32).toInt64.toUInt64 &&& Int64.toUInt64 63)).toInt64) &&& 6148914691236517205)))]) hx hb d_lo_bitCount_9 rfl hl (by decide) rfl (fun ls hl => ?_)
  refine lv_lload_n hx hb d_lo_bitCount_10 rfl (lv_at hl 0 rfl) ?_
  refine lv_ldc2 (v := 3689348814741910323) hx hb hown (hts _ kl_lo_316) d_lo_bitCount_11 ?_
  refine lv_land hx hb d_lo_bitCount_14 ?_
  refine lv_lload_n hx hb d_lo_bitCount_15 rfl (lv_at hl 0 rfl) ?_
  refine lv_iconst (v := 2) hx hb d_lo_bitCount_16 (by decide) ?_
  refine lv_lushr (v := ((zs - (((zs.toUInt64 >>> ((1 : Int32).toInt64.toUInt64 &&& Int64.toUInt64 63)).toInt64) &&& 6148914691236517205)).toUInt64 >>> ((2 : Int32).toInt64.toUInt64 &&& Int64.toUInt64 63)).toInt64) hx hb d_lo_bitCount_17 rfl ?_
  refine lv_ldc2 (v := 3689348814741910323) hx hb hown (hts _ kl_lo_316) d_lo_bitCount_18 ?_
  refine lv_land hx hb d_lo_bitCount_21 ?_
  refine lv_ladd hx hb d_lo_bitCount_22 ?_
  refine lv_lstore_n (lv' := [(0, .long (((zs - (((zs.toUInt64 >>> ((1 : Int32).toInt64.toUInt64 &&& Int64.toUInt64 63)).toInt64) &&& 6148914691236517205)) &&& 3689348814741910323) + ((((zs - (((zs.toUInt64 >>> ((1 : Int32).toInt64.toUInt64 &&& Int64.toUInt64 63)).toInt64) &&& 6148914691236517205)).toUInt64 >>> ((2 : Int32).toInt64.toUInt64 &&& Int64.toUInt64 63)).toInt64) &&& 3689348814741910323)))]) hx hb d_lo_bitCount_23 rfl hl (by decide) rfl (fun ls hl => ?_)
  refine lv_lload_n hx hb d_lo_bitCount_24 rfl (lv_at hl 0 rfl) ?_
  refine lv_lload_n hx hb d_lo_bitCount_25 rfl (lv_at hl 0 rfl) ?_
  refine lv_iconst (v := 4) hx hb d_lo_bitCount_26 (by decide) ?_
  refine lv_lushr (v := ((((zs - (((zs.toUInt64 >>> ((1 : Int32).toInt64.toUInt64 &&& Int64.toUInt64 63)).toInt64) &&& 6148914691236517205)) &&& 3689348814741910323) + ((((zs - (((zs.toUInt64 >>> ((1 : Int32).toInt64.toUInt64 &&& Int64.toUInt64 63)).toInt64) &&& 6148914691236517205)).toUInt64 >>> ((2 : Int32).toInt64.toUInt64 &&& Int64.toUInt64 63)).toInt64) &&& 3689348814741910323)).toUInt64 >>> ((4 : Int32).toInt64.toUInt64 &&& Int64.toUInt64 63)).toInt64) hx hb d_lo_bitCount_27 rfl ?_
  refine lv_ladd hx hb d_lo_bitCount_28 ?_
  refine lv_ldc2 (v := 1085102592571150095) hx hb hown (hts _ kl_lo_318) d_lo_bitCount_29 ?_
  refine lv_land hx hb d_lo_bitCount_32 ?_
  refine lv_lstore_n (lv' := [(0, .long (((((zs - (((zs.toUInt64 >>> ((1 : Int32).toInt64.toUInt64 &&& Int64.toUInt64 63)).toInt64) &&& 6148914691236517205)) &&& 3689348814741910323) + ((((zs - (((zs.toUInt64 >>> ((1 : Int32).toInt64.toUInt64 &&& Int64.toUInt64 63)).toInt64) &&& 6148914691236517205)).toUInt64 >>> ((2 : Int32).toInt64.toUInt64 &&& Int64.toUInt64 63)).toInt64) &&& 3689348814741910323)) + (((((zs - (((zs.toUInt64 >>> ((1 : Int32).toInt64.toUInt64 &&& Int64.toUInt64 63)).toInt64) &&& 6148914691236517205)) &&& 3689348814741910323) + ((((zs - (((zs.toUInt64 >>> ((1 : Int32).toInt64.toUInt64 &&& Int64.toUInt64 63)).toInt64) &&& 6148914691236517205)).toUInt64 >>> ((2 : Int32).toInt64.toUInt64 &&& Int64.toUInt64 63)).toInt64) &&& 3689348814741910323)).toUInt64 >>> ((4 : Int32).toInt64.toUInt64 &&& Int64.toUInt64 63)).toInt64)) &&& 1085102592571150095))]) hx hb d_lo_bitCount_33 rfl hl (by decide) rfl (fun ls hl => ?_)
  refine lv_lload_n hx hb d_lo_bitCount_34 rfl (lv_at hl 0 rfl) ?_
  refine lv_lload_n hx hb d_lo_bitCount_35 rfl (lv_at hl 0 rfl) ?_
  refine lv_bipush (v := 8) hx hb d_lo_bitCount_36 (by decide) ?_
  refine lv_lushr (v := ((((((zs - (((zs.toUInt64 >>> ((1 : Int32).toInt64.toUInt64 &&& Int64.toUInt64 63)).toInt64) &&& 6148914691236517205)) &&& 3689348814741910323) + ((((zs - (((zs.toUInt64 >>> ((1 : Int32).toInt64.toUInt64 &&& Int64.toUInt64 63)).toInt64) &&& 6148914691236517205)).toUInt64 >>> ((2 : Int32).toInt64.toUInt64 &&& Int64.toUInt64 63)).toInt64) &&& 3689348814741910323)) + (((((zs - (((zs.toUInt64 >>> ((1 : Int32).toInt64.toUInt64 &&& Int64.toUInt64 63)).toInt64) &&& 6148914691236517205)) &&& 3689348814741910323) + ((((zs - (((zs.toUInt64 >>> ((1 : Int32).toInt64.toUInt64 &&& Int64.toUInt64 63)).toInt64) &&& 6148914691236517205)).toUInt64 >>> ((2 : Int32).toInt64.toUInt64 &&& Int64.toUInt64 63)).toInt64) &&& 3689348814741910323)).toUInt64 >>> ((4 : Int32).toInt64.toUInt64 &&& Int64.toUInt64 63)).toInt64)) &&& 1085102592571150095).toUInt64 >>> ((8 : Int32).toInt64.toUInt64 &&& Int64.toUInt64 63)).toInt64) hx hb d_lo_bitCount_38 rfl ?_
  refine lv_ladd hx hb d_lo_bitCount_39 ?_
  refine lv_lstore_n (lv' := [(0, .long ((((((zs - (((zs.toUInt64 >>> ((1 : Int32).toInt64.toUInt64 &&& Int64.toUInt64 63)).toInt64) &&& 6148914691236517205)) &&& 3689348814741910323) + ((((zs - (((zs.toUInt64 >>> ((1 : Int32).toInt64.toUInt64 &&& Int64.toUInt64 63)).toInt64) &&& 6148914691236517205)).toUInt64 >>> ((2 : Int32).toInt64.toUInt64 &&& Int64.toUInt64 63)).toInt64) &&& 3689348814741910323)) + (((((zs - (((zs.toUInt64 >>> ((1 : Int32).toInt64.toUInt64 &&& Int64.toUInt64 63)).toInt64) &&& 6148914691236517205)) &&& 3689348814741910323) + ((((zs - (((zs.toUInt64 >>> ((1 : Int32).toInt64.toUInt64 &&& Int64.toUInt64 63)).toInt64) &&& 6148914691236517205)).toUInt64 >>> ((2 : Int32).toInt64.toUInt64 &&& Int64.toUInt64 63)).toInt64) &&& 3689348814741910323)).toUInt64 >>> ((4 : Int32).toInt64.toUInt64 &&& Int64.toUInt64 63)).toInt64)) &&& 1085102592571150095) + (((((((zs - (((zs.toUInt64 >>> ((1 : Int32).toInt64.toUInt64 &&& Int64.toUInt64 63)).toInt64) &&& 6148914691236517205)) &&& 3689348814741910323) + ((((zs - (((zs.toUInt64 >>> ((1 : Int32).toInt64.toUInt64 &&& Int64.toUInt64 63)).toInt64) &&& 6148914691236517205)).toUInt64 >>> ((2 : Int32).toInt64.toUInt64 &&& Int64.toUInt64 63)).toInt64) &&& 3689348814741910323)) + (((((zs - (((zs.toUInt64 >>> ((1 : Int32).toInt64.toUInt64 &&& Int64.toUInt64 63)).toInt64) &&& 6148914691236517205)) &&& 3689348814741910323) + ((((zs - (((zs.toUInt64 >>> ((1 : Int32).toInt64.toUInt64 &&& Int64.toUInt64 63)).toInt64) &&& 6148914691236517205)).toUInt64 >>> ((2 : Int32).toInt64.toUInt64 &&& Int64.toUInt64 63)).toInt64) &&& 3689348814741910323)).toUInt64 >>> ((4 : Int32).toInt64.toUInt64 &&& Int64.toUInt64 63)).toInt64)) &&& 1085102592571150095).toUInt64 >>> ((8 : Int32).toInt64.toUInt64 &&& Int64.toUInt64 63)).toInt64)))]) hx hb d_lo_bitCount_40 rfl hl (by decide) rfl (fun ls hl => ?_)
  refine lv_lload_n hx hb d_lo_bitCount_41 rfl (lv_at hl 0 rfl) ?_
  refine lv_lload_n hx hb d_lo_bitCount_42 rfl (lv_at hl 0 rfl) ?_
  refine lv_bipush (v := 16) hx hb d_lo_bitCount_43 (by decide) ?_
  refine lv_lushr (v := (((((((zs - (((zs.toUInt64 >>> ((1 : Int32).toInt64.toUInt64 &&& Int64.toUInt64 63)).toInt64) &&& 6148914691236517205)) &&& 3689348814741910323) + ((((zs - (((zs.toUInt64 >>> ((1 : Int32).toInt64.toUInt64 &&& Int64.toUInt64 63)).toInt64) &&& 6148914691236517205)).toUInt64 >>> ((2 : Int32).toInt64.toUInt64 &&& Int64.toUInt64 63)).toInt64) &&& 3689348814741910323)) + (((((zs - (((zs.toUInt64 >>> ((1 : Int32).toInt64.toUInt64 &&& Int64.toUInt64 63)).toInt64) &&& 6148914691236517205)) &&& 3689348814741910323) + ((((zs - (((zs.toUInt64 >>> ((1 : Int32).toInt64.toUInt64 &&& Int64.toUInt64 63)).toInt64) &&& 6148914691236517205)).toUInt64 >>> ((2 : Int32).toInt64.toUInt64 &&& Int64.toUInt64 63)).toInt64) &&& 3689348814741910323)).toUInt64 >>> ((4 : Int32).toInt64.toUInt64 &&& Int64.toUInt64 63)).toInt64)) &&& 1085102592571150095) + (((((((zs - (((zs.toUInt64 >>> ((1 : Int32).toInt64.toUInt64 &&& Int64.toUInt64 63)).toInt64) &&& 6148914691236517205)) &&& 3689348814741910323) + ((((zs - (((zs.toUInt64 >>> ((1 : Int32).toInt64.toUInt64 &&& Int64.toUInt64 63)).toInt64) &&& 6148914691236517205)).toUInt64 >>> ((2 : Int32).toInt64.toUInt64 &&& Int64.toUInt64 63)).toInt64) &&& 3689348814741910323)) + (((((zs - (((zs.toUInt64 >>> ((1 : Int32).toInt64.toUInt64 &&& Int64.toUInt64 63)).toInt64) &&& 6148914691236517205)) &&& 3689348814741910323) + ((((zs - (((zs.toUInt64 >>> ((1 : Int32).toInt64.toUInt64 &&& Int64.toUInt64 63)).toInt64) &&& 6148914691236517205)).toUInt64 >>> ((2 : Int32).toInt64.toUInt64 &&& Int64.toUInt64 63)).toInt64) &&& 3689348814741910323)).toUInt64 >>> ((4 : Int32).toInt64.toUInt64 &&& Int64.toUInt64 63)).toInt64)) &&& 1085102592571150095).toUInt64 >>> ((8 : Int32).toInt64.toUInt64 &&& Int64.toUInt64 63)).toInt64)).toUInt64 >>> ((16 : Int32).toInt64.toUInt64 &&& Int64.toUInt64 63)).toInt64) hx hb d_lo_bitCount_45 rfl ?_
  refine lv_ladd hx hb d_lo_bitCount_46 ?_
  refine lv_lstore_n (lv' := [(0, .long (((((((zs - (((zs.toUInt64 >>> ((1 : Int32).toInt64.toUInt64 &&& Int64.toUInt64 63)).toInt64) &&& 6148914691236517205)) &&& 3689348814741910323) + ((((zs - (((zs.toUInt64 >>> ((1 : Int32).toInt64.toUInt64 &&& Int64.toUInt64 63)).toInt64) &&& 6148914691236517205)).toUInt64 >>> ((2 : Int32).toInt64.toUInt64 &&& Int64.toUInt64 63)).toInt64) &&& 3689348814741910323)) + (((((zs - (((zs.toUInt64 >>> ((1 : Int32).toInt64.toUInt64 &&& Int64.toUInt64 63)).toInt64) &&& 6148914691236517205)) &&& 3689348814741910323) + ((((zs - (((zs.toUInt64 >>> ((1 : Int32).toInt64.toUInt64 &&& Int64.toUInt64 63)).toInt64) &&& 6148914691236517205)).toUInt64 >>> ((2 : Int32).toInt64.toUInt64 &&& Int64.toUInt64 63)).toInt64) &&& 3689348814741910323)).toUInt64 >>> ((4 : Int32).toInt64.toUInt64 &&& Int64.toUInt64 63)).toInt64)) &&& 1085102592571150095) + (((((((zs - (((zs.toUInt64 >>> ((1 : Int32).toInt64.toUInt64 &&& Int64.toUInt64 63)).toInt64) &&& 6148914691236517205)) &&& 3689348814741910323) + ((((zs - (((zs.toUInt64 >>> ((1 : Int32).toInt64.toUInt64 &&& Int64.toUInt64 63)).toInt64) &&& 6148914691236517205)).toUInt64 >>> ((2 : Int32).toInt64.toUInt64 &&& Int64.toUInt64 63)).toInt64) &&& 3689348814741910323)) + (((((zs - (((zs.toUInt64 >>> ((1 : Int32).toInt64.toUInt64 &&& Int64.toUInt64 63)).toInt64) &&& 6148914691236517205)) &&& 3689348814741910323) + ((((zs - (((zs.toUInt64 >>> ((1 : Int32).toInt64.toUInt64 &&& Int64.toUInt64 63)).toInt64) &&& 6148914691236517205)).toUInt64 >>> ((2 : Int32).toInt64.toUInt64 &&& Int64.toUInt64 63)).toInt64) &&& 3689348814741910323)).toUInt64 >>> ((4 : Int32).toInt64.toUInt64 &&& Int64.toUInt64 63)).toInt64)) &&& 1085102592571150095).toUInt64 >>> ((8 : Int32).toInt64.toUInt64 &&& Int64.toUInt64 63)).toInt64)) + ((((((((zs - (((zs.toUInt64 >>> ((1 : Int32).toInt64.toUInt64 &&& Int64.toUInt64 63)).toInt64) &&& 6148914691236517205)) &&& 3689348814741910323) + ((((zs - (((zs.toUInt64 >>> ((1 : Int32).toInt64.toUInt64 &&& Int64.toUInt64 63)).toInt64) &&& 6148914691236517205)).toUInt64 >>> ((2 : Int32).toInt64.toUInt64 &&& Int64.toUInt64 63)).toInt64) &&& 3689348814741910323)) + (((((zs - (((zs.toUInt64 >>> ((1 : Int32).toInt64.toUInt64 &&& Int64.toUInt64 63)).toInt64) &&& 6148914691236517205)) &&& 3689348814741910323) + ((((zs - (((zs.toUInt64 >>> ((1 : Int32).toInt64.toUInt64 &&& Int64.toUInt64 63)).toInt64) &&& 6148914691236517205)).toUInt64 >>> ((2 : Int32).toInt64.toUInt64 &&& Int64.toUInt64 63)).toInt64) &&& 3689348814741910323)).toUInt64 >>> ((4 : Int32).toInt64.toUInt64 &&& Int64.toUInt64 63)).toInt64)) &&& 1085102592571150095) + (((((((zs - (((zs.toUInt64 >>> ((1 : Int32).toInt64.toUInt64 &&& Int64.toUInt64 63)).toInt64) &&& 6148914691236517205)) &&& 3689348814741910323) + ((((zs - (((zs.toUInt64 >>> ((1 : Int32).toInt64.toUInt64 &&& Int64.toUInt64 63)).toInt64) &&& 6148914691236517205)).toUInt64 >>> ((2 : Int32).toInt64.toUInt64 &&& Int64.toUInt64 63)).toInt64) &&& 3689348814741910323)) + (((((zs - (((zs.toUInt64 >>> ((1 : Int32).toInt64.toUInt64 &&& Int64.toUInt64 63)).toInt64) &&& 6148914691236517205)) &&& 3689348814741910323) + ((((zs - (((zs.toUInt64 >>> ((1 : Int32).toInt64.toUInt64 &&& Int64.toUInt64 63)).toInt64) &&& 6148914691236517205)).toUInt64 >>> ((2 : Int32).toInt64.toUInt64 &&& Int64.toUInt64 63)).toInt64) &&& 3689348814741910323)).toUInt64 >>> ((4 : Int32).toInt64.toUInt64 &&& Int64.toUInt64 63)).toInt64)) &&& 1085102592571150095).toUInt64 >>> ((8 : Int32).toInt64.toUInt64 &&& Int64.toUInt64 63)).toInt64)).toUInt64 >>> ((16 : Int32).toInt64.toUInt64 &&& Int64.toUInt64 63)).toInt64)))]) hx hb d_lo_bitCount_47 rfl hl (by decide) rfl (fun ls hl => ?_)
  refine lv_lload_n hx hb d_lo_bitCount_48 rfl (lv_at hl 0 rfl) ?_
  refine lv_lload_n hx hb d_lo_bitCount_49 rfl (lv_at hl 0 rfl) ?_
  refine lv_bipush (v := 32) hx hb d_lo_bitCount_50 (by decide) ?_
  refine lv_lushr (v := ((((((((zs - (((zs.toUInt64 >>> ((1 : Int32).toInt64.toUInt64 &&& Int64.toUInt64 63)).toInt64) &&& 6148914691236517205)) &&& 3689348814741910323) + ((((zs - (((zs.toUInt64 >>> ((1 : Int32).toInt64.toUInt64 &&& Int64.toUInt64 63)).toInt64) &&& 6148914691236517205)).toUInt64 >>> ((2 : Int32).toInt64.toUInt64 &&& Int64.toUInt64 63)).toInt64) &&& 3689348814741910323)) + (((((zs - (((zs.toUInt64 >>> ((1 : Int32).toInt64.toUInt64 &&& Int64.toUInt64 63)).toInt64) &&& 6148914691236517205)) &&& 3689348814741910323) + ((((zs - (((zs.toUInt64 >>> ((1 : Int32).toInt64.toUInt64 &&& Int64.toUInt64 63)).toInt64) &&& 6148914691236517205)).toUInt64 >>> ((2 : Int32).toInt64.toUInt64 &&& Int64.toUInt64 63)).toInt64) &&& 3689348814741910323)).toUInt64 >>> ((4 : Int32).toInt64.toUInt64 &&& Int64.toUInt64 63)).toInt64)) &&& 1085102592571150095) + (((((((zs - (((zs.toUInt64 >>> ((1 : Int32).toInt64.toUInt64 &&& Int64.toUInt64 63)).toInt64) &&& 6148914691236517205)) &&& 3689348814741910323) + ((((zs - (((zs.toUInt64 >>> ((1 : Int32).toInt64.toUInt64 &&& Int64.toUInt64 63)).toInt64) &&& 6148914691236517205)).toUInt64 >>> ((2 : Int32).toInt64.toUInt64 &&& Int64.toUInt64 63)).toInt64) &&& 3689348814741910323)) + (((((zs - (((zs.toUInt64 >>> ((1 : Int32).toInt64.toUInt64 &&& Int64.toUInt64 63)).toInt64) &&& 6148914691236517205)) &&& 3689348814741910323) + ((((zs - (((zs.toUInt64 >>> ((1 : Int32).toInt64.toUInt64 &&& Int64.toUInt64 63)).toInt64) &&& 6148914691236517205)).toUInt64 >>> ((2 : Int32).toInt64.toUInt64 &&& Int64.toUInt64 63)).toInt64) &&& 3689348814741910323)).toUInt64 >>> ((4 : Int32).toInt64.toUInt64 &&& Int64.toUInt64 63)).toInt64)) &&& 1085102592571150095).toUInt64 >>> ((8 : Int32).toInt64.toUInt64 &&& Int64.toUInt64 63)).toInt64)) + ((((((((zs - (((zs.toUInt64 >>> ((1 : Int32).toInt64.toUInt64 &&& Int64.toUInt64 63)).toInt64) &&& 6148914691236517205)) &&& 3689348814741910323) + ((((zs - (((zs.toUInt64 >>> ((1 : Int32).toInt64.toUInt64 &&& Int64.toUInt64 63)).toInt64) &&& 6148914691236517205)).toUInt64 >>> ((2 : Int32).toInt64.toUInt64 &&& Int64.toUInt64 63)).toInt64) &&& 3689348814741910323)) + (((((zs - (((zs.toUInt64 >>> ((1 : Int32).toInt64.toUInt64 &&& Int64.toUInt64 63)).toInt64) &&& 6148914691236517205)) &&& 3689348814741910323) + ((((zs - (((zs.toUInt64 >>> ((1 : Int32).toInt64.toUInt64 &&& Int64.toUInt64 63)).toInt64) &&& 6148914691236517205)).toUInt64 >>> ((2 : Int32).toInt64.toUInt64 &&& Int64.toUInt64 63)).toInt64) &&& 3689348814741910323)).toUInt64 >>> ((4 : Int32).toInt64.toUInt64 &&& Int64.toUInt64 63)).toInt64)) &&& 1085102592571150095) + (((((((zs - (((zs.toUInt64 >>> ((1 : Int32).toInt64.toUInt64 &&& Int64.toUInt64 63)).toInt64) &&& 6148914691236517205)) &&& 3689348814741910323) + ((((zs - (((zs.toUInt64 >>> ((1 : Int32).toInt64.toUInt64 &&& Int64.toUInt64 63)).toInt64) &&& 6148914691236517205)).toUInt64 >>> ((2 : Int32).toInt64.toUInt64 &&& Int64.toUInt64 63)).toInt64) &&& 3689348814741910323)) + (((((zs - (((zs.toUInt64 >>> ((1 : Int32).toInt64.toUInt64 &&& Int64.toUInt64 63)).toInt64) &&& 6148914691236517205)) &&& 3689348814741910323) + ((((zs - (((zs.toUInt64 >>> ((1 : Int32).toInt64.toUInt64 &&& Int64.toUInt64 63)).toInt64) &&& 6148914691236517205)).toUInt64 >>> ((2 : Int32).toInt64.toUInt64 &&& Int64.toUInt64 63)).toInt64) &&& 3689348814741910323)).toUInt64 >>> ((4 : Int32).toInt64.toUInt64 &&& Int64.toUInt64 63)).toInt64)) &&& 1085102592571150095).toUInt64 >>> ((8 : Int32).toInt64.toUInt64 &&& Int64.toUInt64 63)).toInt64)).toUInt64 >>> ((16 : Int32).toInt64.toUInt64 &&& Int64.toUInt64 63)).toInt64)).toUInt64 >>> ((32 : Int32).toInt64.toUInt64 &&& Int64.toUInt64 63)).toInt64) hx hb d_lo_bitCount_52 rfl ?_
  refine lv_ladd hx hb d_lo_bitCount_53 ?_
  refine lv_lstore_n (lv' := [(0, .long ((((((((zs - (((zs.toUInt64 >>> ((1 : Int32).toInt64.toUInt64 &&& Int64.toUInt64 63)).toInt64) &&& 6148914691236517205)) &&& 3689348814741910323) + ((((zs - (((zs.toUInt64 >>> ((1 : Int32).toInt64.toUInt64 &&& Int64.toUInt64 63)).toInt64) &&& 6148914691236517205)).toUInt64 >>> ((2 : Int32).toInt64.toUInt64 &&& Int64.toUInt64 63)).toInt64) &&& 3689348814741910323)) + (((((zs - (((zs.toUInt64 >>> ((1 : Int32).toInt64.toUInt64 &&& Int64.toUInt64 63)).toInt64) &&& 6148914691236517205)) &&& 3689348814741910323) + ((((zs - (((zs.toUInt64 >>> ((1 : Int32).toInt64.toUInt64 &&& Int64.toUInt64 63)).toInt64) &&& 6148914691236517205)).toUInt64 >>> ((2 : Int32).toInt64.toUInt64 &&& Int64.toUInt64 63)).toInt64) &&& 3689348814741910323)).toUInt64 >>> ((4 : Int32).toInt64.toUInt64 &&& Int64.toUInt64 63)).toInt64)) &&& 1085102592571150095) + (((((((zs - (((zs.toUInt64 >>> ((1 : Int32).toInt64.toUInt64 &&& Int64.toUInt64 63)).toInt64) &&& 6148914691236517205)) &&& 3689348814741910323) + ((((zs - (((zs.toUInt64 >>> ((1 : Int32).toInt64.toUInt64 &&& Int64.toUInt64 63)).toInt64) &&& 6148914691236517205)).toUInt64 >>> ((2 : Int32).toInt64.toUInt64 &&& Int64.toUInt64 63)).toInt64) &&& 3689348814741910323)) + (((((zs - (((zs.toUInt64 >>> ((1 : Int32).toInt64.toUInt64 &&& Int64.toUInt64 63)).toInt64) &&& 6148914691236517205)) &&& 3689348814741910323) + ((((zs - (((zs.toUInt64 >>> ((1 : Int32).toInt64.toUInt64 &&& Int64.toUInt64 63)).toInt64) &&& 6148914691236517205)).toUInt64 >>> ((2 : Int32).toInt64.toUInt64 &&& Int64.toUInt64 63)).toInt64) &&& 3689348814741910323)).toUInt64 >>> ((4 : Int32).toInt64.toUInt64 &&& Int64.toUInt64 63)).toInt64)) &&& 1085102592571150095).toUInt64 >>> ((8 : Int32).toInt64.toUInt64 &&& Int64.toUInt64 63)).toInt64)) + ((((((((zs - (((zs.toUInt64 >>> ((1 : Int32).toInt64.toUInt64 &&& Int64.toUInt64 63)).toInt64) &&& 6148914691236517205)) &&& 3689348814741910323) + ((((zs - (((zs.toUInt64 >>> ((1 : Int32).toInt64.toUInt64 &&& Int64.toUInt64 63)).toInt64) &&& 6148914691236517205)).toUInt64 >>> ((2 : Int32).toInt64.toUInt64 &&& Int64.toUInt64 63)).toInt64) &&& 3689348814741910323)) + (((((zs - (((zs.toUInt64 >>> ((1 : Int32).toInt64.toUInt64 &&& Int64.toUInt64 63)).toInt64) &&& 6148914691236517205)) &&& 3689348814741910323) + ((((zs - (((zs.toUInt64 >>> ((1 : Int32).toInt64.toUInt64 &&& Int64.toUInt64 63)).toInt64) &&& 6148914691236517205)).toUInt64 >>> ((2 : Int32).toInt64.toUInt64 &&& Int64.toUInt64 63)).toInt64) &&& 3689348814741910323)).toUInt64 >>> ((4 : Int32).toInt64.toUInt64 &&& Int64.toUInt64 63)).toInt64)) &&& 1085102592571150095) + (((((((zs - (((zs.toUInt64 >>> ((1 : Int32).toInt64.toUInt64 &&& Int64.toUInt64 63)).toInt64) &&& 6148914691236517205)) &&& 3689348814741910323) + ((((zs - (((zs.toUInt64 >>> ((1 : Int32).toInt64.toUInt64 &&& Int64.toUInt64 63)).toInt64) &&& 6148914691236517205)).toUInt64 >>> ((2 : Int32).toInt64.toUInt64 &&& Int64.toUInt64 63)).toInt64) &&& 3689348814741910323)) + (((((zs - (((zs.toUInt64 >>> ((1 : Int32).toInt64.toUInt64 &&& Int64.toUInt64 63)).toInt64) &&& 6148914691236517205)) &&& 3689348814741910323) + ((((zs - (((zs.toUInt64 >>> ((1 : Int32).toInt64.toUInt64 &&& Int64.toUInt64 63)).toInt64) &&& 6148914691236517205)).toUInt64 >>> ((2 : Int32).toInt64.toUInt64 &&& Int64.toUInt64 63)).toInt64) &&& 3689348814741910323)).toUInt64 >>> ((4 : Int32).toInt64.toUInt64 &&& Int64.toUInt64 63)).toInt64)) &&& 1085102592571150095).toUInt64 >>> ((8 : Int32).toInt64.toUInt64 &&& Int64.toUInt64 63)).toInt64)).toUInt64 >>> ((16 : Int32).toInt64.toUInt64 &&& Int64.toUInt64 63)).toInt64)) + (((((((((zs - (((zs.toUInt64 >>> ((1 : Int32).toInt64.toUInt64 &&& Int64.toUInt64 63)).toInt64) &&& 6148914691236517205)) &&& 3689348814741910323) + ((((zs - (((zs.toUInt64 >>> ((1 : Int32).toInt64.toUInt64 &&& Int64.toUInt64 63)).toInt64) &&& 6148914691236517205)).toUInt64 >>> ((2 : Int32).toInt64.toUInt64 &&& Int64.toUInt64 63)).toInt64) &&& 3689348814741910323)) + (((((zs - (((zs.toUInt64 >>> ((1 : Int32).toInt64.toUInt64 &&& Int64.toUInt64 63)).toInt64) &&& 6148914691236517205)) &&& 3689348814741910323) + ((((zs - (((zs.toUInt64 >>> ((1 : Int32).toInt64.toUInt64 &&& Int64.toUInt64 63)).toInt64) &&& 6148914691236517205)).toUInt64 >>> ((2 : Int32).toInt64.toUInt64 &&& Int64.toUInt64 63)).toInt64) &&& 3689348814741910323)).toUInt64 >>> ((4 : Int32).toInt64.toUInt64 &&& Int64.toUInt64 63)).toInt64)) &&& 1085102592571150095) + (((((((zs - (((zs.toUInt64 >>> ((1 : Int32).toInt64.toUInt64 &&& Int64.toUInt64 63)).toInt64) &&& 6148914691236517205)) &&& 3689348814741910323) + ((((zs - (((zs.toUInt64 >>> ((1 : Int32).toInt64.toUInt64 &&& Int64.toUInt64 63)).toInt64) &&& 6148914691236517205)).toUInt64 >>> ((2 : Int32).toInt64.toUInt64 &&& Int64.toUInt64 63)).toInt64) &&& 3689348814741910323)) + (((((zs - (((zs.toUInt64 >>> ((1 : Int32).toInt64.toUInt64 &&& Int64.toUInt64 63)).toInt64) &&& 6148914691236517205)) &&& 3689348814741910323) + ((((zs - (((zs.toUInt64 >>> ((1 : Int32).toInt64.toUInt64 &&& Int64.toUInt64 63)).toInt64) &&& 6148914691236517205)).toUInt64 >>> ((2 : Int32).toInt64.toUInt64 &&& Int64.toUInt64 63)).toInt64) &&& 3689348814741910323)).toUInt64 >>> ((4 : Int32).toInt64.toUInt64 &&& Int64.toUInt64 63)).toInt64)) &&& 1085102592571150095).toUInt64 >>> ((8 : Int32).toInt64.toUInt64 &&& Int64.toUInt64 63)).toInt64)) + ((((((((zs - (((zs.toUInt64 >>> ((1 : Int32).toInt64.toUInt64 &&& Int64.toUInt64 63)).toInt64) &&& 6148914691236517205)) &&& 3689348814741910323) + ((((zs - (((zs.toUInt64 >>> ((1 : Int32).toInt64.toUInt64 &&& Int64.toUInt64 63)).toInt64) &&& 6148914691236517205)).toUInt64 >>> ((2 : Int32).toInt64.toUInt64 &&& Int64.toUInt64 63)).toInt64) &&& 3689348814741910323)) + (((((zs - (((zs.toUInt64 >>> ((1 : Int32).toInt64.toUInt64 &&& Int64.toUInt64 63)).toInt64) &&& 6148914691236517205)) &&& 3689348814741910323) + ((((zs - (((zs.toUInt64 >>> ((1 : Int32).toInt64.toUInt64 &&& Int64.toUInt64 63)).toInt64) &&& 6148914691236517205)).toUInt64 >>> ((2 : Int32).toInt64.toUInt64 &&& Int64.toUInt64 63)).toInt64) &&& 3689348814741910323)).toUInt64 >>> ((4 : Int32).toInt64.toUInt64 &&& Int64.toUInt64 63)).toInt64)) &&& 1085102592571150095) + (((((((zs - (((zs.toUInt64 >>> ((1 : Int32).toInt64.toUInt64 &&& Int64.toUInt64 63)).toInt64) &&& 6148914691236517205)) &&& 3689348814741910323) + ((((zs - (((zs.toUInt64 >>> ((1 : Int32).toInt64.toUInt64 &&& Int64.toUInt64 63)).toInt64) &&& 6148914691236517205)).toUInt64 >>> ((2 : Int32).toInt64.toUInt64 &&& Int64.toUInt64 63)).toInt64) &&& 3689348814741910323)) + (((((zs - (((zs.toUInt64 >>> ((1 : Int32).toInt64.toUInt64 &&& Int64.toUInt64 63)).toInt64) &&& 6148914691236517205)) &&& 3689348814741910323) + ((((zs - (((zs.toUInt64 >>> ((1 : Int32).toInt64.toUInt64 &&& Int64.toUInt64 63)).toInt64) &&& 6148914691236517205)).toUInt64 >>> ((2 : Int32).toInt64.toUInt64 &&& Int64.toUInt64 63)).toInt64) &&& 3689348814741910323)).toUInt64 >>> ((4 : Int32).toInt64.toUInt64 &&& Int64.toUInt64 63)).toInt64)) &&& 1085102592571150095).toUInt64 >>> ((8 : Int32).toInt64.toUInt64 &&& Int64.toUInt64 63)).toInt64)).toUInt64 >>> ((16 : Int32).toInt64.toUInt64 &&& Int64.toUInt64 63)).toInt64)).toUInt64 >>> ((32 : Int32).toInt64.toUInt64 &&& Int64.toUInt64 63)).toInt64)))]) hx hb d_lo_bitCount_54 rfl hl (by decide) rfl (fun ls hl => ?_)
  refine lv_lload_n hx hb d_lo_bitCount_55 rfl (lv_at hl 0 rfl) ?_
  refine lv_l2i (v := ((((((((zs - (((zs.toUInt64 >>> ((1 : Int32).toInt64.toUInt64 &&& Int64.toUInt64 63)).toInt64) &&& 6148914691236517205)) &&& 3689348814741910323) + ((((zs - (((zs.toUInt64 >>> ((1 : Int32).toInt64.toUInt64 &&& Int64.toUInt64 63)).toInt64) &&& 6148914691236517205)).toUInt64 >>> ((2 : Int32).toInt64.toUInt64 &&& Int64.toUInt64 63)).toInt64) &&& 3689348814741910323)) + (((((zs - (((zs.toUInt64 >>> ((1 : Int32).toInt64.toUInt64 &&& Int64.toUInt64 63)).toInt64) &&& 6148914691236517205)) &&& 3689348814741910323) + ((((zs - (((zs.toUInt64 >>> ((1 : Int32).toInt64.toUInt64 &&& Int64.toUInt64 63)).toInt64) &&& 6148914691236517205)).toUInt64 >>> ((2 : Int32).toInt64.toUInt64 &&& Int64.toUInt64 63)).toInt64) &&& 3689348814741910323)).toUInt64 >>> ((4 : Int32).toInt64.toUInt64 &&& Int64.toUInt64 63)).toInt64)) &&& 1085102592571150095) + (((((((zs - (((zs.toUInt64 >>> ((1 : Int32).toInt64.toUInt64 &&& Int64.toUInt64 63)).toInt64) &&& 6148914691236517205)) &&& 3689348814741910323) + ((((zs - (((zs.toUInt64 >>> ((1 : Int32).toInt64.toUInt64 &&& Int64.toUInt64 63)).toInt64) &&& 6148914691236517205)).toUInt64 >>> ((2 : Int32).toInt64.toUInt64 &&& Int64.toUInt64 63)).toInt64) &&& 3689348814741910323)) + (((((zs - (((zs.toUInt64 >>> ((1 : Int32).toInt64.toUInt64 &&& Int64.toUInt64 63)).toInt64) &&& 6148914691236517205)) &&& 3689348814741910323) + ((((zs - (((zs.toUInt64 >>> ((1 : Int32).toInt64.toUInt64 &&& Int64.toUInt64 63)).toInt64) &&& 6148914691236517205)).toUInt64 >>> ((2 : Int32).toInt64.toUInt64 &&& Int64.toUInt64 63)).toInt64) &&& 3689348814741910323)).toUInt64 >>> ((4 : Int32).toInt64.toUInt64 &&& Int64.toUInt64 63)).toInt64)) &&& 1085102592571150095).toUInt64 >>> ((8 : Int32).toInt64.toUInt64 &&& Int64.toUInt64 63)).toInt64)) + ((((((((zs - (((zs.toUInt64 >>> ((1 : Int32).toInt64.toUInt64 &&& Int64.toUInt64 63)).toInt64) &&& 6148914691236517205)) &&& 3689348814741910323) + ((((zs - (((zs.toUInt64 >>> ((1 : Int32).toInt64.toUInt64 &&& Int64.toUInt64 63)).toInt64) &&& 6148914691236517205)).toUInt64 >>> ((2 : Int32).toInt64.toUInt64 &&& Int64.toUInt64 63)).toInt64) &&& 3689348814741910323)) + (((((zs - (((zs.toUInt64 >>> ((1 : Int32).toInt64.toUInt64 &&& Int64.toUInt64 63)).toInt64) &&& 6148914691236517205)) &&& 3689348814741910323) + ((((zs - (((zs.toUInt64 >>> ((1 : Int32).toInt64.toUInt64 &&& Int64.toUInt64 63)).toInt64) &&& 6148914691236517205)).toUInt64 >>> ((2 : Int32).toInt64.toUInt64 &&& Int64.toUInt64 63)).toInt64) &&& 3689348814741910323)).toUInt64 >>> ((4 : Int32).toInt64.toUInt64 &&& Int64.toUInt64 63)).toInt64)) &&& 1085102592571150095) + (((((((zs - (((zs.toUInt64 >>> ((1 : Int32).toInt64.toUInt64 &&& Int64.toUInt64 63)).toInt64) &&& 6148914691236517205)) &&& 3689348814741910323) + ((((zs - (((zs.toUInt64 >>> ((1 : Int32).toInt64.toUInt64 &&& Int64.toUInt64 63)).toInt64) &&& 6148914691236517205)).toUInt64 >>> ((2 : Int32).toInt64.toUInt64 &&& Int64.toUInt64 63)).toInt64) &&& 3689348814741910323)) + (((((zs - (((zs.toUInt64 >>> ((1 : Int32).toInt64.toUInt64 &&& Int64.toUInt64 63)).toInt64) &&& 6148914691236517205)) &&& 3689348814741910323) + ((((zs - (((zs.toUInt64 >>> ((1 : Int32).toInt64.toUInt64 &&& Int64.toUInt64 63)).toInt64) &&& 6148914691236517205)).toUInt64 >>> ((2 : Int32).toInt64.toUInt64 &&& Int64.toUInt64 63)).toInt64) &&& 3689348814741910323)).toUInt64 >>> ((4 : Int32).toInt64.toUInt64 &&& Int64.toUInt64 63)).toInt64)) &&& 1085102592571150095).toUInt64 >>> ((8 : Int32).toInt64.toUInt64 &&& Int64.toUInt64 63)).toInt64)).toUInt64 >>> ((16 : Int32).toInt64.toUInt64 &&& Int64.toUInt64 63)).toInt64)) + (((((((((zs - (((zs.toUInt64 >>> ((1 : Int32).toInt64.toUInt64 &&& Int64.toUInt64 63)).toInt64) &&& 6148914691236517205)) &&& 3689348814741910323) + ((((zs - (((zs.toUInt64 >>> ((1 : Int32).toInt64.toUInt64 &&& Int64.toUInt64 63)).toInt64) &&& 6148914691236517205)).toUInt64 >>> ((2 : Int32).toInt64.toUInt64 &&& Int64.toUInt64 63)).toInt64) &&& 3689348814741910323)) + (((((zs - (((zs.toUInt64 >>> ((1 : Int32).toInt64.toUInt64 &&& Int64.toUInt64 63)).toInt64) &&& 6148914691236517205)) &&& 3689348814741910323) + ((((zs - (((zs.toUInt64 >>> ((1 : Int32).toInt64.toUInt64 &&& Int64.toUInt64 63)).toInt64) &&& 6148914691236517205)).toUInt64 >>> ((2 : Int32).toInt64.toUInt64 &&& Int64.toUInt64 63)).toInt64) &&& 3689348814741910323)).toUInt64 >>> ((4 : Int32).toInt64.toUInt64 &&& Int64.toUInt64 63)).toInt64)) &&& 1085102592571150095) + (((((((zs - (((zs.toUInt64 >>> ((1 : Int32).toInt64.toUInt64 &&& Int64.toUInt64 63)).toInt64) &&& 6148914691236517205)) &&& 3689348814741910323) + ((((zs - (((zs.toUInt64 >>> ((1 : Int32).toInt64.toUInt64 &&& Int64.toUInt64 63)).toInt64) &&& 6148914691236517205)).toUInt64 >>> ((2 : Int32).toInt64.toUInt64 &&& Int64.toUInt64 63)).toInt64) &&& 3689348814741910323)) + (((((zs - (((zs.toUInt64 >>> ((1 : Int32).toInt64.toUInt64 &&& Int64.toUInt64 63)).toInt64) &&& 6148914691236517205)) &&& 3689348814741910323) + ((((zs - (((zs.toUInt64 >>> ((1 : Int32).toInt64.toUInt64 &&& Int64.toUInt64 63)).toInt64) &&& 6148914691236517205)).toUInt64 >>> ((2 : Int32).toInt64.toUInt64 &&& Int64.toUInt64 63)).toInt64) &&& 3689348814741910323)).toUInt64 >>> ((4 : Int32).toInt64.toUInt64 &&& Int64.toUInt64 63)).toInt64)) &&& 1085102592571150095).toUInt64 >>> ((8 : Int32).toInt64.toUInt64 &&& Int64.toUInt64 63)).toInt64)) + ((((((((zs - (((zs.toUInt64 >>> ((1 : Int32).toInt64.toUInt64 &&& Int64.toUInt64 63)).toInt64) &&& 6148914691236517205)) &&& 3689348814741910323) + ((((zs - (((zs.toUInt64 >>> ((1 : Int32).toInt64.toUInt64 &&& Int64.toUInt64 63)).toInt64) &&& 6148914691236517205)).toUInt64 >>> ((2 : Int32).toInt64.toUInt64 &&& Int64.toUInt64 63)).toInt64) &&& 3689348814741910323)) + (((((zs - (((zs.toUInt64 >>> ((1 : Int32).toInt64.toUInt64 &&& Int64.toUInt64 63)).toInt64) &&& 6148914691236517205)) &&& 3689348814741910323) + ((((zs - (((zs.toUInt64 >>> ((1 : Int32).toInt64.toUInt64 &&& Int64.toUInt64 63)).toInt64) &&& 6148914691236517205)).toUInt64 >>> ((2 : Int32).toInt64.toUInt64 &&& Int64.toUInt64 63)).toInt64) &&& 3689348814741910323)).toUInt64 >>> ((4 : Int32).toInt64.toUInt64 &&& Int64.toUInt64 63)).toInt64)) &&& 1085102592571150095) + (((((((zs - (((zs.toUInt64 >>> ((1 : Int32).toInt64.toUInt64 &&& Int64.toUInt64 63)).toInt64) &&& 6148914691236517205)) &&& 3689348814741910323) + ((((zs - (((zs.toUInt64 >>> ((1 : Int32).toInt64.toUInt64 &&& Int64.toUInt64 63)).toInt64) &&& 6148914691236517205)).toUInt64 >>> ((2 : Int32).toInt64.toUInt64 &&& Int64.toUInt64 63)).toInt64) &&& 3689348814741910323)) + (((((zs - (((zs.toUInt64 >>> ((1 : Int32).toInt64.toUInt64 &&& Int64.toUInt64 63)).toInt64) &&& 6148914691236517205)) &&& 3689348814741910323) + ((((zs - (((zs.toUInt64 >>> ((1 : Int32).toInt64.toUInt64 &&& Int64.toUInt64 63)).toInt64) &&& 6148914691236517205)).toUInt64 >>> ((2 : Int32).toInt64.toUInt64 &&& Int64.toUInt64 63)).toInt64) &&& 3689348814741910323)).toUInt64 >>> ((4 : Int32).toInt64.toUInt64 &&& Int64.toUInt64 63)).toInt64)) &&& 1085102592571150095).toUInt64 >>> ((8 : Int32).toInt64.toUInt64 &&& Int64.toUInt64 63)).toInt64)).toUInt64 >>> ((16 : Int32).toInt64.toUInt64 &&& Int64.toUInt64 63)).toInt64)).toUInt64 >>> ((32 : Int32).toInt64.toUInt64 &&& Int64.toUInt64 63)).toInt64)).toInt32) hx hb d_lo_bitCount_56 rfl ?_
  refine lv_bipush (v := 127) hx hb d_lo_bitCount_57 (by decide) ?_
  refine lv_iand hx hb d_lo_bitCount_59 ?_
  exact ro_iret FX (by rw [f_lo_bitCount]) d_lo_bitCount_60
theorem d_x_isNumber_0 : decode b_x_isNumber 0 = .ok (.iload_n 0, 1) := by decide +kernel
theorem d_x_isNumber_1 : decode b_x_isNumber 1 = .ok (.ifCond .lt 13, 3) := by decide +kernel
theorem d_x_isNumber_4 : decode b_x_isNumber 4 = .ok (.iload_n 0, 1) := by decide +kernel
theorem d_x_isNumber_5 : decode b_x_isNumber 5 = .ok (.bipush 40, 2) := by decide +kernel
theorem d_x_isNumber_7 : decode b_x_isNumber 7 = .ok (.if_icmp .ge 7, 3) := by decide +kernel
theorem d_x_isNumber_10 : decode b_x_isNumber 10 = .ok (.iconst 1, 1) := by decide +kernel
theorem d_x_isNumber_11 : decode b_x_isNumber 11 = .ok (.goto 4, 3) := by decide +kernel
theorem d_x_isNumber_14 : decode b_x_isNumber 14 = .ok (.iconst 0, 1) := by decide +kernel
theorem d_x_isNumber_15 : decode b_x_isNumber 15 = .ok (.ireturn, 1) := by decide +kernel
def f_x_isNumber (nu : Int32) : Bool := if nu < 0 then
    (false)
  else
    (if 40 ≤ nu then
      (false)
    else
      (true))
set_option maxHeartbeats 4000000 in
set_option maxRecDepth 100000 in
theorem c_x_isNumber (l : Launch) (D : va_G) (cA : Nat → ClassId) (nu : Int32) : Met l y_x_isNumber (.code y_x_isNumber b_x_isNumber 1 (some .boolean) :: tb) (rmd 0) (Pro D cA [.int nu] (fun _ => True)) (Qro (.int (bz (f_x_isNumber nu)))) 0 0 nof := by
  refine ro_in (by decide) (Nat.le_of_ble_eq_true rfl) (fun p e s m below meth c ls FX hnm hK hP hl => ?_)
  have hl : lv_has ls 1 [(0, .int nu)] := hl
  generalize ([.int nu] : List Value).toArray = args at FX ⊢
  obtain ⟨hx, hb, hml, hown, hts, hr, hlk⟩ := id FX
  refine lv_iload_n hx hb d_x_isNumber_0 rfl (lv_at hl 0 rfl) ?_
  refine lv_if_lt (tgt := 14) hx hb d_x_isNumber_1 (by decide) (fun c1 => ?_) (fun c1 => ?_)
  · have c1 := c1
    refine lv_iconst (v := 0) hx hb d_x_isNumber_14 (by decide) ?_
    exact ro_zret FX (by rw [f_x_isNumber, if_pos c1] <;> rfl) d_x_isNumber_15
  · have c1 := c1
    refine lv_iload_n hx hb d_x_isNumber_4 rfl (lv_at hl 0 rfl) ?_
    refine lv_bipush (v := 40) hx hb d_x_isNumber_5 (by decide) ?_
    refine lv_icmp_ge (tgt := 14) hx hb d_x_isNumber_7 (by decide) (fun c2 => ?_) (fun c2 => ?_)
    · have c2 := c2
      refine lv_iconst (v := 0) hx hb d_x_isNumber_14 (by decide) ?_
      exact ro_zret FX (by rw [f_x_isNumber, if_neg c1, if_pos c2] <;> rfl) d_x_isNumber_15
    · have c2 := c2
      refine lv_iconst (v := 1) hx hb d_x_isNumber_10 (by decide) ?_
      refine lv_goto (tgt := 15) hx hb d_x_isNumber_11 (by decide) ?_
      exact ro_zret FX (by rw [f_x_isNumber, if_neg c1, if_neg c2] <;> rfl) d_x_isNumber_15
theorem d_x_only_0 : decode b_x_only 0 = .ok (.iload_n 0, 1) := by decide +kernel
theorem d_x_only_1 : decode b_x_only 1 = .ok (.invokestatic 130, 3) := by decide +kernel
theorem d_x_only_4 : decode b_x_only 4 = .ok (.ifCond .eq 9, 3) := by decide +kernel
theorem d_x_only_7 : decode b_x_only 7 = .ok (.lconst 1, 1) := by decide +kernel
theorem d_x_only_8 : decode b_x_only 8 = .ok (.iload_n 0, 1) := by decide +kernel
theorem d_x_only_9 : decode b_x_only 9 = .ok (.lshl, 1) := by decide +kernel
theorem d_x_only_10 : decode b_x_only 10 = .ok (.goto 4, 3) := by decide +kernel
theorem d_x_only_13 : decode b_x_only 13 = .ok (.lconst 0, 1) := by decide +kernel
theorem d_x_only_14 : decode b_x_only 14 = .ok (.lreturn, 1) := by decide +kernel
def f_x_only (nu : Int32) : Int64 := if (f_x_isNumber nu) = true then
    (1 <<< (nu.toInt64 &&& 63))
  else
    (0)
set_option maxHeartbeats 4000000 in
set_option maxRecDepth 100000 in
theorem c_x_only (l : Launch) (D : va_G) (cA : Nat → ClassId) (nu : Int32) : Met l y_x_only (.code y_x_only b_x_only 1 (some .long) :: tb) (rmd 1) (Pro D cA [.int nu] (fun _ => True)) (Qro (.long (f_x_only nu))) 0 0 nof := by
  refine ro_in (by decide) (Nat.le_of_ble_eq_true rfl) (fun p e s m below meth c ls FX hnm hK hP hl => ?_)
  have hl : lv_has ls 1 [(0, .int nu)] := hl
  generalize ([.int nu] : List Value).toArray = args at FX ⊢
  obtain ⟨hx, hb, hml, hown, hts, hr, hlk⟩ := id FX
  refine lv_iload_n hx hb d_x_only_0 rfl (lv_at hl 0 rfl) ?_
  refine ro_S (v := .int (bz (f_x_isNumber nu))) (As := [.int nu]) (rest := []) FX hK (c_x_isNumber l D cA nu) trivial kc_x_isNumber km_x_130 ki_x ks_x_isNumber rfl ok_x_isNumber ⟨Nat.le_of_ble_eq_true rfl, Nat.le_of_ble_eq_true rfl⟩ ⟨Nat.zero_le _, Nat.zero_le _⟩ hl.1 rfl (Nat.le_of_ble_eq_true rfl) d_x_only_1 ?_
  refine lv_if_eq (tgt := 13) hx hb d_x_only_4 (by decide) (fun c1 => ?_) (fun c1 => ?_)
  · have c1 := bz_f c1
    refine lv_lconst (v := 0) hx hb d_x_only_13 (by decide) ?_
    exact ro_lret FX (by rw [f_x_only, if_neg c1]) d_x_only_14
  · have c1 := bz_t c1
    refine lv_lconst (v := 1) hx hb d_x_only_7 (by decide) ?_
    refine lv_iload_n hx hb d_x_only_8 rfl (lv_at hl 0 rfl) ?_
    refine lv_lshl (v := 1 <<< (nu.toInt64 &&& 63)) hx hb d_x_only_9 rfl ?_
    refine lv_goto (tgt := 14) hx hb d_x_only_10 (by decide) ?_
    exact ro_lret FX (by rw [f_x_only, if_pos c1]) d_x_only_14
theorem d_x_contains_0 : decode b_x_contains 0 = .ok (.iload_n 2, 1) := by decide +kernel
theorem d_x_contains_1 : decode b_x_contains 1 = .ok (.invokestatic 130, 3) := by decide +kernel
theorem d_x_contains_4 : decode b_x_contains 4 = .ok (.ifCond .eq 17, 3) := by decide +kernel
theorem d_x_contains_7 : decode b_x_contains 7 = .ok (.lload_n 0, 1) := by decide +kernel
theorem d_x_contains_8 : decode b_x_contains 8 = .ok (.iload_n 2, 1) := by decide +kernel
theorem d_x_contains_9 : decode b_x_contains 9 = .ok (.lushr, 1) := by decide +kernel
theorem d_x_contains_10 : decode b_x_contains 10 = .ok (.lconst 1, 1) := by decide +kernel
theorem d_x_contains_11 : decode b_x_contains 11 = .ok (.land, 1) := by decide +kernel
theorem d_x_contains_12 : decode b_x_contains 12 = .ok (.lconst 0, 1) := by decide +kernel
theorem d_x_contains_13 : decode b_x_contains 13 = .ok (.lcmp, 1) := by decide +kernel
theorem d_x_contains_14 : decode b_x_contains 14 = .ok (.ifCond .eq 7, 3) := by decide +kernel
theorem d_x_contains_17 : decode b_x_contains 17 = .ok (.iconst 1, 1) := by decide +kernel
theorem d_x_contains_18 : decode b_x_contains 18 = .ok (.goto 4, 3) := by decide +kernel
theorem d_x_contains_21 : decode b_x_contains 21 = .ok (.iconst 0, 1) := by decide +kernel
theorem d_x_contains_22 : decode b_x_contains 22 = .ok (.ireturn, 1) := by decide +kernel
def f_x_contains (zs : Int64) (nu : Int32) : Bool := if (f_x_isNumber nu) = true then
    (if (((zs.toUInt64 >>> (nu.toInt64.toUInt64 &&& Int64.toUInt64 63)).toInt64) &&& 1) = 0 then
      (false)
    else
      (true))
  else
    (false)
set_option maxHeartbeats 4000000 in
set_option maxRecDepth 100000 in
theorem c_x_contains (l : Launch) (D : va_G) (cA : Nat → ClassId) (zs : Int64) (nu : Int32) : Met l y_x_contains (.code y_x_contains b_x_contains 3 (some .boolean) :: tb) (rmd 1) (Pro D cA [.long zs, .int nu] (fun _ => True)) (Qro (.int (bz (f_x_contains zs nu)))) 0 0 nof := by
  refine ro_in (by decide) (Nat.le_of_ble_eq_true rfl) (fun p e s m below meth c ls FX hnm hK hP hl => ?_)
  have hl : lv_has ls 3 [(0, .long zs), (2, .int nu)] := hl
  generalize ([.long zs, .int nu] : List Value).toArray = args at FX ⊢
  obtain ⟨hx, hb, hml, hown, hts, hr, hlk⟩ := id FX
  refine lv_iload_n hx hb d_x_contains_0 rfl (lv_at hl 1 rfl) ?_
  refine ro_S (v := .int (bz (f_x_isNumber nu))) (As := [.int nu]) (rest := []) FX hK (c_x_isNumber l D cA nu) trivial kc_x_isNumber km_x_130 ki_x ks_x_isNumber rfl ok_x_isNumber ⟨Nat.le_of_ble_eq_true rfl, Nat.le_of_ble_eq_true rfl⟩ ⟨Nat.zero_le _, Nat.zero_le _⟩ hl.1 rfl (Nat.le_of_ble_eq_true rfl) d_x_contains_1 ?_
  refine lv_if_eq (tgt := 21) hx hb d_x_contains_4 (by decide) (fun c1 => ?_) (fun c1 => ?_)
  · have c1 := bz_f c1
    refine lv_iconst (v := 0) hx hb d_x_contains_21 (by decide) ?_
    exact ro_zret FX (by rw [f_x_contains, if_neg c1] <;> rfl) d_x_contains_22
  · have c1 := bz_t c1
    refine lv_lload_n hx hb d_x_contains_7 rfl (lv_at hl 0 rfl) ?_
    refine lv_iload_n hx hb d_x_contains_8 rfl (lv_at hl 1 rfl) ?_
    refine lv_lushr (v := (zs.toUInt64 >>> (nu.toInt64.toUInt64 &&& Int64.toUInt64 63)).toInt64) hx hb d_x_contains_9 rfl ?_
    refine lv_lconst (v := 1) hx hb d_x_contains_10 (by decide) ?_
    refine lv_land hx hb d_x_contains_11 ?_
    refine lv_lconst (v := 0) hx hb d_x_contains_12 (by decide) ?_
    refine W.lcmp hx hb d_x_contains_13 ?_
    refine lv_if_eq (tgt := 21) hx hb d_x_contains_14 (by decide) (fun c2 => ?_) (fun c2 => ?_)
    · have c2 := cp_eq c2
      refine lv_iconst (v := 0) hx hb d_x_contains_21 (by decide) ?_
      exact ro_zret FX (by rw [f_x_contains, if_pos c1, if_pos c2] <;> rfl) d_x_contains_22
    · have c2 := cp_ne c2
      refine lv_iconst (v := 1) hx hb d_x_contains_17 (by decide) ?_
      refine lv_goto (tgt := 22) hx hb d_x_contains_18 (by decide) ?_
      exact ro_zret FX (by rw [f_x_contains, if_pos c1, if_neg c2] <;> rfl) d_x_contains_22
theorem d_x_isFlake_0 : decode b_x_isFlake 0 = .ok (.iload_n 1, 1) := by decide +kernel
theorem d_x_isFlake_1 : decode b_x_isFlake 1 = .ok (.iconst 1, 1) := by decide +kernel
theorem d_x_isFlake_2 : decode b_x_isFlake 2 = .ok (.if_icmp .lt 22, 3) := by decide +kernel
theorem d_x_isFlake_5 : decode b_x_isFlake 5 = .ok (.iload_n 1, 1) := by decide +kernel
theorem d_x_isFlake_6 : decode b_x_isFlake 6 = .ok (.bipush 9, 2) := by decide +kernel
theorem d_x_isFlake_8 : decode b_x_isFlake 8 = .ok (.if_icmp .gt 16, 3) := by decide +kernel
theorem d_x_isFlake_11 : decode b_x_isFlake 11 = .ok (.iload_n 0, 1) := by decide +kernel
theorem d_x_isFlake_12 : decode b_x_isFlake 12 = .ok (.ifCond .lt 12, 3) := by decide +kernel
theorem d_x_isFlake_15 : decode b_x_isFlake 15 = .ok (.iload_n 0, 1) := by decide +kernel
theorem d_x_isFlake_16 : decode b_x_isFlake 16 = .ok (.iload_n 1, 1) := by decide +kernel
theorem d_x_isFlake_17 : decode b_x_isFlake 17 = .ok (.if_icmp .ge 7, 3) := by decide +kernel
theorem d_x_isFlake_20 : decode b_x_isFlake 20 = .ok (.iconst 1, 1) := by decide +kernel
theorem d_x_isFlake_21 : decode b_x_isFlake 21 = .ok (.goto 4, 3) := by decide +kernel
theorem d_x_isFlake_24 : decode b_x_isFlake 24 = .ok (.iconst 0, 1) := by decide +kernel
theorem d_x_isFlake_25 : decode b_x_isFlake 25 = .ok (.ireturn, 1) := by decide +kernel
def f_x_isFlake (pp : Int32) (qq : Int32) : Bool := if qq < 1 then
    (false)
  else
    (if 9 < qq then
      (false)
    else
      (if pp < 0 then
        (false)
      else
        (if qq ≤ pp then
          (false)
        else
          (true))))
set_option maxHeartbeats 4000000 in
set_option maxRecDepth 100000 in
theorem c_x_isFlake (l : Launch) (D : va_G) (cA : Nat → ClassId) (pp : Int32) (qq : Int32) : Met l y_x_isFlake (.code y_x_isFlake b_x_isFlake 2 (some .boolean) :: tb) (rmd 0) (Pro D cA [.int pp, .int qq] (fun _ => True)) (Qro (.int (bz (f_x_isFlake pp qq)))) 0 0 nof := by
  refine ro_in (by decide) (Nat.le_of_ble_eq_true rfl) (fun p e s m below meth c ls FX hnm hK hP hl => ?_)
  have hl : lv_has ls 2 [(0, .int pp), (1, .int qq)] := hl
  generalize ([.int pp, .int qq] : List Value).toArray = args at FX ⊢
  obtain ⟨hx, hb, hml, hown, hts, hr, hlk⟩ := id FX
  refine lv_iload_n hx hb d_x_isFlake_0 rfl (lv_at hl 1 rfl) ?_
  refine lv_iconst (v := 1) hx hb d_x_isFlake_1 (by decide) ?_
  refine lv_icmp_lt (tgt := 24) hx hb d_x_isFlake_2 (by decide) (fun c1 => ?_) (fun c1 => ?_)
  · have c1 := c1
    refine lv_iconst (v := 0) hx hb d_x_isFlake_24 (by decide) ?_
    exact ro_zret FX (by rw [f_x_isFlake, if_pos c1] <;> rfl) d_x_isFlake_25
  · have c1 := c1
    refine lv_iload_n hx hb d_x_isFlake_5 rfl (lv_at hl 1 rfl) ?_
    refine lv_bipush (v := 9) hx hb d_x_isFlake_6 (by decide) ?_
    refine lv_icmp_gt (tgt := 24) hx hb d_x_isFlake_8 (by decide) (fun c2 => ?_) (fun c2 => ?_)
    · have c2 := c2
      refine lv_iconst (v := 0) hx hb d_x_isFlake_24 (by decide) ?_
      exact ro_zret FX (by rw [f_x_isFlake, if_neg c1, if_pos c2] <;> rfl) d_x_isFlake_25
    · have c2 := c2
      refine lv_iload_n hx hb d_x_isFlake_11 rfl (lv_at hl 0 rfl) ?_
      refine lv_if_lt (tgt := 24) hx hb d_x_isFlake_12 (by decide) (fun c3 => ?_) (fun c3 => ?_)
      · have c3 := c3
        refine lv_iconst (v := 0) hx hb d_x_isFlake_24 (by decide) ?_
        exact ro_zret FX (by rw [f_x_isFlake, if_neg c1, if_neg c2, if_pos c3] <;> rfl) d_x_isFlake_25
      · have c3 := c3
        refine lv_iload_n hx hb d_x_isFlake_15 rfl (lv_at hl 0 rfl) ?_
        refine lv_iload_n hx hb d_x_isFlake_16 rfl (lv_at hl 1 rfl) ?_
        refine lv_icmp_ge (tgt := 24) hx hb d_x_isFlake_17 (by decide) (fun c4 => ?_) (fun c4 => ?_)
        · have c4 := c4
          refine lv_iconst (v := 0) hx hb d_x_isFlake_24 (by decide) ?_
          exact ro_zret FX (by rw [f_x_isFlake, if_neg c1, if_neg c2, if_neg c3, if_pos c4] <;> rfl) d_x_isFlake_25
        · have c4 := c4
          refine lv_iconst (v := 1) hx hb d_x_isFlake_20 (by decide) ?_
          refine lv_goto (tgt := 25) hx hb d_x_isFlake_21 (by decide) ?_
          exact ro_zret FX (by rw [f_x_isFlake, if_neg c1, if_neg c2, if_neg c3, if_neg c4] <;> rfl) d_x_isFlake_25
theorem d_x_isSure_0 : decode b_x_isSure 0 = .ok (.iload_n 0, 1) := by decide +kernel
theorem d_x_isSure_1 : decode b_x_isSure 1 = .ok (.bipush 51, 2) := by decide +kernel
theorem d_x_isSure_3 : decode b_x_isSure 3 = .ok (.if_icmp .lt 13, 3) := by decide +kernel
theorem d_x_isSure_6 : decode b_x_isSure 6 = .ok (.iload_n 0, 1) := by decide +kernel
theorem d_x_isSure_7 : decode b_x_isSure 7 = .ok (.bipush 100, 2) := by decide +kernel
theorem d_x_isSure_9 : decode b_x_isSure 9 = .ok (.if_icmp .gt 7, 3) := by decide +kernel
theorem d_x_isSure_12 : decode b_x_isSure 12 = .ok (.iconst 1, 1) := by decide +kernel
theorem d_x_isSure_13 : decode b_x_isSure 13 = .ok (.goto 4, 3) := by decide +kernel
theorem d_x_isSure_16 : decode b_x_isSure 16 = .ok (.iconst 0, 1) := by decide +kernel
theorem d_x_isSure_17 : decode b_x_isSure 17 = .ok (.ireturn, 1) := by decide +kernel
def f_x_isSure (nu : Int32) : Bool := if nu < 51 then
    (false)
  else
    (if 100 < nu then
      (false)
    else
      (true))
set_option maxHeartbeats 4000000 in
set_option maxRecDepth 100000 in
theorem c_x_isSure (l : Launch) (D : va_G) (cA : Nat → ClassId) (nu : Int32) : Met l y_x_isSure (.code y_x_isSure b_x_isSure 1 (some .boolean) :: tb) (rmd 0) (Pro D cA [.int nu] (fun _ => True)) (Qro (.int (bz (f_x_isSure nu)))) 0 0 nof := by
  refine ro_in (by decide) (Nat.le_of_ble_eq_true rfl) (fun p e s m below meth c ls FX hnm hK hP hl => ?_)
  have hl : lv_has ls 1 [(0, .int nu)] := hl
  generalize ([.int nu] : List Value).toArray = args at FX ⊢
  obtain ⟨hx, hb, hml, hown, hts, hr, hlk⟩ := id FX
  refine lv_iload_n hx hb d_x_isSure_0 rfl (lv_at hl 0 rfl) ?_
  refine lv_bipush (v := 51) hx hb d_x_isSure_1 (by decide) ?_
  refine lv_icmp_lt (tgt := 16) hx hb d_x_isSure_3 (by decide) (fun c1 => ?_) (fun c1 => ?_)
  · have c1 := c1
    refine lv_iconst (v := 0) hx hb d_x_isSure_16 (by decide) ?_
    exact ro_zret FX (by rw [f_x_isSure, if_pos c1] <;> rfl) d_x_isSure_17
  · have c1 := c1
    refine lv_iload_n hx hb d_x_isSure_6 rfl (lv_at hl 0 rfl) ?_
    refine lv_bipush (v := 100) hx hb d_x_isSure_7 (by decide) ?_
    refine lv_icmp_gt (tgt := 16) hx hb d_x_isSure_9 (by decide) (fun c2 => ?_) (fun c2 => ?_)
    · have c2 := c2
      refine lv_iconst (v := 0) hx hb d_x_isSure_16 (by decide) ?_
      exact ro_zret FX (by rw [f_x_isSure, if_neg c1, if_pos c2] <;> rfl) d_x_isSure_17
    · have c2 := c2
      refine lv_iconst (v := 1) hx hb d_x_isSure_12 (by decide) ?_
      refine lv_goto (tgt := 17) hx hb d_x_isSure_13 (by decide) ?_
      exact ro_zret FX (by rw [f_x_isSure, if_neg c1, if_neg c2] <;> rfl) d_x_isSure_17
/-! the class's own world: the object, its array of targets, the graph and its two arrays, and of each target the object and its weights. The addresses are ad 0 .. ad (4 + 2 nt). -/
abbrev GS : Type := (Nat → Int64) × (Nat → Int64) × Int32 × Int64 × Int64
abbrev TS : Type := Int64 × Int64 × Bool × Int32 × Int32 × Int32 × Int32 × Int32 × Int32 × (Nat → Int64)
def tvf (ad : Nat → Nat) (nt : Nat) : Nat → Option Nat := fun k => if k < nt then some (ad (5 + 2 * k)) else none
abbrev cX (cA : Nat → ClassId) (ad : Nat → Nat) (nt : Nat) (G : GS) : va_W := [(ad 0, .inr (0, [.ref (ad 2), .ref (ad 1), .int (nI nt)])), (ad 1, .inl (cA 1, 4, .inr (.inr (.inr (.inr (tvf ad nt)))))), (ad 2, .inr (1, [.ref (ad 3), .ref (ad 4), .int G.2.2.1, .long G.2.2.2.1, .long G.2.2.2.2])), (ad 3, .inl (cA 0, 40, .inr (.inl G.1))), (ad 4, .inl (cA 0, 40, .inr (.inl G.2.1)))]
abbrev cT (cA : Nat → ClassId) (ad : Nat → Nat) (j : Nat) (T : TS) : va_W := [(ad (5 + 2 * j), .inr (2, [.ref (ad 2), .ref (ad (6 + 2 * j)), .long T.1, .long T.2.1, .int (bz T.2.2.1), .int T.2.2.2.1, .int T.2.2.2.2.1, .int T.2.2.2.2.2.1, .int T.2.2.2.2.2.2.1, .int T.2.2.2.2.2.2.2.1, .int T.2.2.2.2.2.2.2.2.1])), (ad (6 + 2 * j), .inl (cA 0, 40, .inr (.inl T.2.2.2.2.2.2.2.2.2)))]
def WX (D : va_G) (cA : Nat → ClassId) (ad : Nat → Nat) (nt : Nat) (G : GS) (TT : Nat → TS) (H : Heap) : Prop := va_P D classes (cX cA ad nt G) H ∧ ∀ j, j < nt → va_P D classes (cT cA ad j (TT j)) H
/-- the addresses are apart -/
def adX (ad : Nat → Nat) (nt : Nat) : Prop := ∀ i j, i < 5 + 2 * nt → j < 5 + 2 * nt → ad i = ad j → i = j
/-- whose they are -/
def ox (ad : Nat → Nat) (nt : Nat) : Nat → Prop := fun q => ∃ i, i < 5 + 2 * nt ∧ q = ad i
def om {α : Type} (o : Option Nat) (a : α) (b : Nat → α) : α := match o with
  | none => a
  | some j => b j
theorem om_none {α : Type} {o : Option Nat} {a : α} {b : Nat → α} (h : o = none) : om o a b = a := by rw [h]; rfl
theorem om_some {α : Type} {o : Option Nat} {a : α} {b : Nat → α} {j : Nat} (h : o = some j) : om o a b = b j := by rw [h]; rfl
/-- where each cell of a list of addresses stands -/
theorem d_of {ws : va_W} (f : Nat → Nat) (h1 : ∀ (i : Nat) (q : Nat × va_E), ws[i]? = some q → ∀ (j : Nat) (r : Nat × va_E), ws[j]? = some r → q.1 = r.1 → i = j) : va_D (fun _ => True) ws := ⟨fun i j p q hp hq e => h1 i p hp j q hq e, fun _ _ _ => trivial⟩
theorem lst_d {ad : Nat → Nat} {n : Nat} (hinj : ∀ i j, i < n → j < n → ad i = ad j → i = j) {ws : va_W} (is : List Nat) (hl : ws.map Prod.fst = is.map ad) (hn : va_nd is = true) (hb : ∀ i ∈ is, i < n) : va_D (fun _ => True) ws := by
  refine ⟨fun i j p q hp hq e => ?_, fun _ _ _ => trivial⟩
  have hi : (ws.map Prod.fst)[i]? = some p.1 := by rw [List.getElem?_map, hp]; rfl
  have hj : (ws.map Prod.fst)[j]? = some q.1 := by rw [List.getElem?_map, hq]; rfl
  rw [hl, List.getElem?_map] at hi hj
  cases hi1 : is[i]? with
  | none => rw [hi1] at hi; cases hi
  | some a =>
    cases hj1 : is[j]? with
    | none => rw [hj1] at hj; cases hj
    | some b' =>
      rw [hi1] at hi; rw [hj1] at hj
      have ea : ad a = p.1 := Option.some.inj hi
      have eb : ad b' = q.1 := Option.some.inj hj
      have hab : a = b' := hinj a b' (hb a (List.mem_of_getElem? hi1)) (hb b' (List.mem_of_getElem? hj1)) (by rw [ea, eb, e])
      subst hab
      exact va_nd_inj is hn i j a hi1 hj1
theorem aw_iff {ws : va_W} {q : Nat} : aw ws q ↔ q ∈ ws.map Prod.fst := by
  constructor
  · rintro ⟨k, e, h⟩
    exact List.mem_map.mpr ⟨(q, e), List.mem_of_getElem? h, rfl⟩
  · intro h
    obtain ⟨⟨a, e⟩, h1, h2⟩ := List.mem_map.mp h
    obtain ⟨k, hk⟩ := List.getElem?_of_mem h1
    exact ⟨k, e, by rw [hk]; cases h2; rfl⟩
theorem S_mono {A B : Nat → Prop} {H0 H : Heap} {locs : List Loc} (h : va_S A H0 H locs) (hAB : ∀ q, A q → B q) : va_S B H0 H locs := ⟨h.1, fun q h1 h2 => h.2.1 q h1 (fun z => h2 (hAB q z)), fun l hl => hAB _ (h.2.2 l hl)⟩
theorem ox_7 {cA : Nat → ClassId} {ad : Nat → Nat} {nt j : Nat} (hj : j < nt) {T : TS} {G : GS} : ∀ q, aw (cT cA ad j T ++ cX cA ad nt G) q → ox ad nt q := by
  intro q h
  rw [aw_iff] at h
  simp only [List.map_append, List.map_cons, List.map_nil, List.cons_append, List.nil_append, List.mem_cons, List.not_mem_nil, or_false] at h
  rcases h with h | h | h | h | h | h | h
  · exact ⟨5 + 2 * j, by omega, h⟩
  · exact ⟨6 + 2 * j, by omega, h⟩
  · exact ⟨0, by omega, h⟩
  · exact ⟨1, by omega, h⟩
  · exact ⟨2, by omega, h⟩
  · exact ⟨3, by omega, h⟩
  · exact ⟨4, by omega, h⟩
theorem ox_5 {cA : Nat → ClassId} {ad : Nat → Nat} {nt : Nat} {G : GS} : ∀ q, aw (cX cA ad nt G) q → ox ad nt q := by
  intro q h
  rw [aw_iff] at h
  simp only [List.map_cons, List.map_nil, List.mem_cons, List.not_mem_nil, or_false] at h
  rcases h with h | h | h | h | h
  · exact ⟨0, by omega, h⟩
  · exact ⟨1, by omega, h⟩
  · exact ⟨2, by omega, h⟩
  · exact ⟨3, by omega, h⟩
  · exact ⟨4, by omega, h⟩
theorem wx_d7 {cA : Nat → ClassId} {ad : Nat → Nat} {nt j : Nat} (hinj : adX ad nt) (hj : j < nt) {T : TS} {G : GS} : va_D (fun _ => True) (cT cA ad j T ++ cX cA ad nt G) := by
  refine ⟨fun a b' p q hp hq e => ?_, fun _ _ _ => trivial⟩
  have key : ∀ (k : Nat) (r : Nat × va_E), (cT cA ad j T ++ cX cA ad nt G)[k]? = some r → r.1 = ad (if k < 2 then 5 + 2 * j + k else k - 2) ∧ k < 7 := by
    intro k r hr
    match k, hr with
    | 0, hr => cases hr; exact ⟨rfl, by omega⟩
    | 1, hr => cases hr; exact ⟨by simp; congr 1; omega, by omega⟩
    | 2, hr => cases hr; exact ⟨rfl, by omega⟩
    | 3, hr => cases hr; exact ⟨rfl, by omega⟩
    | 4, hr => cases hr; exact ⟨rfl, by omega⟩
    | 5, hr => cases hr; exact ⟨rfl, by omega⟩
    | 6, hr => cases hr; exact ⟨rfl, by omega⟩
    | k + 7, hr => simp at hr
  obtain ⟨e1, h1⟩ := key a p hp
  obtain ⟨e2, h2⟩ := key b' q hq
  rw [e1, e2] at e
  have h3 := hinj _ _ (by split <;> omega) (by split <;> omega) e
  split at h3 <;> split at h3 <;> omega
theorem wx_d5 {cA : Nat → ClassId} {ad : Nat → Nat} {nt : Nat} (hinj : adX ad nt) {G : GS} : va_D (fun _ => True) (cX cA ad nt G) := lst_d hinj [0, 1, 2, 3, 4] rfl rfl (fun i hi => by simp at hi; omega)
/-- behind a method that changed a target's cells, or the graph's -/
theorem wx_put7 {D : va_G} {cA : Nat → ClassId} {ad : Nat → Nat} {nt j : Nat} {G G' : GS} {TT : Nat → TS} {T' : TS} {H0 H : Heap} {locs : List Loc} {A : Nat → Prop} (hW : WX D cA ad nt G TT H0) (hinj : adX ad nt) (hj : j < nt) (hA : A = aw (cT cA ad j (TT j) ++ cX cA ad nt G)) (hS : va_S A H0 H locs) (hP : va_P D classes (cT cA ad j T' ++ cX cA ad nt G') H) : WX D cA ad nt G' (va_up TT j T') H := by
  subst hA
  refine ⟨hP.sub [2, 3, 4, 5, 6] rfl, fun k hk => ?_⟩
  by_cases hkj : k = j
  · subst hkj
    rw [va_up_self]
    exact hP.sub [0, 1] rfl
  · rw [va_up_ne _ _ hkj]
    refine (hW.2 k hk).kept (fun a q hq => ?_)
    have hq0 := (hW.2 k hk a q hq).lt
    refine hS.2.1 q.1 hq0 (fun h => ?_)
    have e : ∃ i, (i = 5 + 2 * k ∨ i = 6 + 2 * k) ∧ q.1 = ad i := by
      match a, hq with
      | 0, hq => cases hq; exact ⟨_, Or.inl rfl, rfl⟩
      | 1, hq => cases hq; exact ⟨_, Or.inr rfl, rfl⟩
      | a + 2, hq => simp at hq
    obtain ⟨i, hi, e⟩ := e
    rw [aw_iff] at h
    simp only [List.map_append, List.map_cons, List.map_nil, List.cons_append, List.nil_append, List.mem_cons, List.not_mem_nil, or_false] at h
    rw [e] at h
    rcases h with h | h | h | h | h | h | h <;> have h2 := hinj _ _ (by omega) (by omega) h <;> omega
theorem wx_put5 {D : va_G} {cA : Nat → ClassId} {ad : Nat → Nat} {nt : Nat} {G G' : GS} {TT : Nat → TS} {H0 H : Heap} {locs : List Loc} {A : Nat → Prop} (hW : WX D cA ad nt G TT H0) (hinj : adX ad nt) (hA : A = aw (cX cA ad nt G)) (hS : va_S A H0 H locs) (hP : va_P D classes (cX cA ad nt G') H) : WX D cA ad nt G' TT H := by
  subst hA
  refine ⟨hP, fun k hk => ?_⟩
  refine (hW.2 k hk).kept (fun a q hq => ?_)
  have hq0 := (hW.2 k hk a q hq).lt
  refine hS.2.1 q.1 hq0 (fun h => ?_)
  have e : ∃ i, (i = 5 + 2 * k ∨ i = 6 + 2 * k) ∧ q.1 = ad i := by
    match a, hq with
    | 0, hq => cases hq; exact ⟨_, Or.inl rfl, rfl⟩
    | 1, hq => cases hq; exact ⟨_, Or.inr rfl, rfl⟩
    | a + 2, hq => simp at hq
  obtain ⟨i, hi, e⟩ := e
  rw [aw_iff] at h
  simp only [List.map_cons, List.map_nil, List.mem_cons, List.not_mem_nil, or_false] at h
  rw [e] at h
  rcases h with h | h | h | h | h <;> have h2 := hinj _ _ (by omega) (by omega) h <;> omega
theorem num_nI {x : Int32} (h : f_x_isNumber x = true) : ∃ j : Nat, j < 40 ∧ x = nI j := by
  unfold f_x_isNumber at h
  by_cases h0 : x < 0
  · rw [if_pos h0] at h; cases h
  · rw [if_neg h0] at h
    by_cases h1 : (40 : Int32) ≤ x
    · rw [if_pos h1] at h; cases h
    · exact in_nI h0 h1
theorem vin2 {x : Int32} (h0 : ¬ x < 0) (h1 : ¬ (40 : Int32) ≤ x) : vp_in x 40 := by
  obtain ⟨j, hj, e⟩ := in_nI h0 h1
  exact vin e hj (by decide)
theorem in_nI2 {x : Int32} (h0 : ¬ x < 0) (h1 : x < 40) : ∃ j : Nat, j < 40 ∧ x = nI j := in_nI h0 (Int32.not_le.mpr h1)
theorem vin3 {x : Int32} (h0 : ¬ x < 0) (h1 : x < 4) : vp_in x 4 := by
  obtain ⟨j, hj, e⟩ := nI_of h0
  have h2 : j < 4 := k_lt e (rfl : (4 : Int32) = nI 4) (Int32.not_le.mpr h1) hj
  exact vin e h2 (by decide)
theorem tvf_at {ad : Nat → Nat} {nt : Nat} {nu : Int32} (hnt : nt ≤ 4) (h0 : ¬ nu < 0) (h1 : ¬ nI nt ≤ nu) : tvf ad nt nu.toNatClampNeg = some (ad (5 + 2 * nu.toNatClampNeg)) := by
  obtain ⟨j, hj, e⟩ := nI_of h0
  have h2 : j < nt := k_lt e rfl h1 hj
  subst e
  rw [nI_clamp hj]
  unfold tvf
  rw [if_pos h2]
end
