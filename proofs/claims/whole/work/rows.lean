section
-- ===== PART A: goes FIRST, ahead of the names: the tables' words, and 'selects' of the private methods out of them =====
/-- a private method of a class that the tables say can be made, by its rows of tables_1 -/
def lw_okq (q : MethodName × Nat) : Prop := (q.1.cls ≠ "java/lang/invoke/MethodHandle" ∧ q.1.cls ≠ "java/lang/invoke/VarHandle") ∧ Cond.instantiable q.1.cls q.2 ∈ tables_1 ∧ Cond.privateMethod q.1 ∈ tables_1 ∧ Cond.instanceMethod q.1 ∈ tables_1
theorem lw_p0 : lw_okq (⟨"CulpritSearch", "targetAt", "(I)LCulpritSearch$Target;"⟩, 3) := ⟨⟨by decide +kernel, by decide +kernel⟩, List.mem_of_getElem? (i := 8) (by decide +kernel), List.mem_of_getElem? (i := 139) (by decide +kernel), List.mem_of_getElem? (i := 140) (by decide +kernel)⟩
theorem lw_p1 : lw_okq (⟨"CulpritSearch", "searchAt", "(I)LCulpritSearch$Target;"⟩, 3) := ⟨⟨by decide +kernel, by decide +kernel⟩, List.mem_of_getElem? (i := 8) (by decide +kernel), List.mem_of_getElem? (i := 183) (by decide +kernel), List.mem_of_getElem? (i := 184) (by decide +kernel)⟩
theorem lw_p2 : lw_okq (⟨"CulpritSearch$Target", "mostEven", "()I"⟩, 11) := ⟨⟨by decide +kernel, by decide +kernel⟩, List.mem_of_getElem? (i := 92) (by decide +kernel), List.mem_of_getElem? (i := 208) (by decide +kernel), List.mem_of_getElem? (i := 209) (by decide +kernel)⟩
theorem lw_p3 : lw_okq (⟨"CulpritSearch$Target", "likelihood", "(IZ)J"⟩, 11) := ⟨⟨by decide +kernel, by decide +kernel⟩, List.mem_of_getElem? (i := 92) (by decide +kernel), List.mem_of_getElem? (i := 256) (by decide +kernel), List.mem_of_getElem? (i := 257) (by decide +kernel)⟩
theorem lw_p4 : lw_okq (⟨"CulpritSearch$Target", "rankOf", "(I)I"⟩, 11) := ⟨⟨by decide +kernel, by decide +kernel⟩, List.mem_of_getElem? (i := 92) (by decide +kernel), List.mem_of_getElem? (i := 291) (by decide +kernel), List.mem_of_getElem? (i := 292) (by decide +kernel)⟩
theorem lw_p5 : lw_okq (⟨"CulpritSearchModel", "isChange", "(I)Z"⟩, 16) := ⟨⟨by decide +kernel, by decide +kernel⟩, List.mem_of_getElem? (i := 317) (by decide +kernel), List.mem_of_getElem? (i := 378) (by decide +kernel), List.mem_of_getElem? (i := 379) (by decide +kernel)⟩
theorem lw_p6 : lw_okq (⟨"CulpritSearchModel", "comes", "(II)Z"⟩, 16) := ⟨⟨by decide +kernel, by decide +kernel⟩, List.mem_of_getElem? (i := 317) (by decide +kernel), List.mem_of_getElem? (i := 385) (by decide +kernel), List.mem_of_getElem? (i := 386) (by decide +kernel)⟩
theorem lw_p7 : lw_okq (⟨"CulpritSearchModel", "isTarget", "(I)Z"⟩, 16) := ⟨⟨by decide +kernel, by decide +kernel⟩, List.mem_of_getElem? (i := 317) (by decide +kernel), List.mem_of_getElem? (i := 401) (by decide +kernel), List.mem_of_getElem? (i := 402) (by decide +kernel)⟩
theorem lw_p8 : lw_okq (⟨"CulpritSearchModel", "isGood", "(II)Z"⟩, 16) := ⟨⟨by decide +kernel, by decide +kernel⟩, List.mem_of_getElem? (i := 317) (by decide +kernel), List.mem_of_getElem? (i := 409) (by decide +kernel), List.mem_of_getElem? (i := 410) (by decide +kernel)⟩
theorem lw_p9 : lw_okq (⟨"CulpritSearchModel", "isSearch", "(I)Z"⟩, 16) := ⟨⟨by decide +kernel, by decide +kernel⟩, List.mem_of_getElem? (i := 317) (by decide +kernel), List.mem_of_getElem? (i := 418) (by decide +kernel), List.mem_of_getElem? (i := 419) (by decide +kernel)⟩
theorem lw_p10 : lw_okq (⟨"CulpritSearchModel", "heavy", "(I)I"⟩, 16) := ⟨⟨by decide +kernel, by decide +kernel⟩, List.mem_of_getElem? (i := 317) (by decide +kernel), List.mem_of_getElem? (i := 439) (by decide +kernel), List.mem_of_getElem? (i := 440) (by decide +kernel)⟩
theorem lw_p11 : lw_okq (⟨"CulpritSearchModel", "even", "(I)I"⟩, 16) := ⟨⟨by decide +kernel, by decide +kernel⟩, List.mem_of_getElem? (i := 317) (by decide +kernel), List.mem_of_getElem? (i := 445) (by decide +kernel), List.mem_of_getElem? (i := 446) (by decide +kernel)⟩
def lw_privs_1 : List (MethodName × Nat) := [(⟨"CulpritSearch", "targetAt", "(I)LCulpritSearch$Target;"⟩, 3), (⟨"CulpritSearch", "searchAt", "(I)LCulpritSearch$Target;"⟩, 3), (⟨"CulpritSearch$Target", "mostEven", "()I"⟩, 11), (⟨"CulpritSearch$Target", "likelihood", "(IZ)J"⟩, 11), (⟨"CulpritSearch$Target", "rankOf", "(I)I"⟩, 11), (⟨"CulpritSearchModel", "isChange", "(I)Z"⟩, 16), (⟨"CulpritSearchModel", "comes", "(II)Z"⟩, 16), (⟨"CulpritSearchModel", "isTarget", "(I)Z"⟩, 16), (⟨"CulpritSearchModel", "isGood", "(II)Z"⟩, 16), (⟨"CulpritSearchModel", "isSearch", "(I)Z"⟩, 16), (⟨"CulpritSearchModel", "heavy", "(I)I"⟩, 16), (⟨"CulpritSearchModel", "even", "(I)I"⟩, 16)]
theorem lw_r1 : ∀ q ∈ lw_privs_1, lw_okq q := List.forall_mem_cons.mpr ⟨lw_p0, List.forall_mem_cons.mpr ⟨lw_p1, List.forall_mem_cons.mpr ⟨lw_p2, List.forall_mem_cons.mpr ⟨lw_p3, List.forall_mem_cons.mpr ⟨lw_p4, List.forall_mem_cons.mpr ⟨lw_p5, List.forall_mem_cons.mpr ⟨lw_p6, List.forall_mem_cons.mpr ⟨lw_p7, List.forall_mem_cons.mpr ⟨lw_p8, List.forall_mem_cons.mpr ⟨lw_p9, List.forall_mem_cons.mpr ⟨lw_p10, List.forall_mem_cons.mpr ⟨lw_p11, fun _ h => absurd h List.not_mem_nil⟩⟩⟩⟩⟩⟩⟩⟩⟩⟩⟩⟩
def lw_privs : List (MethodName × Nat) := lw_privs_1
def lw_tbl : List Cond := k2_sels lw_privs ++ tables_1
theorem lw_privs_ok : ∀ q ∈ lw_privs, lw_okq q := lw_r1
end
section
-- names: classes, fields in the order of the slots, methods
def R_x : String := "CulpritSearch"
def F_x : u_T := fun k => match k with
  | 0 => ("CulpritSearch", "graph", "LCulpritSearch$Graph;", true)
  | 1 => ("CulpritSearch", "targets", "[LCulpritSearch$Target;", true)
  | _ => ("CulpritSearch", "targetCount", "I", false)
def t_x : Nat → FieldType := fun k => match k with
  | 0 => (.object "CulpritSearch$Graph")
  | 1 => (.array (.object "CulpritSearch$Target"))
  | _ => .int
def R_g : String := "CulpritSearch$Graph"
def F_g : u_T := fun k => match k with
  | 0 => ("CulpritSearch$Graph", "parents", "[J", true)
  | 1 => ("CulpritSearch$Graph", "reaches", "[J", true)
  | 2 => ("CulpritSearch$Graph", "size", "I", false)
  | 3 => ("CulpritSearch$Graph", "built", "J", false)
  | _ => ("CulpritSearch$Graph", "skipped", "J", false)
def t_g : Nat → FieldType := fun k => match k with
  | 0 => (.array .long)
  | 1 => (.array .long)
  | 2 => .int
  | 3 => .long
  | _ => .long
def R_t : String := "CulpritSearch$Target"
def F_t : u_T := fun k => match k with
  | 0 => ("CulpritSearch$Target", "graph", "LCulpritSearch$Graph;", true)
  | 1 => ("CulpritSearch$Target", "weights", "[J", true)
  | 2 => ("CulpritSearch$Target", "goodOnes", "J", false)
  | 3 => ("CulpritSearch$Target", "cleared", "J", false)
  | 4 => ("CulpritSearch$Target", "searched", "Z", false)
  | 5 => ("CulpritSearch$Target", "bad", "I", false)
  | 6 => ("CulpritSearch$Target", "p", "I", false)
  | 7 => ("CulpritSearch$Target", "q", "I", false)
  | 8 => ("CulpritSearch$Target", "sure", "I", false)
  | 9 => ("CulpritSearch$Target", "answers", "I", false)
  | _ => ("CulpritSearch$Target", "skips", "I", false)
def t_t : Nat → FieldType := fun k => match k with
  | 0 => (.object "CulpritSearch$Graph")
  | 1 => (.array .long)
  | 2 => .long
  | 3 => .long
  | 4 => .boolean
  | 5 => .int
  | 6 => .int
  | 7 => .int
  | 8 => .int
  | 9 => .int
  | _ => .int
def R_m : String := "CulpritSearchModel"
def F_m : u_T := fun k => match k with
  | 0 => ("CulpritSearchModel", "changes", "I", false)
  | 1 => ("CulpritSearchModel", "parents", "[I", true)
  | 2 => ("CulpritSearchModel", "hasIt", "[Z", true)
  | 3 => ("CulpritSearchModel", "skipped", "[Z", true)
  | 4 => ("CulpritSearchModel", "built", "[Z", true)
  | 5 => ("CulpritSearchModel", "targets", "I", false)
  | 6 => ("CulpritSearchModel", "goodIn", "[Z", true)
  | 7 => ("CulpritSearchModel", "isOn", "[Z", true)
  | 8 => ("CulpritSearchModel", "badOne", "[I", true)
  | 9 => ("CulpritSearchModel", "up", "[I", true)
  | 10 => ("CulpritSearchModel", "down", "[I", true)
  | 11 => ("CulpritSearchModel", "sureness", "[I", true)
  | 12 => ("CulpritSearchModel", "skips", "[I", true)
  | 13 => ("CulpritSearchModel", "answers", "[I", true)
  | 14 => ("CulpritSearchModel", "askedIn", "[I", true)
  | _ => ("CulpritSearchModel", "failed", "[Z", true)
def t_m : Nat → FieldType := fun k => match k with
  | 0 => .int
  | 1 => (.array .int)
  | 2 => (.array .boolean)
  | 3 => (.array .boolean)
  | 4 => (.array .boolean)
  | 5 => .int
  | 6 => (.array .boolean)
  | 7 => (.array .boolean)
  | 8 => (.array .int)
  | 9 => (.array .int)
  | 10 => (.array .int)
  | 11 => (.array .int)
  | 12 => (.array .int)
  | 13 => (.array .int)
  | 14 => (.array .int)
  | _ => (.array .boolean)
abbrev classes : List vw_C := [(R_x, F_x, 3), (R_g, F_g, 5), (R_t, F_t, 11), (R_m, F_m, 16)]
abbrev tyz (cA : Nat → ClassId) : List (ClassId × FieldType) := [(cA 0, .long), (cA 1, .object "CulpritSearch$Target"), (cA 2, .int), (cA 3, .boolean)]
def overs : List String := ["CulpritSearch$Target"]
abbrev b_g_init : ByteArray := prog_2_method_1_code
def y_g_init : MethodName := ⟨"CulpritSearch$Graph", "<init>", "()V"⟩
abbrev b_t_init : ByteArray := prog_3_method_1_code
def y_t_init : MethodName := ⟨"CulpritSearch$Target", "<init>", "(LCulpritSearch$Graph;)V"⟩
abbrev b_x_init : ByteArray := prog_1_method_1_code
def y_x_init : MethodName := ⟨"CulpritSearch", "<init>", "()V"⟩
abbrev b_lo_bitCount : ByteArray := prog_6_method_50_code
def y_lo_bitCount : MethodName := ⟨"java/lang/Long", "bitCount", "(J)I"⟩
abbrev b_x_isNumber : ByteArray := prog_1_method_22_code
def y_x_isNumber : MethodName := ⟨"CulpritSearch", "isNumber", "(I)Z"⟩
abbrev b_x_only : ByteArray := prog_1_method_23_code
def y_x_only : MethodName := ⟨"CulpritSearch", "only", "(I)J"⟩
abbrev b_x_contains : ByteArray := prog_1_method_24_code
def y_x_contains : MethodName := ⟨"CulpritSearch", "contains", "(JI)Z"⟩
abbrev b_x_isFlake : ByteArray := prog_1_method_20_code
def y_x_isFlake : MethodName := ⟨"CulpritSearch", "isFlake", "(II)Z"⟩
abbrev b_x_isSure : ByteArray := prog_1_method_21_code
def y_x_isSure : MethodName := ⟨"CulpritSearch", "isSure", "(I)Z"⟩
abbrev b_g_holds : ByteArray := prog_2_method_2_code
def y_g_holds : MethodName := ⟨"CulpritSearch$Graph", "holds", "(I)Z"⟩
abbrev b_g_mayBeParent : ByteArray := prog_2_method_3_code
def y_g_mayBeParent : MethodName := ⟨"CulpritSearch$Graph", "mayBeParent", "(I)Z"⟩
abbrev b_g_reach : ByteArray := prog_2_method_5_code
def y_g_reach : MethodName := ⟨"CulpritSearch$Graph", "reach", "(I)J"⟩
abbrev b_g_isBuilt : ByteArray := prog_2_method_9_code
def y_g_isBuilt : MethodName := ⟨"CulpritSearch$Graph", "isBuilt", "(I)Z"⟩
abbrev b_g_isSkipped : ByteArray := prog_2_method_10_code
def y_g_isSkipped : MethodName := ⟨"CulpritSearch$Graph", "isSkipped", "(I)Z"⟩
abbrev b_g_builtCount : ByteArray := prog_2_method_11_code
def y_g_builtCount : MethodName := ⟨"CulpritSearch$Graph", "builtCount", "()I"⟩
abbrev b_g_stepToward : ByteArray := prog_2_method_6_code
def y_g_stepToward : MethodName := ⟨"CulpritSearch$Graph", "stepToward", "(II)I"⟩
abbrev b_g_markBuilt : ByteArray := prog_2_method_7_code
def y_g_markBuilt : MethodName := ⟨"CulpritSearch$Graph", "markBuilt", "(I)V"⟩
abbrev b_g_markSkipped : ByteArray := prog_2_method_8_code
def y_g_markSkipped : MethodName := ⟨"CulpritSearch$Graph", "markSkipped", "(I)V"⟩
abbrev b_g_add : ByteArray := prog_2_method_4_code
def y_g_add : MethodName := ⟨"CulpritSearch$Graph", "add", "(J)I"⟩
abbrev b_t_isSearched : ByteArray := prog_3_method_2_code
def y_t_isSearched : MethodName := ⟨"CulpritSearch$Target", "isSearched", "()Z"⟩
abbrev b_t_isCleared : ByteArray := prog_3_method_3_code
def y_t_isCleared : MethodName := ⟨"CulpritSearch$Target", "isCleared", "(I)Z"⟩
abbrev b_t_weightOf : ByteArray := prog_3_method_7_code
def y_t_weightOf : MethodName := ⟨"CulpritSearch$Target", "weightOf", "(I)J"⟩
abbrev b_t_weightWithin : ByteArray := prog_3_method_8_code
def y_t_weightWithin : MethodName := ⟨"CulpritSearch$Target", "weightWithin", "(J)J"⟩
abbrev b_t_weightOfAll : ByteArray := prog_3_method_9_code
def y_t_weightOfAll : MethodName := ⟨"CulpritSearch$Target", "weightOfAll", "()J"⟩
abbrev b_t_culprit : ByteArray := prog_3_method_10_code
def y_t_culprit : MethodName := ⟨"CulpritSearch$Target", "culprit", "()I"⟩
abbrev b_t_mostEven : ByteArray := prog_3_method_13_code
def y_t_mostEven : MethodName := ⟨"CulpritSearch$Target", "mostEven", "()I"⟩
abbrev b_t_standing : ByteArray := prog_3_method_11_code
def y_t_standing : MethodName := ⟨"CulpritSearch$Target", "standing", "()I"⟩
abbrev b_t_asked : ByteArray := prog_3_method_12_code
def y_t_asked : MethodName := ⟨"CulpritSearch$Target", "asked", "()I"⟩
abbrev b_t_likelihood : ByteArray := prog_3_method_16_code
def y_t_likelihood : MethodName := ⟨"CulpritSearch$Target", "likelihood", "(IZ)J"⟩
abbrev b_t_rankOf : ByteArray := prog_3_method_18_code
def y_t_rankOf : MethodName := ⟨"CulpritSearch$Target", "rankOf", "(I)I"⟩
abbrev b_t_ranked : ByteArray := prog_3_method_17_code
def y_t_ranked : MethodName := ⟨"CulpritSearch$Target", "ranked", "(I)I"⟩
abbrev b_t_onWay : ByteArray := prog_3_method_19_code
def y_t_onWay : MethodName := ⟨"CulpritSearch$Target", "onWay", "(I)I"⟩
abbrev b_t_markGood : ByteArray := prog_3_method_4_code
def y_t_markGood : MethodName := ⟨"CulpritSearch$Target", "markGood", "(I)Z"⟩
abbrev b_t_giveUp : ByteArray := prog_3_method_6_code
def y_t_giveUp : MethodName := ⟨"CulpritSearch$Target", "giveUp", "()V"⟩
abbrev b_t_skip : ByteArray := prog_3_method_14_code
def y_t_skip : MethodName := ⟨"CulpritSearch$Target", "skip", "(I)V"⟩
abbrev b_t_start : ByteArray := prog_3_method_5_code
def y_t_start : MethodName := ⟨"CulpritSearch$Target", "start", "(IIII)I"⟩
abbrev b_t_learn : ByteArray := prog_3_method_15_code
def y_t_learn : MethodName := ⟨"CulpritSearch$Target", "learn", "(II)V"⟩
abbrev b_x_targetAt : ByteArray := prog_1_method_18_code
def y_x_targetAt : MethodName := ⟨"CulpritSearch", "targetAt", "(I)LCulpritSearch$Target;"⟩
abbrev b_x_searchAt : ByteArray := prog_1_method_19_code
def y_x_searchAt : MethodName := ⟨"CulpritSearch", "searchAt", "(I)LCulpritSearch$Target;"⟩
abbrev b_x_has : ByteArray := prog_1_method_3_code
def y_x_has : MethodName := ⟨"CulpritSearch", "has", "(II)Z"⟩
abbrev b_x_state : ByteArray := prog_1_method_8_code
def y_x_state : MethodName := ⟨"CulpritSearch", "state", "(I)I"⟩
abbrev b_x_next : ByteArray := prog_1_method_9_code
def y_x_next : MethodName := ⟨"CulpritSearch", "next", "(I)I"⟩
abbrev b_x_weight : ByteArray := prog_1_method_11_code
def y_x_weight : MethodName := ⟨"CulpritSearch", "weight", "(II)J"⟩
abbrev b_x_part : ByteArray := prog_1_method_12_code
def y_x_part : MethodName := ⟨"CulpritSearch", "part", "(II)J"⟩
abbrev b_x_total : ByteArray := prog_1_method_13_code
def y_x_total : MethodName := ⟨"CulpritSearch", "total", "(I)J"⟩
abbrev b_x_found : ByteArray := prog_1_method_14_code
def y_x_found : MethodName := ⟨"CulpritSearch", "found", "(I)I"⟩
abbrev b_x_told : ByteArray := prog_1_method_15_code
def y_x_told : MethodName := ⟨"CulpritSearch", "told", "(II)I"⟩
abbrev b_x_way : ByteArray := prog_1_method_16_code
def y_x_way : MethodName := ⟨"CulpritSearch", "way", "(II)I"⟩
abbrev b_x_counted : ByteArray := prog_1_method_17_code
def y_x_counted : MethodName := ⟨"CulpritSearch", "counted", "(II)I"⟩
abbrev b_x_change : ByteArray := prog_1_method_2_code
def y_x_change : MethodName := ⟨"CulpritSearch", "change", "(III)I"⟩
abbrev b_x_good : ByteArray := prog_1_method_5_code
def y_x_good : MethodName := ⟨"CulpritSearch", "good", "(II)I"⟩
abbrev b_x_begin : ByteArray := prog_1_method_6_code
def y_x_begin : MethodName := ⟨"CulpritSearch", "begin", "(IIIII)I"⟩
abbrev b_x_stop : ByteArray := prog_1_method_7_code
def y_x_stop : MethodName := ⟨"CulpritSearch", "stop", "(I)Z"⟩
abbrev b_x_answer : ByteArray := prog_1_method_10_code
def y_x_answer : MethodName := ⟨"CulpritSearch", "answer", "(II)I"⟩
abbrev b_x_target : ByteArray := prog_1_method_4_code
def y_x_target : MethodName := ⟨"CulpritSearch", "target", "()I"⟩
end
section
/-! THE LAYER: one list of words for every method (tb), one bundle of what the tables say (KK), contracts of methods that change nothing (Pro, Qro) and of methods that do (Qmu), the rows for their entries, calls and ends. -/
def gB (w : Cond) : Bool := (w.onTables && w.keeps) || (match w with | .arrayClass _ => true | _ => false)
theorem gB_ok {w : Cond} (h : gB w = true) : (w.onTables && w.keeps) = true ∨ ∃ ty, w = .arrayClass ty := by
  unfold gB at h
  rw [Bool.or_eq_true] at h
  rcases h with h | h
  · exact Or.inl h
  · right
    split at h
    · exact ⟨_, rfl⟩
    · cases h
def tb : List Cond := lw_tbl.filter gB
def nB (w : Cond) : Bool := match w with
  | .fieldLinkNest .. => true
  | .methodLinkNest .. => true
  | _ => false
def nests : List Cond := lw_tbl.filter nB
theorem tb_mem {w : Cond} (i : Nat) (h : lw_tbl[i]? = some w) (hg : gB w = true) : w ∈ tb := List.mem_filter.mpr ⟨List.mem_of_getElem? h, hg⟩
theorem ne_mem {w : Cond} (i : Nat) (h : lw_tbl[i]? = some w) (hg : nB w = true) : w ∈ nests := List.mem_filter.mpr ⟨List.mem_of_getElem? h, hg⟩
theorem tb_good {a z : Cond} (hz : z ∈ tb) : GoodIn (a :: tb) (z :: tb) := by
  intro w hw
  have hw' : w ∈ tb := by
    rcases List.mem_cons.mp hw with h | h
    · rw [h]; exact hz
    · exact h
  exact ⟨List.mem_cons_of_mem _ hw', gB_ok (List.mem_filter.mp hw').2⟩
theorem tb_goodT {z : Cond} (hz : z ∈ tb) : GoodIn tb (z :: tb) := by
  intro w hw
  have hw' : w ∈ tb := by
    rcases List.mem_cons.mp hw with h | h
    · rw [h]; exact hz
    · exact h
  exact ⟨hw', gB_ok (List.mem_filter.mp hw').2⟩
theorem nw_warm {w : Cond} (hn : nB w = true) {s U : State} (hW : s.WarmedH U.vm) (h : va_Nw w s) : va_Nw w U := by
  unfold nB at hn
  split at hn
  · exact va_Nw.warmF hW h
  · exact va_Nw.warmM hW h
  · cases hn
theorem nw_same {w : Cond} (hn : nB w = true) {u U : State} (h : u.vm = U.vm) (hZ : va_Nw w u) : va_Nw w U := by
  unfold nB at hn
  split at hn
  · exact va_Nw.same rfl h hZ
  · exact va_Nw.same rfl h hZ
  · cases hn
/-- what the tables say, for good: the classes, the array classes cA (by their place in tyz), the links of nest mates -/
def KK (D : va_G) (cA : Nat → ClassId) (U : State) : Prop := va_K D classes (tyz cA) U ∧ (∀ w ∈ nests, va_Nw w U) ∧ (∀ C ∈ overs, va_AO C U)
theorem KK.warm {D : va_G} {cA : Nat → ClassId} {s U : State} (hW : s.WarmedH U.vm) (h : KK D cA s) : KK D cA U :=
  ⟨va_K.moved hW.alike h.1, fun w hw => nw_warm (List.mem_filter.mp hw).2 hW (h.2.1 w hw), fun C hC => va_AO.moved hW.alike (h.2.2 C hC)⟩
theorem KK.calling {D : va_G} {cA : Nat → ClassId} {U : State} {g : JFrame} {mk : MethodId} {a : Array Value} (h : KK D cA U) : KK D cA (U.calling g mk a) :=
  ⟨va_K.moved (u := U) (U := U.calling g mk a) (Vm.Alike.refl U.vm) h.1, fun w hw => nw_same (List.mem_filter.mp hw).2 (u := U) (U := U.calling g mk a) rfl (h.2.1 w hw), fun C hC => va_AO.moved (u := U) (U := U.calling g mk a) (Vm.Alike.refl U.vm) (h.2.2 C hC)⟩
def nof : Addr → Prop := fun _ => False
def Pro (D : va_G) (cA : Nat → ClassId) (As : List Value) (B : Heap → Prop) : Array Value → State → Prop := va_Pc As (fun U => KK D cA U ∧ B U.heap)
theorem Pro.blind {D : va_G} {cA : Nat → ClassId} {As : List Value} {B : Heap → Prop} : FrameBlind (Pro D cA As B) := fun _ _ _ _ q => ⟨q.1, q.2.1.calling, q.2.2⟩
/-- it answers v, and the heap stays -/
def Qro (v : Value) : Array Value → State → Outcome → State → Prop := fun _ st o t => o = .returned (some v) ∧ t.heap = st.heap
/-- it answers, and 'P answer heap'; nothing but A has changed -/
def Qmu (A : Nat → Prop) (P : Option Value → Heap → Prop) : Array Value → State → Outcome → State → Prop := fun _ st o t => (∃ v, o = .returned v ∧ P v t.heap) ∧ va_F A st t
def rmd (d : Nat) : Room := { frames := d, cells := 0, slots := 0, locals := 40 * d }
def FX (p : Program) (s : State) (m : MethodId) (meth : Method) (c : Code) (args : Array Value) (y : MethodName) (b : ByteArray) (n : Nat) (ret : Option FieldType) : Prop :=
  p.tables.exec = Jvm.exec ∧ c.code = b ∧ c.maxLocals = n ∧ s.vm.findClass y.cls = some m.cls ∧ (∀ w ∈ tb, w.before args s = true) ∧ meth.sig.returnType = ret ∧ meth.locks = false
def bz (b : Bool) : Int32 := if b = true then 1 else 0
theorem bz_t {b : Bool} (h : ¬ bz b = 0) : b = true := by
  cases b
  · exact absurd rfl h
  · rfl
theorem bz_f {b : Bool} (h : bz b = 0) : ¬ b = true := by
  intro q
  rw [q] at h
  exact absurd h (by decide)
theorem bz_1 {b : Bool} (h : b = true) : bz b = 1 := by rw [h]; rfl
theorem bz_0 {b : Bool} (h : ¬ b = true) : bz b = 0 := by
  cases b
  · rfl
  · exact absurd rfl h
theorem bz_n (b : Bool) : narrow .boolean (.int (bz b)) = .int (bz b) := by cases b <;> rfl
theorem bz_ft (b : Bool) : fits .boolean (.int (bz b)) = true := by cases b <;> rfl
theorem bz_inj {a b : Bool} (h : bz a = bz b) : a = b := by
  cases a <;> cases b <;> first | rfl | exact absurd h (by decide)
theorem cp_le {x y : Int64} (h : lg_cmp x y ≤ 0) : ¬ y < x := by
  intro q
  have e : lg_cmp x y = 1 := by simp [lg_cmp, q]
  rw [e] at h
  exact absurd h (by decide)
theorem cp_nle {x y : Int64} (h : ¬ lg_cmp x y ≤ 0) : y < x := by
  apply Classical.byContradiction
  intro q
  apply h
  by_cases h2 : x = y
  · have e : lg_cmp x y = 0 := by simp [lg_cmp, q, h2]
    rw [e]; decide
  · have e : lg_cmp x y = -1 := by simp [lg_cmp, q, h2]
    rw [e]; decide
theorem cp_gt {x y : Int64} (h : 0 < lg_cmp x y) : y < x := by
  apply Classical.byContradiction
  intro q
  by_cases h2 : x = y
  · have e : lg_cmp x y = 0 := by simp [lg_cmp, q, h2]
    rw [e] at h; exact absurd h (by decide)
  · have e : lg_cmp x y = -1 := by simp [lg_cmp, q, h2]
    rw [e] at h; exact absurd h (by decide)
theorem cp_ngt {x y : Int64} (h : ¬ 0 < lg_cmp x y) : ¬ y < x := by
  intro q
  apply h
  have e : lg_cmp x y = 1 := by simp [lg_cmp, q]
  rw [e]; decide
theorem cp_eq {x y : Int64} (h : lg_cmp x y = 0) : x = y := by
  apply Classical.byContradiction
  intro h2
  by_cases q : y < x
  · have e : lg_cmp x y = 1 := by simp [lg_cmp, q]
    rw [e] at h; exact absurd h (by decide)
  · have e : lg_cmp x y = -1 := by simp [lg_cmp, q, h2]
    rw [e] at h; exact absurd h (by decide)
theorem cp_ne {x y : Int64} (h : ¬ lg_cmp x y = 0) : ¬ x = y := by
  intro q
  apply h
  subst q
  simp [lg_cmp]
theorem cp_lt {x y : Int64} (h : lg_cmp x y < 0) : x < y := by
  apply Classical.byContradiction
  intro h2
  by_cases q : y < x
  · have e : lg_cmp x y = 1 := by simp [lg_cmp, q]
    rw [e] at h; exact absurd h (by decide)
  · have e2 : x = y := Int64.le_antisymm (Int64.not_lt.mp q) (Int64.not_lt.mp h2)
    have e : lg_cmp x y = 0 := by simp [lg_cmp, e2]
    rw [e] at h; exact absurd h (by decide)
theorem cp_nlt {x y : Int64} (h : ¬ lg_cmp x y < 0) : ¬ x < y := by
  intro q
  apply h
  have q1 : ¬ y < x := Int64.not_lt.mpr (Int64.le_of_lt q)
  have q2 : ¬ x = y := fun z => by rw [z] at q; exact absurd q Int64.lt_irrefl
  have e : lg_cmp x y = -1 := by simp [lg_cmp, q1, q2]
  rw [e]; decide
theorem cp_ge {x y : Int64} (h : 0 ≤ lg_cmp x y) : ¬ x < y := cp_nlt (Int32.not_lt.mpr h)
theorem cp_nge {x y : Int64} (h : ¬ 0 ≤ lg_cmp x y) : x < y := cp_lt (Int32.not_le.mp h)
section LAY
variable {p : Program} {l : Launch} {e : Env} {R : Room} {s : State} {m : MethodId} {args : Array Value} {below : List Frame} {meth : Method} {c : Code} {H : Heap} {locs : List Loc} {cells slots : Nat} {Q : State → Prop} {D : va_G} {cA : Nat → ClassId}
variable {y : MethodName} {b : ByteArray} {n : Nat} {ret : Option FieldType} {pc : Nat} {ls : Array Slot} {rest st : List Value}
theorem ro_in {rm : Room} {As : List Value} {B : Heap → Prop} {Qc : Array Value → State → Outcome → State → Prop} {mc ms : Nat} {free : Addr → Prop} (hy : plainName y.cls = true) (hn : (lg_sl As).length ≤ n)
    (body : ∀ (p : Program) (e : Env) (s : State) (m : MethodId) (below : List Frame) (meth : Method) (c : Code) (ls : Array Slot), FX p s m meth c As.toArray y b n ret → meth.name = y.name → KK D cA s → B s.heap → lv_has ls n (lv_args 0 As) → W p l e rm s m As.toArray below meth c s.heap [] 0 0 (MQ below Qc As.toArray s mc ms free) (F0 m 0 ls [])) :
    Met l y (.code y b n ret :: tb) rm (Pro D cA As B) Qc mc ms free := by
  refine Met.ofW (cc := b) (maxL := n) (ret := ret) hy rfl ?_
  intro p e s m args below meth c s₁ Bd hml hv
  obtain ⟨rfl, hK, hB⟩ := hv
  have hts := atoms_spec (ws := .code y b n ret :: tb) Bd.pre
  have hl := lv_entry As (n := n) hn
  rw [lg_entry_eq]
  exact body p e s m below meth c _ ⟨Bd.exec, Bd.bytes, hml, findClass_of_methodNamed Bd.named, fun w hw => hts w (List.mem_cons_of_mem _ hw), Bd.returns, Bd.notSynchronized⟩ (name_of_methodNamed Bd.named Bd.method).1 hK hB hl
theorem ro_iret {v v' : Int32} (F : FX p s m meth c args y b n (some .int)) (hv : v = v') (hdg : decode b pc = .ok (.ireturn, 1)) : W p l e R s m args below meth c s.heap [] 0 0 (MQ below (Qro (.int v')) args s 0 0 nof) (F0 m pc ls [.int v]) := by
  subst hv
  exact W.iret F.1 F.2.1 F.2.2.2.2.2.1 (fun t ht _ => ⟨rfl, ht⟩) (fun q h => by cases h) hdg F.2.2.2.2.2.2
theorem ro_zret {v : Int32} {v' : Bool} (F : FX p s m meth c args y b n (some .boolean)) (hv : v = bz v') (hdg : decode b pc = .ok (.ireturn, 1)) : W p l e R s m args below meth c s.heap [] 0 0 (MQ below (Qro (.int (bz v'))) args s 0 0 nof) (F0 m pc ls [.int v]) := by
  subst hv
  exact W.zret F.1 F.2.1 F.2.2.2.2.2.1 (bz_n v') (fun t ht _ => ⟨rfl, ht⟩) (fun q h => by cases h) hdg F.2.2.2.2.2.2
theorem ro_lret {v v' : Int64} (F : FX p s m meth c args y b n (some .long)) (hv : v = v') (hdg : decode b pc = .ok (.lreturn, 1)) : W p l e R s m args below meth c s.heap [] 0 0 (MQ below (Qro (.long v')) args s 0 0 nof) (F0 m pc ls [.long v]) := by
  subst hv
  exact W.lret F.1 F.2.1 F.2.2.2.2.2.1 (fun t ht _ => ⟨rfl, ht⟩) (fun q h => by cases h) hdg F.2.2.2.2.2.2
theorem ro_aret {v : Value} {v' : Option Nat} {C : String} (F : FX p s m meth c args y b n (some (.object C))) (hv : v = va_rf v') (hdg : decode b pc = .ok (.areturn, 1)) : W p l e R s m args below meth c s.heap [] 0 0 (MQ below (Qro (va_rf v')) args s 0 0 nof) (F0 m pc ls [v]) := by
  subst hv
  exact W.aret F.1 F.2.1 F.2.2.2.2.2.1 (Or.inl ⟨_, rfl⟩) (va_rf_or v') (fun t ht _ => ⟨rfl, ht⟩) (fun q h => by cases h) hdg F.2.2.2.2.2.2
/-- the call of a method that changes nothing goes on with its answer -/
theorem ro_call {v : Value} {a : Array Value} {g : JFrame} (hr : CallRun p l e R s m args below meth c H locs cells slots 0 0 g rest (Qro v a) nof) (kk : W p l e R s m args below meth c H locs cells slots Q { g with pc := g.pc + 3, stack := v :: rest }) : W p l e R s m args below meth c H locs cells slots Q g := by
  intro T hT X
  obtain ⟨v', st₀, t, T', L, h0, X', hL, e1, ⟨hv, hh⟩, st⟩ := hr T hT X
  cases hv
  obtain ⟨t2, a1, b1⟩ := kk T' (by rw [e1, hh, h0]) (Stand.forget X' (fun q h => (hL q h).elim))
  exact ⟨t2, st t2 a1, b1⟩
variable {y' : MethodName} {b' : ByteArray} {n' d idx kn : Nat} {ret' : Option FieldType} {As : List Value} {B : Heap → Prop} {v : Value} {host : String}
abbrev okd (y' : MethodName) (k : Nat) : Prop := y'.cls ≠ "java/lang/invoke/MethodHandle" ∧ y'.cls ≠ "java/lang/invoke/VarHandle" ∧ (parseMethodDescriptor y'.desc).map (fun d => d.parameters.length) = some k
theorem ro_cB (F : FX p s m meth c args y b n ret) (hc : Cond.code y' b' n' ret' ∈ tb) (hl : Cond.methodLink y.cls idx y' ∈ tb) (hi : Cond.initialized y'.cls ∈ tb) (hkn : As.length = kn) (hd : okd y' kn) (hR : d + 1 ≤ R.frames ∧ 8 + (n' + 11) + 40 * d ≤ R.locals) : CallB R s args y.cls idx y' b' n' ret' (.code y' b' n' ret' :: tb) (rmd d) 0 0 kn :=
  callB_of kn F.2.2.2.2.1 (tb_goodT hc) rfl rfl rfl (F.2.2.2.2.1 _ hi) (F.2.2.2.2.1 _ hl) hd hR
theorem ro_cN (F : FX p s m meth c args y b n ret) (hK : KK D cA s) (hc : Cond.code y' b' n' ret' ∈ tb) (hl : Cond.methodLinkNest y.cls idx y' host ∈ nests) (hi : Cond.initialized y'.cls ∈ tb) (hkn : As.length = kn) (hd : okd y' kn) (hR : d + 1 ≤ R.frames ∧ 8 + (n' + 11) + 40 * d ≤ R.locals) : va_CN R s args y.cls idx y' host b' n' ret' (.code y' b' n' ret' :: tb) (rmd d) 0 0 kn :=
  va_cnB kn F.2.2.2.2.1 (tb_goodT hc) rfl rfl rfl (hK.2.1 _ hl) (F.2.2.2.2.1 _ hi) hd hR
/-- a static method of the own class -/
theorem ro_S (F : FX p s m meth c args y b n ret) (hK : KK D cA s) (hM : Met l y' (.code y' b' n' ret' :: tb) (rmd d) (Pro D cA As B) (Qro v) 0 0 nof) (hB : B H) (hc : Cond.code y' b' n' ret' ∈ tb) (hl : Cond.methodLink y.cls idx y' ∈ tb) (hi : Cond.initialized y'.cls ∈ tb) (hs : Cond.static y' ∈ tb) (hkn : As.length = kn) (hd : okd y' kn) (hR : d + 1 ≤ R.frames ∧ 8 + (n' + 11) + 40 * d ≤ R.locals) (hf : cells ≤ R.cells ∧ slots ≤ R.slots) (hsz : ls.size = n) (hst : st = As.reverse ++ rest) (hW : (rest.map fun v => v.category).sum ≤ 8) (hdg : decode b pc = .ok (.invokestatic idx, 3))
    (kk : W p l e R s m args below meth c H locs cells slots Q (F0 m (pc + 3) ls (v :: rest))) : W p l e R s m args below meth c H locs cells slots Q (F0 m pc ls st) :=
  ro_call (va_runS (As := As) (rest := rest) ⟨F.1, F.2.1, F.2.2.1, F.2.2.2.1, F.2.2.2.2.1⟩ hM ⟨ro_cB F hc hl hi hkn hd hR, F.2.2.2.2.1 _ hs⟩ ⟨Pro.blind, fun U hU hW => ⟨rfl, hK.warm hW, by rw [hU]; exact hB⟩⟩ rfl hkn hsz hst (lv_room hW) hdg hf).run kk
/-- a private static method of a nest mate -/
theorem ro_SN (F : FX p s m meth c args y b n ret) (hK : KK D cA s) (hM : Met l y' (.code y' b' n' ret' :: tb) (rmd d) (Pro D cA As B) (Qro v) 0 0 nof) (hB : B H) (hc : Cond.code y' b' n' ret' ∈ tb) (hl : Cond.methodLinkNest y.cls idx y' host ∈ nests) (hi : Cond.initialized y'.cls ∈ tb) (hs : Cond.static y' ∈ tb) (hkn : As.length = kn) (hd : okd y' kn) (hR : d + 1 ≤ R.frames ∧ 8 + (n' + 11) + 40 * d ≤ R.locals) (hf : cells ≤ R.cells ∧ slots ≤ R.slots) (hsz : ls.size = n) (hst : st = As.reverse ++ rest) (hW : (rest.map fun v => v.category).sum ≤ 8) (hdg : decode b pc = .ok (.invokestatic idx, 3))
    (kk : W p l e R s m args below meth c H locs cells slots Q (F0 m (pc + 3) ls (v :: rest))) : W p l e R s m args below meth c H locs cells slots Q (F0 m pc ls st) :=
  ro_call (va_runSN (As := As) (rest := rest) ⟨F.1, F.2.1, F.2.2.1, F.2.2.2.1, F.2.2.2.2.1⟩ hM ⟨ro_cN F hK hc hl hi hkn hd hR, F.2.2.2.2.1 _ hs, trivial⟩ ⟨Pro.blind, fun U hU hW => ⟨rfl, hK.warm hW, by rw [hU]; exact hB⟩⟩ rfl hkn hsz hst (lv_room hW) hdg hf).run kk
variable {a : Nat} {ci q0 : Nat} {q : vw_C} {fs : List Value} {ws : va_W}
/-- a method of an object whose class is known -/
theorem ro_V (F : FX p s m meth c args y b n ret) (hK : KK D cA s) (hM : Met l y' (.code y' b' n' ret' :: tb) (rmd d) (Pro D cA (.ref a :: As) B) (Qro v) 0 0 nof) (hB : B H) (hP : va_P D classes ws H) (he : ws[q0]? = some (a, .inr (ci, fs))) (hcl : classes[ci]? = some q) (hcq : q.1 = y'.cls) (hc : Cond.code y' b' n' ret' ∈ tb) (hl : Cond.methodLink y.cls idx y' ∈ tb) (hi : Cond.initialized y'.cls ∈ tb) (hs : Cond.instanceMethod y' ∈ tb) (hse : Cond.selects y'.cls y' y' ∈ tb) (hkn : As.length = kn) (hd : okd y' kn) (hR : d + 1 ≤ R.frames ∧ 8 + (n' + 11) + 40 * d ≤ R.locals) (hf : cells ≤ R.cells ∧ slots ≤ R.slots) (hsz : ls.size = n) (hst : st = As.reverse ++ .ref a :: rest) (hW : (rest.map fun v => v.category).sum ≤ 8) (hdg : decode b pc = .ok (.invokevirtual idx, 3))
    (kk : W p l e R s m args below meth c H locs cells slots Q (F0 m (pc + 3) ls (v :: rest))) : W p l e R s m args below meth c H locs cells slots Q (F0 m pc ls st) :=
  ro_call (va_runV (As := As) (rest := rest) (C := y'.cls) ⟨F.1, F.2.1, F.2.2.1, F.2.2.2.1, F.2.2.2.2.1⟩ hM ⟨ro_cB F hc hl hi hkn hd hR, F.2.2.2.2.1 _ hs, F.2.2.2.2.1 _ hse⟩ ⟨Pro.blind, by rw [← hcq]; exact va_recv hK.1 hP hcl he, fun U hU hW => ⟨rfl, hK.warm hW, by rw [hU]; exact hB⟩⟩ rfl hkn hsz hst (lv_room hW) hdg hf).run kk
/-- a private method of an object, or one of a nest mate's -/
theorem ro_VN (F : FX p s m meth c args y b n ret) (hK : KK D cA s) (hM : Met l y' (.code y' b' n' ret' :: tb) (rmd d) (Pro D cA (.ref a :: As) B) (Qro v) 0 0 nof) (hB : B H) (hP : va_P D classes ws H) (he : ws[q0]? = some (a, .inr (ci, fs))) (hcl : classes[ci]? = some q) (hcq : q.1 = y'.cls) (hc : Cond.code y' b' n' ret' ∈ tb) (hl : Cond.methodLinkNest y.cls idx y' host ∈ nests) (hi : Cond.initialized y'.cls ∈ tb) (hs : Cond.instanceMethod y' ∈ tb) (hse : Cond.selects y'.cls y' y' ∈ tb) (hkn : As.length = kn) (hd : okd y' kn) (hR : d + 1 ≤ R.frames ∧ 8 + (n' + 11) + 40 * d ≤ R.locals) (hf : cells ≤ R.cells ∧ slots ≤ R.slots) (hsz : ls.size = n) (hst : st = As.reverse ++ .ref a :: rest) (hW : (rest.map fun v => v.category).sum ≤ 8) (hdg : decode b pc = .ok (.invokevirtual idx, 3))
    (kk : W p l e R s m args below meth c H locs cells slots Q (F0 m (pc + 3) ls (v :: rest))) : W p l e R s m args below meth c H locs cells slots Q (F0 m pc ls st) :=
  ro_call (va_runVN (As := As) (rest := rest) (C := y'.cls) ⟨F.1, F.2.1, F.2.2.1, F.2.2.2.1, F.2.2.2.2.1⟩ hM ⟨ro_cN F hK hc hl hi hkn hd hR, F.2.2.2.2.1 _ hs, F.2.2.2.2.1 _ hse⟩ ⟨Pro.blind, by rw [← hcq]; exact va_recv hK.1 hP hcl he, fun U hU hW => ⟨rfl, hK.warm hW, by rw [hU]; exact hB⟩⟩ rfl hkn hsz hst (lv_room hW) hdg hf).run kk
variable {C : String} {T : u_T} {N : Nat}
theorem ro_get (F : FX p s m meth c args y b n ret) (hK : KK D cA s) (hP : va_P D classes ws H) (q0 k : Nat) (he : ws[q0]? = some (a, .inr (ci, fs))) (hcl : classes[ci]? = some (C, T, N)) (hv : fs[k]? = some v) (hin : ∀ w ∈ u_ws C T N, w ∈ tb) (hk : k < N) (hl : Cond.fieldLink y.cls idx (T k).1 (T k).2.1 (T k).2.2.1 ∈ tb) (hdg : decode b pc = .ok (.getfield idx, 3))
    (kk : W p l e R s m args below meth c H locs cells slots Q (F0 m (pc + 3) ls (v :: rest))) : W p l e R s m args below meth c H locs cells slots Q (F0 m pc ls (.ref a :: rest)) :=
  va_get F.1 F.2.1 F.2.2.2.2.1 hin F.2.2.2.1 hK.1 hP q0 he hcl k hk (F.2.2.2.2.1 _ hl) (fun _ h => h) hv hdg kk
theorem ro_getN (F : FX p s m meth c args y b n ret) (hK : KK D cA s) (hP : va_P D classes ws H) (q0 k : Nat) (he : ws[q0]? = some (a, .inr (ci, fs))) (hcl : classes[ci]? = some (C, T, N)) (hv : fs[k]? = some v) (hin : ∀ w ∈ u_ws C T N, w ∈ tb) (hk : k < N) (hl : Cond.fieldLinkNest y.cls idx (T k).1 (T k).2.1 (T k).2.2.1 host ∈ nests) (hdg : decode b pc = .ok (.getfield idx, 3))
    (kk : W p l e R s m args below meth c H locs cells slots Q (F0 m (pc + 3) ls (v :: rest))) : W p l e R s m args below meth c H locs cells slots Q (F0 m pc ls (.ref a :: rest)) :=
  va_getN F.1 F.2.1 F.2.2.2.2.1 hin F.2.2.2.1 hK.1 hP q0 he hcl k hk (va_Nw.use rfl (hK.2.1 _ hl)) (fun _ h => h) hv hdg kk
end LAY
/-- the cells of a world -/
def aw (ws : va_W) : Nat → Prop := fun q => ∃ (k : Nat) (e : va_E), ws[k]? = some (q, e)
theorem aw_self {ws : va_W} {A : Nat → Prop} (h : va_D A ws) : va_D (aw ws) ws := ⟨h.1, fun k q hk => ⟨k, q.2, hk⟩⟩
theorem aw_in {A : Nat → Prop} {ws wc : va_W} (hD : va_D A ws) (is : List Nat) (hC : is.map (fun i => ws[i]?) = wc.map some) : ∀ q, aw wc q → A q := by
  intro q h
  obtain ⟨k, e, h⟩ := h
  have h1 : (is.map (fun i => ws[i]?))[k]? = some (some (q, e)) := by rw [hC, List.getElem?_map, h]; rfl
  rw [List.getElem?_map] at h1
  cases hi : is[k]? with
  | none => rw [hi] at h1; cases h1
  | some i => rw [hi] at h1; exact hD.2 i (q, e) (Option.some.inj h1)
/-- behind a call that changed the cells wc to w1: they beside the rest, which is as it was -/
theorem mu_join {A0 : Nat → Prop} {D : va_G} {cl : List vw_C} {ws wc wr w1 : va_W} {H H1 : Heap} (hP : va_P D cl ws H) (hD : va_D A0 ws) (isC isR : List Nat) (hC : isC.map (fun i => ws[i]?) = wc.map some) (hR : isR.map (fun i => ws[i]?) = wr.map some) (hn : va_nd isR = true) (hdis : ∀ i ∈ isR, i ∉ isC)
    (hk : ∀ q : Nat, q < H.size → ¬ aw wc q → H1[q]? = H[q]?) (hP1 : va_P D cl w1 H1) (hD1 : va_D (aw wc) w1) : va_P D cl (wr ++ w1) H1 ∧ va_D A0 (wr ++ w1) := by
  have at' : ∀ {is : List Nat} {w : va_W}, is.map (fun i => ws[i]?) = w.map some → ∀ (k : Nat) (q : Nat × va_E), w[k]? = some q → ∃ i, is[k]? = some i ∧ ws[i]? = some q := by
    intro is w hs k q hq
    have h1 : (is.map (fun i => ws[i]?))[k]? = some (some q) := by rw [hs, List.getElem?_map, hq]; rfl
    rw [List.getElem?_map] at h1
    cases hi : is[k]? with
    | none => rw [hi] at h1; cases h1
    | some i => rw [hi] at h1; exact ⟨i, rfl, Option.some.inj h1⟩
  have apart : ∀ (k : Nat) (q : Nat × va_E), wr[k]? = some q → q.1 < H.size ∧ ¬ aw wc q.1 := by
    intro k q hq
    obtain ⟨i, h1, h2⟩ := at' hR k q hq
    refine ⟨(hP i q h2).lt, fun h => ?_⟩
    obtain ⟨k2, e, h⟩ := h
    obtain ⟨j, h3, h4⟩ := at' hC k2 (q.1, e) h
    have hij := hD.1 i j q (q.1, e) h2 h4 rfl
    subst hij
    exact hdis i (List.mem_of_getElem? h1) (List.mem_of_getElem? h3)
  refine ⟨va_P.app (fun k q hq => ?_) hP1, va_D.app (hD.sub isR hn hR) (hD1.weaken (fun k q _ h => aw_in hD isC hC q.1 h)) (fun i j x y hx hy hxy => ?_)⟩
  · obtain ⟨i, h1, h2⟩ := at' hR k q hq
    obtain ⟨g1, g2⟩ := apart k q hq
    exact (hP i q h2).kept (hk q.1 g1 g2)
  · exact (apart i x hx).2 (by rw [hxy]; exact hD1.2 j y hy)
section LAY2
variable {p : Program} {l : Launch} {e : Env} {R : Room} {s : State} {m : MethodId} {args : Array Value} {below : List Frame} {meth : Method} {c : Code} {H : Heap} {locs : List Loc} {cells slots : Nat} {Q : State → Prop} {D : va_G} {cA : Nat → ClassId}
variable {y : MethodName} {b : ByteArray} {n : Nat} {ret : Option FieldType} {pc : Nat} {ls : Array Slot} {rest st : List Value}
theorem ro_to {v v' : Value} {g : JFrame} {H0 : Heap} (h : v' = v) (k : W p l e R s m args below meth c H0 [] 0 0 (MQ below (Qro v) args s 0 0 nof) g) : W p l e R s m args below meth c H0 [] 0 0 (MQ below (Qro v') args s 0 0 nof) g := by
  rw [h]; exact k
variable {A : Nat → Prop} {P : Option Value → Heap → Prop}
theorem mu_iret {v : Int32} (F : FX p s m meth c args y b n (some .int)) (hS : va_S A s.heap H locs) (hP : P (some (.int v)) H) (hdg : decode b pc = .ok (.ireturn, 1)) : W p l e R s m args below meth c H locs cells slots (MQ below (Qmu A P) args s cells slots A) (F0 m pc ls [.int v]) :=
  W.iret F.1 F.2.1 F.2.2.2.2.2.1 (fun t ht _ => ⟨⟨_, rfl, by rw [ht]; exact hP⟩, hS.F ht⟩) hS.2.2 hdg F.2.2.2.2.2.2
theorem mu_lret {v : Int64} (F : FX p s m meth c args y b n (some .long)) (hS : va_S A s.heap H locs) (hP : P (some (.long v)) H) (hdg : decode b pc = .ok (.lreturn, 1)) : W p l e R s m args below meth c H locs cells slots (MQ below (Qmu A P) args s cells slots A) (F0 m pc ls [.long v]) :=
  W.lret F.1 F.2.1 F.2.2.2.2.2.1 (fun t ht _ => ⟨⟨_, rfl, by rw [ht]; exact hP⟩, hS.F ht⟩) hS.2.2 hdg F.2.2.2.2.2.2
theorem mu_zret {v : Int32} (v' : Bool) (hv : v = bz v') (F : FX p s m meth c args y b n (some .boolean)) (hS : va_S A s.heap H locs) (hP : P (some (.int (bz v'))) H) (hdg : decode b pc = .ok (.ireturn, 1)) : W p l e R s m args below meth c H locs cells slots (MQ below (Qmu A P) args s cells slots A) (F0 m pc ls [.int v]) := by
  subst hv
  exact W.zret F.1 F.2.1 F.2.2.2.2.2.1 (bz_n v') (fun t ht _ => ⟨⟨_, rfl, by rw [ht]; exact hP⟩, hS.F ht⟩) hS.2.2 hdg F.2.2.2.2.2.2
theorem mu_vret (F : FX p s m meth c args y b n none) (hS : va_S A s.heap H locs) (hP : P none H) (hdg : decode b pc = .ok (.return_, 1)) : W p l e R s m args below meth c H locs cells slots (MQ below (Qmu A P) args s cells slots A) (F0 m pc ls []) :=
  W.vret F.1 F.2.1 F.2.2.2.2.2.1 (fun t ht _ => ⟨⟨_, rfl, by rw [ht]; exact hP⟩, hS.F ht⟩) hS.2.2 hdg F.2.2.2.2.2.2
theorem mu_call {A0 : Nat → Prop} {a : Array Value} {g : JFrame} {H0 : Heap} {mc ms : Nat} {free : Addr → Prop} (hr : CallRun p l e R s m args below meth c H locs cells slots mc ms g rest (Qmu A P a) free) (hS : va_S A0 H0 H locs) (hA : ∀ q, q < H.size → A q → A0 q) (hfr : ∀ q, free q → A0 q)
    (kk : ∀ (v : Option Value) (H1 : Heap) (locs1 : List Loc), P v H1 → H.size ≤ H1.size → (∀ q : Nat, q < H.size → ¬ A q → H1[q]? = H[q]?) → va_S A0 H0 H1 locs1 → W p l e R s m args below meth c H1 locs1 (cells + mc) (slots + ms) Q { g with pc := g.pc + 3, stack := v.toList ++ rest }) : W p l e R s m args below meth c H locs cells slots Q g := by
  intro T hT X
  obtain ⟨v, st₀, t, T', L, h0, X', hL, e1, ⟨⟨v', hv, hp⟩, hz, hk⟩, st⟩ := hr T hT X
  cases hv
  rw [h0] at hz hk
  obtain ⟨t2, a1, b1⟩ := kk v T'.heap (locs ++ L) (by rw [e1]; exact hp) (by rw [e1]; exact hz) (fun q h1 h2 => by rw [e1]; exact hk q h1 h2)
    ⟨Nat.le_trans hS.1 (by rw [e1]; exact hz), fun q h1 h2 => by rw [e1, hk q (Nat.lt_of_lt_of_le h1 hS.1) (fun z => h2 (hA q (Nat.lt_of_lt_of_le h1 hS.1) z))]; exact hS.2.1 q h1 h2, fun q hq => by
      rcases List.mem_append.mp hq with h | h
      · exact hS.2.2 q h
      · exact hfr _ (hL q h)⟩ T' rfl X'
  exact ⟨t2, st t2 a1, b1⟩
variable {y' : MethodName} {b' : ByteArray} {n' d idx kn : Nat} {ret' : Option FieldType} {As : List Value} {host : String} {a : Nat} {ci q0 : Nat} {q : vw_C} {fs : List Value} {ws wc : va_W} {A0 : Nat → Prop} {H0 : Heap}
/-- a method that changes the cells wc of the object's world -/
theorem mu_V (F : FX p s m meth c args y b n ret) (hK : KK D cA s) (hM : Met l y' (.code y' b' n' ret' :: tb) (rmd d) (Pro D cA (.ref a :: As) (fun H0 => va_P D classes wc H0 ∧ va_D (fun _ => True) wc)) (Qmu (aw wc) P) 0 0 (aw wc)) (hPc : va_P D classes wc H) (hDc : va_D A0 wc) (hP : va_P D classes ws H) (he : ws[q0]? = some (a, .inr (ci, fs))) (hcl : classes[ci]? = some q) (hcq : q.1 = y'.cls) (hc : Cond.code y' b' n' ret' ∈ tb) (hl : Cond.methodLink y.cls idx y' ∈ tb) (hi : Cond.initialized y'.cls ∈ tb) (hs : Cond.instanceMethod y' ∈ tb) (hse : Cond.selects y'.cls y' y' ∈ tb) (hkn : As.length = kn) (hd : okd y' kn) (hR : d + 1 ≤ R.frames ∧ 8 + (n' + 11) + 40 * d ≤ R.locals) (hf : cells ≤ R.cells ∧ slots ≤ R.slots) (hsz : ls.size = n) (hst : st = As.reverse ++ .ref a :: rest) (hW : (rest.map fun v => v.category).sum ≤ 8) (hdg : decode b pc = .ok (.invokevirtual idx, 3)) (hS : va_S A0 H0 H locs) (hA : ∀ q, aw wc q → A0 q)
    (kk : ∀ (v : Option Value) (H1 : Heap) (locs1 : List Loc), P v H1 → H.size ≤ H1.size → (∀ q : Nat, q < H.size → ¬ aw wc q → H1[q]? = H[q]?) → va_S A0 H0 H1 locs1 → W p l e R s m args below meth c H1 locs1 cells slots Q (F0 m (pc + 3) ls (v.toList ++ rest))) : W p l e R s m args below meth c H locs cells slots Q (F0 m pc ls st) :=
  mu_call (va_runV (As := As) (rest := rest) (C := y'.cls) ⟨F.1, F.2.1, F.2.2.1, F.2.2.2.1, F.2.2.2.2.1⟩ hM ⟨ro_cB F hc hl hi hkn hd hR, F.2.2.2.2.1 _ hs, F.2.2.2.2.1 _ hse⟩ ⟨Pro.blind, by rw [← hcq]; exact va_recv hK.1 hP hcl he, fun U hU hW => ⟨rfl, hK.warm hW, by rw [hU]; exact ⟨hPc, hDc.weaken (fun _ _ _ _ => trivial)⟩⟩⟩ rfl hkn hsz hst (lv_room hW) hdg hf).run hS (fun q _ h => hA q h) hA kk
theorem mu_VN (F : FX p s m meth c args y b n ret) (hK : KK D cA s) (hM : Met l y' (.code y' b' n' ret' :: tb) (rmd d) (Pro D cA (.ref a :: As) (fun H0 => va_P D classes wc H0 ∧ va_D (fun _ => True) wc)) (Qmu (aw wc) P) 0 0 (aw wc)) (hPc : va_P D classes wc H) (hDc : va_D A0 wc) (hP : va_P D classes ws H) (he : ws[q0]? = some (a, .inr (ci, fs))) (hcl : classes[ci]? = some q) (hcq : q.1 = y'.cls) (hc : Cond.code y' b' n' ret' ∈ tb) (hl : Cond.methodLinkNest y.cls idx y' host ∈ nests) (hi : Cond.initialized y'.cls ∈ tb) (hs : Cond.instanceMethod y' ∈ tb) (hse : Cond.selects y'.cls y' y' ∈ tb) (hkn : As.length = kn) (hd : okd y' kn) (hR : d + 1 ≤ R.frames ∧ 8 + (n' + 11) + 40 * d ≤ R.locals) (hf : cells ≤ R.cells ∧ slots ≤ R.slots) (hsz : ls.size = n) (hst : st = As.reverse ++ .ref a :: rest) (hW : (rest.map fun v => v.category).sum ≤ 8) (hdg : decode b pc = .ok (.invokevirtual idx, 3)) (hS : va_S A0 H0 H locs) (hA : ∀ q, aw wc q → A0 q)
    (kk : ∀ (v : Option Value) (H1 : Heap) (locs1 : List Loc), P v H1 → H.size ≤ H1.size → (∀ q : Nat, q < H.size → ¬ aw wc q → H1[q]? = H[q]?) → va_S A0 H0 H1 locs1 → W p l e R s m args below meth c H1 locs1 cells slots Q (F0 m (pc + 3) ls (v.toList ++ rest))) : W p l e R s m args below meth c H locs cells slots Q (F0 m pc ls st) :=
  mu_call (va_runVN (As := As) (rest := rest) (C := y'.cls) ⟨F.1, F.2.1, F.2.2.1, F.2.2.2.1, F.2.2.2.2.1⟩ hM ⟨ro_cN F hK hc hl hi hkn hd hR, F.2.2.2.2.1 _ hs, F.2.2.2.2.1 _ hse⟩ ⟨Pro.blind, by rw [← hcq]; exact va_recv hK.1 hP hcl he, fun U hU hW => ⟨rfl, hK.warm hW, by rw [hU]; exact ⟨hPc, hDc.weaken (fun _ _ _ _ => trivial)⟩⟩⟩ rfl hkn hsz hst (lv_room hW) hdg hf).run hS (fun q _ h => hA q h) hA kk
end LAY2
theorem k_lt {k B : Nat} {xi b : Int32} (hx : xi = nI k) (hb : b = nI B) (h : ¬ b ≤ xi) (hk : k < 2 ^ 31) : k < B := by
  subst hx; subst hb
  exact Nat.lt_of_not_le (fun q => h (nI_le q hk))
theorem vin {k N : Nat} {xi : Int32} (hx : xi = nI k) (h : k < N) (hN : N < 2 ^ 31) : vp_in xi N := by
  rw [hx]; exact vp_in_nI h hN
theorem in_nI {x : Int32} (h0 : ¬ x < 0) (h : ¬ (40 : Int32) ≤ x) : ∃ j : Nat, j < 40 ∧ x = nI j := by
  obtain ⟨j, hj, e⟩ := nI_of h0
  refine ⟨j, ?_, e⟩
  exact k_lt e (rfl : (40 : Int32) = nI 40) h hj
theorem upd_bz {bh : Nat → Bool} {k : Nat} {b : Bool} : upd (fun i => bz (bh i)) k (vp_nar .boolean (bz b)) = (fun i => bz (va_up bh k b i)) := by
  funext i
  unfold upd va_up
  by_cases h : i = k
  · rw [if_pos h, if_pos h]
    cases b <;> rfl
  · rw [if_neg h, if_neg h]
theorem vlin {a b : Nat} {x y : Int32} (c N : Nat) (hx : x = nI a) (hy : y = nI b) (h : c * a + b < N) (hN : N < 2 ^ 31) : vp_in (nI c * x + y) N := by
  rw [hx, hy, pk_mul, nI_add]
  exact vp_in_nI h hN
theorem vlin0 {a : Nat} {x : Int32} (c N : Nat) (hx : x = nI a) (h : c * a < N) (hN : N < 2 ^ 31) : vp_in (nI c * x) N := by
  rw [hx, pk_mul]
  exact vp_in_nI h hN
def rma (d mc ms : Nat) : Room := { frames := d, cells := mc, slots := ms, locals := 40 * d }
section LAY4
variable {p : Program} {l : Launch} {e : Env} {R : Room} {s : State} {m : MethodId} {args : Array Value} {below : List Frame} {meth : Method} {c : Code} {H : Heap} {locs : List Loc} {cells slots : Nat} {Q : State → Prop} {D : va_G} {cA : Nat → ClassId}
variable {y : MethodName} {b : ByteArray} {n : Nat} {ret : Option FieldType} {pc : Nat} {ls : Array Slot} {rest st : List Value} {P : Option Value → Heap → Prop}
variable {y' : MethodName} {b' : ByteArray} {n' d idx kn mc ms : Nat} {As : List Value} {a : Nat} {wc : va_W} {A0 : Nat → Prop} {H0 : Heap}
/-- a constructor that makes cells: mc of them, with ms slots -/
theorem al_I (F : FX p s m meth c args y b n ret) (hK : KK D cA s) (hM : Met l y' (.code y' b' n' none :: tb) (rma d mc ms) (Pro D cA (.ref a :: As) (fun H0 => H0.size = H.size ∧ va_P D classes wc H0 ∧ va_D (fun _ => True) wc)) (Qmu (va_A wc H.size) P) mc ms (va_A wc H.size)) (hPc : va_P D classes wc H) (hDc : va_D A0 wc) (hc : Cond.code y' b' n' none ∈ tb) (hl : Cond.methodLink y.cls idx y' ∈ tb) (hi : Cond.initialized y'.cls ∈ tb) (hs : Cond.instanceMethod y' ∈ tb) (hy1 : y'.name = "<init>") (hkn : As.length = kn) (hd : okd y' kn) (hR : d + 1 ≤ R.frames ∧ 8 + (n' + 11) + 40 * d ≤ R.locals) (hf : cells + mc ≤ R.cells ∧ slots + ms ≤ R.slots) (hsz : ls.size = n) (hst : st = As.reverse ++ .ref a :: rest) (hW : (rest.map fun v => v.category).sum ≤ 8) (hdg : decode b pc = .ok (.invokespecial idx, 3)) (hS : va_S A0 H0 H locs) (hA : ∀ q, va_A wc H.size q → A0 q)
    (kk : ∀ (v : Option Value) (H1 : Heap) (locs1 : List Loc), P v H1 → H.size ≤ H1.size → (∀ q : Nat, q < H.size → ¬ va_A wc H.size q → H1[q]? = H[q]?) → va_S A0 H0 H1 locs1 → W p l e R s m args below meth c H1 locs1 (cells + mc) (slots + ms) Q (F0 m (pc + 3) ls (v.toList ++ rest))) : W p l e R s m args below meth c H locs cells slots Q (F0 m pc ls st) :=
  mu_call (va_runI (As := As) (rest := rest) ⟨F.1, F.2.1, F.2.2.1, F.2.2.2.1, F.2.2.2.2.1⟩ hM ⟨callB_of kn F.2.2.2.2.1 (tb_goodT hc) rfl rfl rfl (F.2.2.2.2.1 _ hi) (F.2.2.2.2.1 _ hl) hd hR, hy1, F.2.2.2.2.1 _ hs⟩ ⟨Pro.blind, fun U hU hW => ⟨rfl, hK.warm hW, by rw [hU]; exact ⟨rfl, hPc, hDc.weaken (fun _ _ _ _ => trivial)⟩⟩⟩ rfl hkn hsz hst (lv_room hW) hdg hf).run hS (fun q _ h => hA q h) hA kk
theorem arr_same {cL : ClassId} {ty : FieldType} (k : Nat) (hk : (tyz cA)[k]? = some (cA k, ty)) (hK : KK D cA s) (h : va_K D classes (tyz cA ++ [(cL, ty)]) s) (hr : ∀ c c', va_RA s c ty → va_RA s c' ty → c = c') : cL = cA k := by
  have h1 := (hK.1.2 k _ hk).2
  have h2 := (h.2 (tyz cA).length (cL, ty) (by rw [List.getElem?_append_right (Nat.le_refl _), Nat.sub_self]; rfl)).2
  exact hr _ _ h2 h1
theorem ra_prim {ty : FieldType} (hty : ∀ C, ty ≠ .object C) {c c' : ClassId} (h : va_RA s c ty) (h' : va_RA s c' ty) : c = c' := by
  cases ty with
  | object C => exact absurd rfl (hty C)
  | _ => exact Option.some.inj (Eq.trans (Eq.symm h) h')
theorem ra_obj {C : String} {c c' : ClassId} (h : va_RA s c (.object C)) (h' : va_RA s c' (.object C)) : c = c' := by
  obtain ⟨_, _, _, _, _, h1⟩ := h
  obtain ⟨_, _, _, _, _, h2⟩ := h'
  exact Option.some.inj (h1.symm.trans h2)
end LAY4
end
section
theorem n_x : ∀ a, a < 3 → ∀ b, b < 3 → a ≠ b → (F_x a).2.1 ≠ (F_x b).2.1 := by decide +kernel
theorem t_x_ok : ∀ k, k < 3 → parseFieldDescriptor (F_x k).2.2.1 = some (t_x k) := by decide +kernel
set_option maxRecDepth 100000 in
theorem i_x : ∀ w ∈ u_ws R_x F_x 3, w ∈ tb := by decide +kernel
theorem n_g : ∀ a, a < 5 → ∀ b, b < 5 → a ≠ b → (F_g a).2.1 ≠ (F_g b).2.1 := by decide +kernel
theorem t_g_ok : ∀ k, k < 5 → parseFieldDescriptor (F_g k).2.2.1 = some (t_g k) := by decide +kernel
set_option maxRecDepth 100000 in
theorem i_g : ∀ w ∈ u_ws R_g F_g 5, w ∈ tb := by decide +kernel
theorem n_t : ∀ a, a < 11 → ∀ b, b < 11 → a ≠ b → (F_t a).2.1 ≠ (F_t b).2.1 := by decide +kernel
theorem t_t_ok : ∀ k, k < 11 → parseFieldDescriptor (F_t k).2.2.1 = some (t_t k) := by decide +kernel
set_option maxRecDepth 100000 in
theorem i_t : ∀ w ∈ u_ws R_t F_t 11, w ∈ tb := by decide +kernel
theorem n_m : ∀ a, a < 16 → ∀ b, b < 16 → a ≠ b → (F_m a).2.1 ≠ (F_m b).2.1 := by decide +kernel
theorem t_m_ok : ∀ k, k < 16 → parseFieldDescriptor (F_m k).2.2.1 = some (t_m k) := by decide +kernel
set_option maxRecDepth 100000 in
theorem i_m : ∀ w ∈ u_ws R_m F_m 16, w ∈ tb := by decide +kernel
theorem ok_g_init : okd y_g_init 0 := by decide +kernel
theorem ok_t_init : okd y_t_init 1 := by decide +kernel
theorem ok_x_init : okd y_x_init 0 := by decide +kernel
theorem ok_lo_bitCount : okd y_lo_bitCount 1 := by decide +kernel
theorem ok_x_isNumber : okd y_x_isNumber 1 := by decide +kernel
theorem ok_x_only : okd y_x_only 1 := by decide +kernel
theorem ok_x_contains : okd y_x_contains 2 := by decide +kernel
theorem ok_x_isFlake : okd y_x_isFlake 2 := by decide +kernel
theorem ok_x_isSure : okd y_x_isSure 1 := by decide +kernel
theorem ok_g_holds : okd y_g_holds 1 := by decide +kernel
theorem ok_g_mayBeParent : okd y_g_mayBeParent 1 := by decide +kernel
theorem ok_g_reach : okd y_g_reach 1 := by decide +kernel
theorem ok_g_isBuilt : okd y_g_isBuilt 1 := by decide +kernel
theorem ok_g_isSkipped : okd y_g_isSkipped 1 := by decide +kernel
theorem ok_g_builtCount : okd y_g_builtCount 0 := by decide +kernel
theorem ok_g_stepToward : okd y_g_stepToward 2 := by decide +kernel
theorem ok_g_markBuilt : okd y_g_markBuilt 1 := by decide +kernel
theorem ok_g_markSkipped : okd y_g_markSkipped 1 := by decide +kernel
theorem ok_g_add : okd y_g_add 1 := by decide +kernel
theorem ok_t_isSearched : okd y_t_isSearched 0 := by decide +kernel
theorem ok_t_isCleared : okd y_t_isCleared 1 := by decide +kernel
theorem ok_t_weightOf : okd y_t_weightOf 1 := by decide +kernel
theorem ok_t_weightWithin : okd y_t_weightWithin 1 := by decide +kernel
theorem ok_t_weightOfAll : okd y_t_weightOfAll 0 := by decide +kernel
theorem ok_t_culprit : okd y_t_culprit 0 := by decide +kernel
theorem ok_t_mostEven : okd y_t_mostEven 0 := by decide +kernel
theorem ok_t_standing : okd y_t_standing 0 := by decide +kernel
theorem ok_t_asked : okd y_t_asked 0 := by decide +kernel
theorem ok_t_likelihood : okd y_t_likelihood 2 := by decide +kernel
theorem ok_t_rankOf : okd y_t_rankOf 1 := by decide +kernel
theorem ok_t_ranked : okd y_t_ranked 1 := by decide +kernel
theorem ok_t_onWay : okd y_t_onWay 1 := by decide +kernel
theorem ok_t_markGood : okd y_t_markGood 1 := by decide +kernel
theorem ok_t_giveUp : okd y_t_giveUp 0 := by decide +kernel
theorem ok_t_skip : okd y_t_skip 1 := by decide +kernel
theorem ok_t_start : okd y_t_start 4 := by decide +kernel
theorem ok_t_learn : okd y_t_learn 2 := by decide +kernel
theorem ok_x_targetAt : okd y_x_targetAt 1 := by decide +kernel
theorem ok_x_searchAt : okd y_x_searchAt 1 := by decide +kernel
theorem ok_x_has : okd y_x_has 2 := by decide +kernel
theorem ok_x_state : okd y_x_state 1 := by decide +kernel
theorem ok_x_next : okd y_x_next 1 := by decide +kernel
theorem ok_x_weight : okd y_x_weight 2 := by decide +kernel
theorem ok_x_part : okd y_x_part 2 := by decide +kernel
theorem ok_x_total : okd y_x_total 1 := by decide +kernel
theorem ok_x_found : okd y_x_found 1 := by decide +kernel
theorem ok_x_told : okd y_x_told 2 := by decide +kernel
theorem ok_x_way : okd y_x_way 2 := by decide +kernel
theorem ok_x_counted : okd y_x_counted 2 := by decide +kernel
theorem ok_x_change : okd y_x_change 3 := by decide +kernel
theorem ok_x_good : okd y_x_good 2 := by decide +kernel
theorem ok_x_begin : okd y_x_begin 5 := by decide +kernel
theorem ok_x_stop : okd y_x_stop 1 := by decide +kernel
theorem ok_x_answer : okd y_x_answer 2 := by decide +kernel
theorem ok_x_target : okd y_x_target 0 := by decide +kernel
theorem km_g_3 : Cond.methodLink "CulpritSearch$Graph" 3 objectInit ∈ tb := tb_mem 32 (by decide +kernel) (by decide +kernel)
theorem ks_objInit : Cond.instanceMethod objectInit ∈ tb := tb_mem 25 (by decide +kernel) (by decide +kernel)
theorem kc_objInit : Cond.code objectInit ⟨#[0xb1]⟩ 1 none ∈ tb := tb_mem 26 (by decide +kernel) (by decide +kernel)
theorem ka_long : Cond.arrayClass .long ∈ tb := tb_mem 50 (by decide +kernel) (by decide +kernel)
theorem kf_g_9 : Cond.fieldLink "CulpritSearch$Graph" 9 "CulpritSearch$Graph" "parents" "[J" ∈ tb := tb_mem 33 (by decide +kernel) (by decide +kernel)
theorem kf_g_15 : Cond.fieldLink "CulpritSearch$Graph" 15 "CulpritSearch$Graph" "reaches" "[J" ∈ tb := tb_mem 34 (by decide +kernel) (by decide +kernel)
theorem kf_g_18 : Cond.fieldLink "CulpritSearch$Graph" 18 "CulpritSearch$Graph" "size" "I" ∈ tb := tb_mem 35 (by decide +kernel) (by decide +kernel)
theorem kf_g_22 : Cond.fieldLink "CulpritSearch$Graph" 22 "CulpritSearch$Graph" "built" "J" ∈ tb := tb_mem 37 (by decide +kernel) (by decide +kernel)
theorem kf_g_26 : Cond.fieldLink "CulpritSearch$Graph" 26 "CulpritSearch$Graph" "skipped" "J" ∈ tb := tb_mem 38 (by decide +kernel) (by decide +kernel)
theorem km_t_3 : Cond.methodLink "CulpritSearch$Target" 3 objectInit ∈ tb := tb_mem 108 (by decide +kernel) (by decide +kernel)
theorem kf_t_9 : Cond.fieldLink "CulpritSearch$Target" 9 "CulpritSearch$Target" "graph" "LCulpritSearch$Graph;" ∈ tb := tb_mem 109 (by decide +kernel) (by decide +kernel)
theorem kf_t_15 : Cond.fieldLink "CulpritSearch$Target" 15 "CulpritSearch$Target" "weights" "[J" ∈ tb := tb_mem 110 (by decide +kernel) (by decide +kernel)
theorem kf_t_19 : Cond.fieldLink "CulpritSearch$Target" 19 "CulpritSearch$Target" "goodOnes" "J" ∈ tb := tb_mem 111 (by decide +kernel) (by decide +kernel)
theorem kf_t_23 : Cond.fieldLink "CulpritSearch$Target" 23 "CulpritSearch$Target" "cleared" "J" ∈ tb := tb_mem 112 (by decide +kernel) (by decide +kernel)
theorem kf_t_26 : Cond.fieldLink "CulpritSearch$Target" 26 "CulpritSearch$Target" "searched" "Z" ∈ tb := tb_mem 113 (by decide +kernel) (by decide +kernel)
theorem kf_t_30 : Cond.fieldLink "CulpritSearch$Target" 30 "CulpritSearch$Target" "bad" "I" ∈ tb := tb_mem 114 (by decide +kernel) (by decide +kernel)
theorem kf_t_34 : Cond.fieldLink "CulpritSearch$Target" 34 "CulpritSearch$Target" "p" "I" ∈ tb := tb_mem 116 (by decide +kernel) (by decide +kernel)
theorem kf_t_37 : Cond.fieldLink "CulpritSearch$Target" 37 "CulpritSearch$Target" "q" "I" ∈ tb := tb_mem 117 (by decide +kernel) (by decide +kernel)
theorem kf_t_40 : Cond.fieldLink "CulpritSearch$Target" 40 "CulpritSearch$Target" "sure" "I" ∈ tb := tb_mem 118 (by decide +kernel) (by decide +kernel)
theorem kf_t_43 : Cond.fieldLink "CulpritSearch$Target" 43 "CulpritSearch$Target" "answers" "I" ∈ tb := tb_mem 119 (by decide +kernel) (by decide +kernel)
theorem kf_t_46 : Cond.fieldLink "CulpritSearch$Target" 46 "CulpritSearch$Target" "skips" "I" ∈ tb := tb_mem 121 (by decide +kernel) (by decide +kernel)
theorem km_x_1 : Cond.methodLink "CulpritSearch" 1 objectInit ∈ tb := tb_mem 24 (by decide +kernel) (by decide +kernel)
theorem kk_x_7 : Cond.classLink "CulpritSearch" 7 "CulpritSearch$Graph" ∈ tb := tb_mem 27 (by decide +kernel) (by decide +kernel)
theorem kz_g : Cond.instantiable "CulpritSearch$Graph" 5 ∈ tb := tb_mem 28 (by decide +kernel) (by decide +kernel)
theorem ki_g : Cond.initialized "CulpritSearch$Graph" ∈ tb := tb_mem 14 (by decide +kernel) (by decide +kernel)
theorem kc_g_init : Cond.code y_g_init b_g_init 1 none ∈ tb := tb_mem 31 (by decide +kernel) (by decide +kernel)
theorem km_x_9 : Cond.methodLink "CulpritSearch" 9 y_g_init ∈ tb := tb_mem 29 (by decide +kernel) (by decide +kernel)
theorem ks_g_init : Cond.instanceMethod y_g_init ∈ tb := tb_mem 30 (by decide +kernel) (by decide +kernel)
theorem kf_x_10 : Cond.fieldLink "CulpritSearch" 10 "CulpritSearch" "graph" "LCulpritSearch$Graph;" ∈ tb := tb_mem 53 (by decide +kernel) (by decide +kernel)
theorem kk_x_16 : Cond.classLink "CulpritSearch" 16 "CulpritSearch$Target" ∈ tb := tb_mem 51 (by decide +kernel) (by decide +kernel)
theorem kf_x_18 : Cond.fieldLink "CulpritSearch" 18 "CulpritSearch" "targets" "[LCulpritSearch$Target;" ∈ tb := tb_mem 54 (by decide +kernel) (by decide +kernel)
theorem kf_x_22 : Cond.fieldLink "CulpritSearch" 22 "CulpritSearch" "targetCount" "I" ∈ tb := tb_mem 55 (by decide +kernel) (by decide +kernel)
theorem kl_lo_314 : Cond.constantLong "java/lang/Long" 314 (6148914691236517205) ∈ tb := tb_mem 187 (by decide +kernel) (by decide +kernel)
theorem kl_lo_316 : Cond.constantLong "java/lang/Long" 316 (3689348814741910323) ∈ tb := tb_mem 188 (by decide +kernel) (by decide +kernel)
theorem kl_lo_318 : Cond.constantLong "java/lang/Long" 318 (1085102592571150095) ∈ tb := tb_mem 189 (by decide +kernel) (by decide +kernel)
theorem kc_x_isNumber : Cond.code y_x_isNumber b_x_isNumber 1 (some .boolean) ∈ tb := tb_mem 77 (by decide +kernel) (by decide +kernel)
theorem km_x_130 : Cond.methodLink "CulpritSearch" 130 y_x_isNumber ∈ tb := tb_mem 81 (by decide +kernel) (by decide +kernel)
theorem ki_x : Cond.initialized "CulpritSearch" ∈ tb := tb_mem 13 (by decide +kernel) (by decide +kernel)
theorem ks_x_isNumber : Cond.static y_x_isNumber ∈ tb := tb_mem 76 (by decide +kernel) (by decide +kernel)
theorem km_g_29 : Cond.methodLinkNest "CulpritSearch$Graph" 29 y_x_isNumber "CulpritSearch" ∈ nests := ne_mem 75 (by decide +kernel) (by decide +kernel)
theorem kc_g_holds : Cond.code y_g_holds b_g_holds 2 (some .boolean) ∈ tb := tb_mem 74 (by decide +kernel) (by decide +kernel)
theorem km_g_33 : Cond.methodLink "CulpritSearch$Graph" 33 y_g_holds ∈ tb := tb_mem 71 (by decide +kernel) (by decide +kernel)
theorem ks_g_holds : Cond.instanceMethod y_g_holds ∈ tb := tb_mem 72 (by decide +kernel) (by decide +kernel)
theorem ke_g_holds : Cond.selects "CulpritSearch$Graph" y_g_holds y_g_holds ∈ tb := tb_mem 73 (by decide +kernel) (by decide +kernel)
theorem kc_x_contains : Cond.code y_x_contains b_x_contains 3 (some .boolean) ∈ tb := tb_mem 89 (by decide +kernel) (by decide +kernel)
theorem km_g_40 : Cond.methodLinkNest "CulpritSearch$Graph" 40 y_x_contains "CulpritSearch" ∈ nests := ne_mem 87 (by decide +kernel) (by decide +kernel)
theorem ks_x_contains : Cond.static y_x_contains ∈ tb := tb_mem 88 (by decide +kernel) (by decide +kernel)
theorem kc_lo_bitCount : Cond.code y_lo_bitCount b_lo_bitCount 2 (some .int) ∈ tb := tb_mem 186 (by decide +kernel) (by decide +kernel)
theorem km_g_44 : Cond.methodLink "CulpritSearch$Graph" 44 y_lo_bitCount ∈ tb := tb_mem 327 (by decide +kernel) (by decide +kernel)
theorem ki_lo : Cond.initialized "java/lang/Long" ∈ tb := tb_mem 17 (by decide +kernel) (by decide +kernel)
theorem ks_lo_bitCount : Cond.static y_lo_bitCount ∈ tb := tb_mem 185 (by decide +kernel) (by decide +kernel)
theorem kc_x_only : Cond.code y_x_only b_x_only 1 (some .long) ∈ tb := tb_mem 80 (by decide +kernel) (by decide +kernel)
theorem km_g_36 : Cond.methodLinkNest "CulpritSearch$Graph" 36 y_x_only "CulpritSearch" ∈ nests := ne_mem 86 (by decide +kernel) (by decide +kernel)
theorem ks_x_only : Cond.static y_x_only ∈ tb := tb_mem 79 (by decide +kernel) (by decide +kernel)
theorem km_t_49 : Cond.methodLinkNest "CulpritSearch$Target" 49 y_x_contains "CulpritSearch" ∈ nests := ne_mem 162 (by decide +kernel) (by decide +kernel)
theorem kc_t_weightOfAll : Cond.code y_t_weightOfAll b_t_weightOfAll 4 (some .long) ∈ tb := tb_mem 217 (by decide +kernel) (by decide +kernel)
theorem km_t_70 : Cond.methodLink "CulpritSearch$Target" 70 y_t_weightOfAll ∈ tb := tb_mem 214 (by decide +kernel) (by decide +kernel)
theorem ki_t : Cond.initialized "CulpritSearch$Target" ∈ tb := tb_mem 16 (by decide +kernel) (by decide +kernel)
theorem ks_t_weightOfAll : Cond.instanceMethod y_t_weightOfAll ∈ tb := tb_mem 215 (by decide +kernel) (by decide +kernel)
theorem ke_t_weightOfAll : Cond.selects "CulpritSearch$Target" y_t_weightOfAll y_t_weightOfAll ∈ tb := tb_mem 216 (by decide +kernel) (by decide +kernel)
theorem kl_t_74 : Cond.constantLong "CulpritSearch$Target" 74 (100) ∈ tb := tb_mem 218 (by decide +kernel) (by decide +kernel)
theorem kf_t_86 : Cond.fieldLinkNest "CulpritSearch$Target" 86 "CulpritSearch$Graph" "size" "I" "CulpritSearch" ∈ nests := ne_mem 36 (by decide +kernel) (by decide +kernel)
theorem kc_g_isSkipped : Cond.code y_g_isSkipped b_g_isSkipped 2 (some .boolean) ∈ tb := tb_mem 226 (by decide +kernel) (by decide +kernel)
theorem km_t_89 : Cond.methodLink "CulpritSearch$Target" 89 y_g_isSkipped ∈ tb := tb_mem 223 (by decide +kernel) (by decide +kernel)
theorem ks_g_isSkipped : Cond.instanceMethod y_g_isSkipped ∈ tb := tb_mem 224 (by decide +kernel) (by decide +kernel)
theorem ke_g_isSkipped : Cond.selects "CulpritSearch$Graph" y_g_isSkipped y_g_isSkipped ∈ tb := tb_mem 225 (by decide +kernel) (by decide +kernel)
theorem kc_g_reach : Cond.code y_g_reach b_g_reach 2 (some .long) ∈ tb := tb_mem 98 (by decide +kernel) (by decide +kernel)
theorem km_t_57 : Cond.methodLink "CulpritSearch$Target" 57 y_g_reach ∈ tb := tb_mem 164 (by decide +kernel) (by decide +kernel)
theorem ks_g_reach : Cond.instanceMethod y_g_reach ∈ tb := tb_mem 96 (by decide +kernel) (by decide +kernel)
theorem ke_g_reach : Cond.selects "CulpritSearch$Graph" y_g_reach y_g_reach ∈ tb := tb_mem 97 (by decide +kernel) (by decide +kernel)
theorem kc_t_weightWithin : Cond.code y_t_weightWithin b_t_weightWithin 6 (some .long) ∈ tb := tb_mem 230 (by decide +kernel) (by decide +kernel)
theorem km_t_93 : Cond.methodLink "CulpritSearch$Target" 93 y_t_weightWithin ∈ tb := tb_mem 227 (by decide +kernel) (by decide +kernel)
theorem ks_t_weightWithin : Cond.instanceMethod y_t_weightWithin ∈ tb := tb_mem 228 (by decide +kernel) (by decide +kernel)
theorem ke_t_weightWithin : Cond.selects "CulpritSearch$Target" y_t_weightWithin y_t_weightWithin ∈ tb := tb_mem 229 (by decide +kernel) (by decide +kernel)
theorem km_t_97 : Cond.methodLink "CulpritSearch$Target" 97 Lib.MathLoose.abs_long.x ∈ tb := tb_mem 231 (by decide +kernel) (by decide +kernel)
theorem ks_abs_long : Cond.static Lib.MathLoose.abs_long.x ∈ tb := tb_mem 232 (by decide +kernel) (by decide +kernel)
theorem ki_ma : Cond.initialized "java/lang/Math" ∈ tb := tb_mem 18 (by decide +kernel) (by decide +kernel)
theorem kc_abs_long : Cond.code Lib.MathLoose.abs_long.x Lib.MathLoose.abs_long.code 2 (some .long) ∈ tb := tb_mem 233 (by decide +kernel) (by decide +kernel)
theorem kc_g_isBuilt : Cond.code y_g_isBuilt b_g_isBuilt 2 (some .boolean) ∈ tb := tb_mem 237 (by decide +kernel) (by decide +kernel)
theorem km_t_102 : Cond.methodLink "CulpritSearch$Target" 102 y_g_isBuilt ∈ tb := tb_mem 234 (by decide +kernel) (by decide +kernel)
theorem ks_g_isBuilt : Cond.instanceMethod y_g_isBuilt ∈ tb := tb_mem 235 (by decide +kernel) (by decide +kernel)
theorem ke_g_isBuilt : Cond.selects "CulpritSearch$Graph" y_g_isBuilt y_g_isBuilt ∈ tb := tb_mem 236 (by decide +kernel) (by decide +kernel)
theorem kc_t_culprit : Cond.code y_t_culprit b_t_culprit 4 (some .int) ∈ tb := tb_mem 213 (by decide +kernel) (by decide +kernel)
theorem km_t_76 : Cond.methodLink "CulpritSearch$Target" 76 y_t_culprit ∈ tb := tb_mem 210 (by decide +kernel) (by decide +kernel)
theorem ks_t_culprit : Cond.instanceMethod y_t_culprit ∈ tb := tb_mem 211 (by decide +kernel) (by decide +kernel)
theorem ke_t_culprit : Cond.selects "CulpritSearch$Target" y_t_culprit y_t_culprit ∈ tb := tb_mem 212 (by decide +kernel) (by decide +kernel)
theorem kc_t_mostEven : Cond.code y_t_mostEven b_t_mostEven 12 (some .int) ∈ tb := tb_mem 222 (by decide +kernel) (by decide +kernel)
theorem km_t_80 : Cond.methodLink "CulpritSearch$Target" 80 y_t_mostEven ∈ tb := tb_mem 219 (by decide +kernel) (by decide +kernel)
theorem ks_t_mostEven : Cond.instanceMethod y_t_mostEven ∈ tb := tb_mem 221 (by decide +kernel) (by decide +kernel)
theorem ke_t_mostEven : Cond.selects "CulpritSearch$Target" y_t_mostEven y_t_mostEven ∈ tb := tb_mem 2 (by decide +kernel) (by decide +kernel)
theorem kc_t_standing : Cond.code y_t_standing b_t_standing 1 (some .int) ∈ tb := tb_mem 209 (by decide +kernel) (by decide +kernel)
theorem km_t_83 : Cond.methodLink "CulpritSearch$Target" 83 y_t_standing ∈ tb := tb_mem 246 (by decide +kernel) (by decide +kernel)
theorem ks_t_standing : Cond.instanceMethod y_t_standing ∈ tb := tb_mem 207 (by decide +kernel) (by decide +kernel)
theorem ke_t_standing : Cond.selects "CulpritSearch$Target" y_t_standing y_t_standing ∈ tb := tb_mem 208 (by decide +kernel) (by decide +kernel)
theorem kc_t_weightOf : Cond.code y_t_weightOf b_t_weightOf 2 (some .long) ∈ tb := tb_mem 278 (by decide +kernel) (by decide +kernel)
theorem km_t_120 : Cond.methodLink "CulpritSearch$Target" 120 y_t_weightOf ∈ tb := tb_mem 306 (by decide +kernel) (by decide +kernel)
theorem ks_t_weightOf : Cond.instanceMethod y_t_weightOf ∈ tb := tb_mem 276 (by decide +kernel) (by decide +kernel)
theorem ke_t_weightOf : Cond.selects "CulpritSearch$Target" y_t_weightOf y_t_weightOf ∈ tb := tb_mem 277 (by decide +kernel) (by decide +kernel)
theorem kc_t_rankOf : Cond.code y_t_rankOf b_t_rankOf 6 (some .int) ∈ tb := tb_mem 305 (by decide +kernel) (by decide +kernel)
theorem km_t_116 : Cond.methodLink "CulpritSearch$Target" 116 y_t_rankOf ∈ tb := tb_mem 302 (by decide +kernel) (by decide +kernel)
theorem ks_t_rankOf : Cond.instanceMethod y_t_rankOf ∈ tb := tb_mem 304 (by decide +kernel) (by decide +kernel)
theorem ke_t_rankOf : Cond.selects "CulpritSearch$Target" y_t_rankOf y_t_rankOf ∈ tb := tb_mem 4 (by decide +kernel) (by decide +kernel)
theorem kc_g_stepToward : Cond.code y_g_stepToward b_g_stepToward 4 (some .int) ∈ tb := tb_mem 318 (by decide +kernel) (by decide +kernel)
theorem km_t_123 : Cond.methodLink "CulpritSearch$Target" 123 y_g_stepToward ∈ tb := tb_mem 315 (by decide +kernel) (by decide +kernel)
theorem ks_g_stepToward : Cond.instanceMethod y_g_stepToward ∈ tb := tb_mem 316 (by decide +kernel) (by decide +kernel)
theorem ke_g_stepToward : Cond.selects "CulpritSearch$Graph" y_g_stepToward y_g_stepToward ∈ tb := tb_mem 317 (by decide +kernel) (by decide +kernel)
theorem km_t_53 : Cond.methodLinkNest "CulpritSearch$Target" 53 y_x_only "CulpritSearch" ∈ nests := ne_mem 163 (by decide +kernel) (by decide +kernel)
theorem kc_g_markSkipped : Cond.code y_g_markSkipped b_g_markSkipped 2 none ∈ tb := tb_mem 258 (by decide +kernel) (by decide +kernel)
theorem km_t_105 : Cond.methodLink "CulpritSearch$Target" 105 y_g_markSkipped ∈ tb := tb_mem 255 (by decide +kernel) (by decide +kernel)
theorem ks_g_markSkipped : Cond.instanceMethod y_g_markSkipped ∈ tb := tb_mem 256 (by decide +kernel) (by decide +kernel)
theorem ke_g_markSkipped : Cond.selects "CulpritSearch$Graph" y_g_markSkipped y_g_markSkipped ∈ tb := tb_mem 257 (by decide +kernel) (by decide +kernel)
theorem kl_t_62 : Cond.constantLong "CulpritSearch$Target" 62 (-1) ∈ tb := tb_mem 183 (by decide +kernel) (by decide +kernel)
theorem km_t_64 : Cond.methodLink "CulpritSearch$Target" 64 y_lo_bitCount ∈ tb := tb_mem 184 (by decide +kernel) (by decide +kernel)
theorem kc_g_markBuilt : Cond.code y_g_markBuilt b_g_markBuilt 2 none ∈ tb := tb_mem 266 (by decide +kernel) (by decide +kernel)
theorem km_t_109 : Cond.methodLink "CulpritSearch$Target" 109 y_g_markBuilt ∈ tb := tb_mem 263 (by decide +kernel) (by decide +kernel)
theorem ks_g_markBuilt : Cond.instanceMethod y_g_markBuilt ∈ tb := tb_mem 264 (by decide +kernel) (by decide +kernel)
theorem ke_g_markBuilt : Cond.selects "CulpritSearch$Graph" y_g_markBuilt y_g_markBuilt ∈ tb := tb_mem 265 (by decide +kernel) (by decide +kernel)
theorem kc_t_likelihood : Cond.code y_t_likelihood b_t_likelihood 3 (some .long) ∈ tb := tb_mem 270 (by decide +kernel) (by decide +kernel)
theorem km_t_112 : Cond.methodLink "CulpritSearch$Target" 112 y_t_likelihood ∈ tb := tb_mem 267 (by decide +kernel) (by decide +kernel)
theorem ks_t_likelihood : Cond.instanceMethod y_t_likelihood ∈ tb := tb_mem 269 (by decide +kernel) (by decide +kernel)
theorem ke_t_likelihood : Cond.selects "CulpritSearch$Target" y_t_likelihood y_t_likelihood ∈ tb := tb_mem 3 (by decide +kernel) (by decide +kernel)
theorem kc_x_targetAt : Cond.code y_x_targetAt b_x_targetAt 2 (some (.object "CulpritSearch$Target")) ∈ tb := tb_mem 153 (by decide +kernel) (by decide +kernel)
theorem km_x_51 : Cond.methodLink "CulpritSearch" 51 y_x_targetAt ∈ tb := tb_mem 150 (by decide +kernel) (by decide +kernel)
theorem ks_x_targetAt : Cond.instanceMethod y_x_targetAt ∈ tb := tb_mem 152 (by decide +kernel) (by decide +kernel)
theorem ke_x_targetAt : Cond.selects "CulpritSearch" y_x_targetAt y_x_targetAt ∈ tb := tb_mem 0 (by decide +kernel) (by decide +kernel)
theorem kc_t_isSearched : Cond.code y_t_isSearched b_t_isSearched 1 (some .boolean) ∈ tb := tb_mem 157 (by decide +kernel) (by decide +kernel)
theorem km_x_55 : Cond.methodLink "CulpritSearch" 55 y_t_isSearched ∈ tb := tb_mem 154 (by decide +kernel) (by decide +kernel)
theorem ks_t_isSearched : Cond.instanceMethod y_t_isSearched ∈ tb := tb_mem 155 (by decide +kernel) (by decide +kernel)
theorem ke_t_isSearched : Cond.selects "CulpritSearch$Target" y_t_isSearched y_t_isSearched ∈ tb := tb_mem 156 (by decide +kernel) (by decide +kernel)
theorem km_x_38 : Cond.methodLink "CulpritSearch" 38 y_g_holds ∈ tb := tb_mem 94 (by decide +kernel) (by decide +kernel)
theorem km_x_41 : Cond.methodLink "CulpritSearch" 41 y_g_reach ∈ tb := tb_mem 95 (by decide +kernel) (by decide +kernel)
theorem km_x_44 : Cond.methodLink "CulpritSearch" 44 y_x_contains ∈ tb := tb_mem 99 (by decide +kernel) (by decide +kernel)
theorem kc_x_searchAt : Cond.code y_x_searchAt b_x_searchAt 3 (some (.object "CulpritSearch$Target")) ∈ tb := tb_mem 197 (by decide +kernel) (by decide +kernel)
theorem km_x_76 : Cond.methodLink "CulpritSearch" 76 y_x_searchAt ∈ tb := tb_mem 194 (by decide +kernel) (by decide +kernel)
theorem ks_x_searchAt : Cond.instanceMethod y_x_searchAt ∈ tb := tb_mem 196 (by decide +kernel) (by decide +kernel)
theorem ke_x_searchAt : Cond.selects "CulpritSearch" y_x_searchAt y_x_searchAt ∈ tb := tb_mem 1 (by decide +kernel) (by decide +kernel)
theorem km_x_82 : Cond.methodLink "CulpritSearch" 82 y_t_standing ∈ tb := tb_mem 206 (by decide +kernel) (by decide +kernel)
theorem kc_t_asked : Cond.code y_t_asked b_t_asked 1 (some .int) ∈ tb := tb_mem 245 (by decide +kernel) (by decide +kernel)
theorem km_x_86 : Cond.methodLink "CulpritSearch" 86 y_t_asked ∈ tb := tb_mem 242 (by decide +kernel) (by decide +kernel)
theorem ks_t_asked : Cond.instanceMethod y_t_asked ∈ tb := tb_mem 243 (by decide +kernel) (by decide +kernel)
theorem ke_t_asked : Cond.selects "CulpritSearch$Target" y_t_asked y_t_asked ∈ tb := tb_mem 244 (by decide +kernel) (by decide +kernel)
theorem km_x_97 : Cond.methodLink "CulpritSearch" 97 y_t_weightOf ∈ tb := tb_mem 275 (by decide +kernel) (by decide +kernel)
theorem km_x_100 : Cond.methodLink "CulpritSearch" 100 y_t_weightWithin ∈ tb := tb_mem 283 (by decide +kernel) (by decide +kernel)
theorem km_x_104 : Cond.methodLink "CulpritSearch" 104 y_t_weightOfAll ∈ tb := tb_mem 288 (by decide +kernel) (by decide +kernel)
theorem km_x_108 : Cond.methodLink "CulpritSearch" 108 y_t_culprit ∈ tb := tb_mem 293 (by decide +kernel) (by decide +kernel)
theorem kc_t_ranked : Cond.code y_t_ranked b_t_ranked 3 (some .int) ∈ tb := tb_mem 301 (by decide +kernel) (by decide +kernel)
theorem km_x_111 : Cond.methodLink "CulpritSearch" 111 y_t_ranked ∈ tb := tb_mem 298 (by decide +kernel) (by decide +kernel)
theorem ks_t_ranked : Cond.instanceMethod y_t_ranked ∈ tb := tb_mem 299 (by decide +kernel) (by decide +kernel)
theorem ke_t_ranked : Cond.selects "CulpritSearch$Target" y_t_ranked y_t_ranked ∈ tb := tb_mem 300 (by decide +kernel) (by decide +kernel)
theorem kc_t_onWay : Cond.code y_t_onWay b_t_onWay 5 (some .int) ∈ tb := tb_mem 314 (by decide +kernel) (by decide +kernel)
theorem km_x_115 : Cond.methodLink "CulpritSearch" 115 y_t_onWay ∈ tb := tb_mem 311 (by decide +kernel) (by decide +kernel)
theorem ks_t_onWay : Cond.instanceMethod y_t_onWay ∈ tb := tb_mem 312 (by decide +kernel) (by decide +kernel)
theorem ke_t_onWay : Cond.selects "CulpritSearch$Target" y_t_onWay y_t_onWay ∈ tb := tb_mem 313 (by decide +kernel) (by decide +kernel)
theorem kf_x_127 : Cond.fieldLinkNest "CulpritSearch" 127 "CulpritSearch$Target" "bad" "I" "CulpritSearch" ∈ nests := ne_mem 115 (by decide +kernel) (by decide +kernel)
theorem kf_x_124 : Cond.fieldLinkNest "CulpritSearch" 124 "CulpritSearch$Target" "answers" "I" "CulpritSearch" ∈ nests := ne_mem 120 (by decide +kernel) (by decide +kernel)
theorem kf_x_121 : Cond.fieldLinkNest "CulpritSearch" 121 "CulpritSearch$Target" "skips" "I" "CulpritSearch" ∈ nests := ne_mem 122 (by decide +kernel) (by decide +kernel)
theorem kc_g_builtCount : Cond.code y_g_builtCount b_g_builtCount 1 (some .int) ∈ tb := tb_mem 326 (by decide +kernel) (by decide +kernel)
theorem km_x_118 : Cond.methodLink "CulpritSearch" 118 y_g_builtCount ∈ tb := tb_mem 323 (by decide +kernel) (by decide +kernel)
theorem ks_g_builtCount : Cond.instanceMethod y_g_builtCount ∈ tb := tb_mem 324 (by decide +kernel) (by decide +kernel)
theorem ke_g_builtCount : Cond.selects "CulpritSearch$Graph" y_g_builtCount y_g_builtCount ∈ tb := tb_mem 325 (by decide +kernel) (by decide +kernel)
theorem kc_g_mayBeParent : Cond.code y_g_mayBeParent b_g_mayBeParent 2 (some .boolean) ∈ tb := tb_mem 70 (by decide +kernel) (by decide +kernel)
theorem km_x_26 : Cond.methodLink "CulpritSearch" 26 y_g_mayBeParent ∈ tb := tb_mem 67 (by decide +kernel) (by decide +kernel)
theorem ks_g_mayBeParent : Cond.instanceMethod y_g_mayBeParent ∈ tb := tb_mem 68 (by decide +kernel) (by decide +kernel)
theorem ke_g_mayBeParent : Cond.selects "CulpritSearch$Graph" y_g_mayBeParent y_g_mayBeParent ∈ tb := tb_mem 69 (by decide +kernel) (by decide +kernel)
theorem km_x_30 : Cond.methodLink "CulpritSearch" 30 y_x_only ∈ tb := tb_mem 78 (by decide +kernel) (by decide +kernel)
theorem kc_g_add : Cond.code y_g_add b_g_add 7 (some .int) ∈ tb := tb_mem 85 (by decide +kernel) (by decide +kernel)
theorem km_x_34 : Cond.methodLink "CulpritSearch" 34 y_g_add ∈ tb := tb_mem 82 (by decide +kernel) (by decide +kernel)
theorem ks_g_add : Cond.instanceMethod y_g_add ∈ tb := tb_mem 83 (by decide +kernel) (by decide +kernel)
theorem ke_g_add : Cond.selects "CulpritSearch$Graph" y_g_add y_g_add ∈ tb := tb_mem 84 (by decide +kernel) (by decide +kernel)
theorem kc_t_markGood : Cond.code y_t_markGood b_t_markGood 2 (some .boolean) ∈ tb := tb_mem 161 (by decide +kernel) (by decide +kernel)
theorem km_x_59 : Cond.methodLink "CulpritSearch" 59 y_t_markGood ∈ tb := tb_mem 158 (by decide +kernel) (by decide +kernel)
theorem ks_t_markGood : Cond.instanceMethod y_t_markGood ∈ tb := tb_mem 159 (by decide +kernel) (by decide +kernel)
theorem ke_t_markGood : Cond.selects "CulpritSearch$Target" y_t_markGood y_t_markGood ∈ tb := tb_mem 160 (by decide +kernel) (by decide +kernel)
theorem kc_x_isFlake : Cond.code y_x_isFlake b_x_isFlake 2 (some .boolean) ∈ tb := tb_mem 171 (by decide +kernel) (by decide +kernel)
theorem km_x_62 : Cond.methodLink "CulpritSearch" 62 y_x_isFlake ∈ tb := tb_mem 169 (by decide +kernel) (by decide +kernel)
theorem ks_x_isFlake : Cond.static y_x_isFlake ∈ tb := tb_mem 170 (by decide +kernel) (by decide +kernel)
theorem kc_x_isSure : Cond.code y_x_isSure b_x_isSure 1 (some .boolean) ∈ tb := tb_mem 174 (by decide +kernel) (by decide +kernel)
theorem km_x_66 : Cond.methodLink "CulpritSearch" 66 y_x_isSure ∈ tb := tb_mem 172 (by decide +kernel) (by decide +kernel)
theorem ks_x_isSure : Cond.static y_x_isSure ∈ tb := tb_mem 173 (by decide +kernel) (by decide +kernel)
theorem kc_t_isCleared : Cond.code y_t_isCleared b_t_isCleared 2 (some .boolean) ∈ tb := tb_mem 178 (by decide +kernel) (by decide +kernel)
theorem km_x_69 : Cond.methodLink "CulpritSearch" 69 y_t_isCleared ∈ tb := tb_mem 175 (by decide +kernel) (by decide +kernel)
theorem ks_t_isCleared : Cond.instanceMethod y_t_isCleared ∈ tb := tb_mem 176 (by decide +kernel) (by decide +kernel)
theorem ke_t_isCleared : Cond.selects "CulpritSearch$Target" y_t_isCleared y_t_isCleared ∈ tb := tb_mem 177 (by decide +kernel) (by decide +kernel)
theorem kc_t_start : Cond.code y_t_start b_t_start 8 (some .int) ∈ tb := tb_mem 182 (by decide +kernel) (by decide +kernel)
theorem km_x_72 : Cond.methodLink "CulpritSearch" 72 y_t_start ∈ tb := tb_mem 179 (by decide +kernel) (by decide +kernel)
theorem ks_t_start : Cond.instanceMethod y_t_start ∈ tb := tb_mem 180 (by decide +kernel) (by decide +kernel)
theorem ke_t_start : Cond.selects "CulpritSearch$Target" y_t_start y_t_start ∈ tb := tb_mem 181 (by decide +kernel) (by decide +kernel)
theorem kc_t_giveUp : Cond.code y_t_giveUp b_t_giveUp 1 none ∈ tb := tb_mem 201 (by decide +kernel) (by decide +kernel)
theorem km_x_79 : Cond.methodLink "CulpritSearch" 79 y_t_giveUp ∈ tb := tb_mem 198 (by decide +kernel) (by decide +kernel)
theorem ks_t_giveUp : Cond.instanceMethod y_t_giveUp ∈ tb := tb_mem 199 (by decide +kernel) (by decide +kernel)
theorem ke_t_giveUp : Cond.selects "CulpritSearch$Target" y_t_giveUp y_t_giveUp ∈ tb := tb_mem 200 (by decide +kernel) (by decide +kernel)
theorem kc_t_learn : Cond.code y_t_learn b_t_learn 6 none ∈ tb := tb_mem 262 (by decide +kernel) (by decide +kernel)
theorem km_x_93 : Cond.methodLink "CulpritSearch" 93 y_t_learn ∈ tb := tb_mem 259 (by decide +kernel) (by decide +kernel)
theorem ks_t_learn : Cond.instanceMethod y_t_learn ∈ tb := tb_mem 260 (by decide +kernel) (by decide +kernel)
theorem ke_t_learn : Cond.selects "CulpritSearch$Target" y_t_learn y_t_learn ∈ tb := tb_mem 261 (by decide +kernel) (by decide +kernel)
theorem kc_t_skip : Cond.code y_t_skip b_t_skip 2 none ∈ tb := tb_mem 254 (by decide +kernel) (by decide +kernel)
theorem km_x_89 : Cond.methodLink "CulpritSearch" 89 y_t_skip ∈ tb := tb_mem 251 (by decide +kernel) (by decide +kernel)
theorem ks_t_skip : Cond.instanceMethod y_t_skip ∈ tb := tb_mem 252 (by decide +kernel) (by decide +kernel)
theorem ke_t_skip : Cond.selects "CulpritSearch$Target" y_t_skip y_t_skip ∈ tb := tb_mem 253 (by decide +kernel) (by decide +kernel)
theorem kz_t : Cond.instantiable "CulpritSearch$Target" 11 ∈ tb := tb_mem 104 (by decide +kernel) (by decide +kernel)
theorem kc_t_init : Cond.code y_t_init b_t_init 2 none ∈ tb := tb_mem 107 (by decide +kernel) (by decide +kernel)
theorem km_x_48 : Cond.methodLink "CulpritSearch" 48 y_t_init ∈ tb := tb_mem 105 (by decide +kernel) (by decide +kernel)
theorem ks_t_init : Cond.instanceMethod y_t_init ∈ tb := tb_mem 106 (by decide +kernel) (by decide +kernel)
end
section
theorem d_lo_bitCount_0 : decode b_lo_bitCount 0 = .ok (.lload_n 0, 1) := by decide +kernel
theorem d_lo_bitCount_1 : decode b_lo_bitCount 1 = .ok (.lload_n 0, 1) := by decide +kernel
theorem d_lo_bitCount_2 : decode b_lo_bitCount 2 = .ok (.iconst 1, 1) := by decide +kernel
theorem d_lo_bitCount_3 : decode b_lo_bitCount 3 = .ok (.lushr, 1) := by decide +kernel
theorem d_lo_bitCount_4 : decode b_lo_bitCount 4 = .ok (.ldc2_w 314, 3) := by decide +kernel
theorem d_lo_bitCount_7 : decode b_lo_bitCount 7 = .ok (.land, 1) := by decide +kernel
theorem d_lo_bitCount_8 : decode b_lo_bitCount 8 = .ok (.lsub, 1) := by decide +kernel
theorem d_lo_bitCount_9 : decode b_lo_bitCount 9 = .ok (.lstore_n 0, 1) := by decide +kernel
theorem d_lo_bitCount_10 : decode b_lo_bitCount 10 = .ok (.lload_n 0, 1) := by decide +kernel
theorem d_lo_bitCount_11 : decode b_lo_bitCount 11 = .ok (.ldc2_w 316, 3) := by decide +kernel
theorem d_lo_bitCount_14 : decode b_lo_bitCount 14 = .ok (.land, 1) := by decide +kernel
theorem d_lo_bitCount_15 : decode b_lo_bitCount 15 = .ok (.lload_n 0, 1) := by decide +kernel
theorem d_lo_bitCount_16 : decode b_lo_bitCount 16 = .ok (.iconst 2, 1) := by decide +kernel
theorem d_lo_bitCount_17 : decode b_lo_bitCount 17 = .ok (.lushr, 1) := by decide +kernel
theorem d_lo_bitCount_18 : decode b_lo_bitCount 18 = .ok (.ldc2_w 316, 3) := by decide +kernel
theorem d_lo_bitCount_21 : decode b_lo_bitCount 21 = .ok (.land, 1) := by decide +kernel
theorem d_lo_bitCount_22 : decode b_lo_bitCount 22 = .ok (.ladd, 1) := by decide +kernel
theorem d_lo_bitCount_23 : decode b_lo_bitCount 23 = .ok (.lstore_n 0, 1) := by decide +kernel
theorem d_lo_bitCount_24 : decode b_lo_bitCount 24 = .ok (.lload_n 0, 1) := by decide +kernel
theorem d_lo_bitCount_25 : decode b_lo_bitCount 25 = .ok (.lload_n 0, 1) := by decide +kernel
theorem d_lo_bitCount_26 : decode b_lo_bitCount 26 = .ok (.iconst 4, 1) := by decide +kernel
theorem d_lo_bitCount_27 : decode b_lo_bitCount 27 = .ok (.lushr, 1) := by decide +kernel
theorem d_lo_bitCount_28 : decode b_lo_bitCount 28 = .ok (.ladd, 1) := by decide +kernel
theorem d_lo_bitCount_29 : decode b_lo_bitCount 29 = .ok (.ldc2_w 318, 3) := by decide +kernel
theorem d_lo_bitCount_32 : decode b_lo_bitCount 32 = .ok (.land, 1) := by decide +kernel
theorem d_lo_bitCount_33 : decode b_lo_bitCount 33 = .ok (.lstore_n 0, 1) := by decide +kernel
theorem d_lo_bitCount_34 : decode b_lo_bitCount 34 = .ok (.lload_n 0, 1) := by decide +kernel
theorem d_lo_bitCount_35 : decode b_lo_bitCount 35 = .ok (.lload_n 0, 1) := by decide +kernel
theorem d_lo_bitCount_36 : decode b_lo_bitCount 36 = .ok (.bipush 8, 2) := by decide +kernel
theorem d_lo_bitCount_38 : decode b_lo_bitCount 38 = .ok (.lushr, 1) := by decide +kernel
theorem d_lo_bitCount_39 : decode b_lo_bitCount 39 = .ok (.ladd, 1) := by decide +kernel
theorem d_lo_bitCount_40 : decode b_lo_bitCount 40 = .ok (.lstore_n 0, 1) := by decide +kernel
theorem d_lo_bitCount_41 : decode b_lo_bitCount 41 = .ok (.lload_n 0, 1) := by decide +kernel
theorem d_lo_bitCount_42 : decode b_lo_bitCount 42 = .ok (.lload_n 0, 1) := by decide +kernel
theorem d_lo_bitCount_43 : decode b_lo_bitCount 43 = .ok (.bipush 16, 2) := by decide +kernel
theorem d_lo_bitCount_45 : decode b_lo_bitCount 45 = .ok (.lushr, 1) := by decide +kernel
theorem d_lo_bitCount_46 : decode b_lo_bitCount 46 = .ok (.ladd, 1) := by decide +kernel
theorem d_lo_bitCount_47 : decode b_lo_bitCount 47 = .ok (.lstore_n 0, 1) := by decide +kernel
theorem d_lo_bitCount_48 : decode b_lo_bitCount 48 = .ok (.lload_n 0, 1) := by decide +kernel
theorem d_lo_bitCount_49 : decode b_lo_bitCount 49 = .ok (.lload_n 0, 1) := by decide +kernel
theorem d_lo_bitCount_50 : decode b_lo_bitCount 50 = .ok (.bipush 32, 2) := by decide +kernel
theorem d_lo_bitCount_52 : decode b_lo_bitCount 52 = .ok (.lushr, 1) := by decide +kernel
theorem d_lo_bitCount_53 : decode b_lo_bitCount 53 = .ok (.ladd, 1) := by decide +kernel
theorem d_lo_bitCount_54 : decode b_lo_bitCount 54 = .ok (.lstore_n 0, 1) := by decide +kernel
theorem d_lo_bitCount_55 : decode b_lo_bitCount 55 = .ok (.lload_n 0, 1) := by decide +kernel
theorem d_lo_bitCount_56 : decode b_lo_bitCount 56 = .ok (.l2i, 1) := by decide +kernel
theorem d_lo_bitCount_57 : decode b_lo_bitCount 57 = .ok (.bipush 127, 2) := by decide +kernel
theorem d_lo_bitCount_59 : decode b_lo_bitCount 59 = .ok (.iand, 1) := by decide +kernel
theorem d_lo_bitCount_60 : decode b_lo_bitCount 60 = .ok (.ireturn, 1) := by decide +kernel
def f_lo_bitCount (zs : Int64) : Int32 := (((((((((zs - (((zs.toUInt64 >>> ((1 : Int32).toInt64.toUInt64 &&& Int64.toUInt64 63)).toInt64) &&& 6148914691236517205)) &&& 3689348814741910323) + ((((zs - (((zs.toUInt64 >>> ((1 : Int32).toInt64.toUInt64 &&& Int64.toUInt64 63)).toInt64) &&& 6148914691236517205)).toUInt64 >>> ((2 : Int32).toInt64.toUInt64 &&& Int64.toUInt64 63)).toInt64) &&& 3689348814741910323)) + (((((zs - (((zs.toUInt64 >>> ((1 : Int32).toInt64.toUInt64 &&& Int64.toUInt64 63)).toInt64) &&& 6148914691236517205)) &&& 3689348814741910323) + ((((zs - (((zs.toUInt64 >>> ((1 : Int32).toInt64.toUInt64 &&& Int64.toUInt64 63)).toInt64) &&& 6148914691236517205)).toUInt64 >>> ((2 : Int32).toInt64.toUInt64 &&& Int64.toUInt64 63)).toInt64) &&& 3689348814741910323)).toUInt64 >>> ((4 : Int32).toInt64.toUInt64 &&& Int64.toUInt64 63)).toInt64)) &&& 1085102592571150095) + (((((((zs - (((zs.toUInt64 >>> ((1 : Int32).toInt64.toUInt64 &&& Int64.toUInt64 63)).toInt64) &&& 6148914691236517205)) &&& 3689348814741910323) + ((((zs - (((zs.toUInt64 >>> ((1 : Int32).toInt64.toUInt64 &&& Int64.toUInt64 63)).toInt64) &&& 6148914691236517205)).toUInt64 >>> ((2 : Int32).toInt64.toUInt64 &&& Int64.toUInt64 63)).toInt64) &&& 3689348814741910323)) + (((((zs - (((zs.toUInt64 >>> ((1 : Int32).toInt64.toUInt64 &&& Int64.toUInt64 63)).toInt64) &&& 6148914691236517205)) &&& 3689348814741910323) + ((((zs - (((zs.toUInt64 >>> ((1 : Int32).toInt64.toUInt64 &&& Int64.toUInt64 63)).toInt64) &&& 6148914691236517205)).toUInt64 >>> ((2 : Int32).toInt64.toUInt64 &&& Int64.toUInt64 63)).toInt64) &&& 3689348814741910323)).toUInt64 >>> ((4 : Int32).toInt64.toUInt64 &&& Int64.toUInt64 63)).toInt64)) &&& 1085102592571150095).toUInt64 >>> ((8 : Int32).toInt64.toUInt64 &&& Int64.toUInt64 63)).toInt64)) + ((((((((zs - (((zs.toUInt64 >>> ((1 : Int32).toInt64.toUInt64 &&& Int64.toUInt64 63)).toInt64) &&& 6148914691236517205)) &&& 3689348814741910323) + ((((zs - (((zs.toUInt64 >>> ((1 : Int32).toInt64.toUInt64 &&& Int64.toUInt64 63)).toInt64) &&& 6148914691236517205)).toUInt64 >>> ((2 : Int32).toInt64.toUInt64 &&& Int64.toUInt64 63)).toInt64) &&& 3689348814741910323)) + (((((zs - (((zs.toUInt64 >>> ((1 : Int32).toInt64.toUInt64 &&& Int64.toUInt64 63)).toInt64) &&& 6148914691236517205)) &&& 3689348814741910323) + ((((zs - (((zs.toUInt64 >>> ((1 : Int32).toInt64.toUInt64 &&& Int64.toUInt64 63)).toInt64) &&& 6148914691236517205)).toUInt64 >>> ((2 : Int32).toInt64.toUInt64 &&& Int64.toUInt64 63)).toInt64) &&& 3689348814741910323)).toUInt64 >>> ((4 : Int32).toInt64.toUInt64 &&& Int64.toUInt64 63)).toInt64)) &&& 1085102592571150095) + (((((((zs - (((zs.toUInt64 >>> ((1 : Int32).toInt64.toUInt64 &&& Int64.toUInt64 63)).toInt64) &&& 6148914691236517205)) &&& 3689348814741910323) + ((((zs - (((zs.toUInt64 >>> ((1 : Int32).toInt64.toUInt64 &&& Int64.toUInt64 63)).toInt64) &&& 6148914691236517205)).toUInt64 >>> ((2 : Int32).toInt64.toUInt64 &&& Int64.toUInt64 63)).toInt64) &&& 3689348814741910323)) + (((((zs - (((zs.toUInt64 >>> ((1 : Int32).toInt64.toUInt64 &&& Int64.toUInt64 63)).toInt64) &&& 6148914691236517205)) &&& 3689348814741910323) + ((((zs - (((zs.toUInt64 >>> ((1 : Int32).toInt64.toUInt64 &&& Int64.toUInt64 63)).toInt64) &&& 6148914691236517205)).toUInt64 >>> ((2 : Int32).toInt64.toUInt64 &&& Int64.toUInt64 63)).toInt64) &&& 3689348814741910323)).toUInt64 >>> ((4 : Int32).toInt64.toUInt64 &&& Int64.toUInt64 63)).toInt64)) &&& 1085102592571150095).toUInt64 >>> ((8 : Int32).toInt64.toUInt64 &&& Int64.toUInt64 63)).toInt64)).toUInt64 >>> ((16 : Int32).toInt64.toUInt64 &&& Int64.toUInt64 63)).toInt64)) + (((((((((zs - (((zs.toUInt64 >>> ((1 : Int32).toInt64.toUInt64 &&& Int64.toUInt64 63)).toInt64) &&& 6148914691236517205)) &&& 3689348814741910323) + ((((zs - (((zs.toUInt64 >>> ((1 : Int32).toInt64.toUInt64 &&& Int64.toUInt64 63)).toInt64) &&& 6148914691236517205)).toUInt64 >>> ((2 : Int32).toInt64.toUInt64 &&& Int64.toUInt64 63)).toInt64) &&& 3689348814741910323)) + (((((zs - (((zs.toUInt64 >>> ((1 : Int32).toInt64.toUInt64 &&& Int64.toUInt64 63)).toInt64) &&& 6148914691236517205)) &&& 3689348814741910323) + ((((zs - (((zs.toUInt64 >>> ((1 : Int32).toInt64.toUInt64 &&& Int64.toUInt64 63)).toInt64) &&& 6148914691236517205)).toUInt64 >>> ((2 : Int32).toInt64.toUInt64 &&& Int64.toUInt64 63)).toInt64) &&& 3689348814741910323)).toUInt64 >>> ((4 : Int32).toInt64.toUInt64 &&& Int64.toUInt64 63)).toInt64)) &&& 1085102592571150095) + (((((((zs - (((zs.toUInt64 >>> ((1 : Int32).toInt64.toUInt64 &&& Int64.toUInt64 63)).toInt64) &&& 6148914691236517205)) &&& 3689348814741910323) + ((((zs - (((zs.toUInt64 >>> ((1 : Int32).toInt64.toUInt64 &&& Int64.toUInt64 63)).toInt64) &&& 6148914691236517205)).toUInt64 >>> ((2 : Int32).toInt64.toUInt64 &&& Int64.toUInt64 63)).toInt64) &&& 3689348814741910323)) + (((((zs - (((zs.toUInt64 >>> ((1 : Int32).toInt64.toUInt64 &&& Int64.toUInt64 63)).toInt64) &&& 6148914691236517205)) &&& 3689348814741910323) + ((((zs - (((zs.toUInt64 >>> ((1 : Int32).toInt64.toUInt64 &&& Int64.toUInt64 63)).toInt64) &&& 6148914691236517205)).toUInt64 >>> ((2 : Int32).toInt64.toUInt64 &&& Int64.toUInt64 63)).toInt64) &&& 3689348814741910323)).toUInt64 >>> ((4 : Int32).toInt64.toUInt64 &&& Int64.toUInt64 63)).toInt64)) &&& 1085102592571150095).toUInt64 >>> ((8 : Int32).toInt64.toUInt64 &&& Int64.toUInt64 63)).toInt64)) + ((((((((zs - (((zs.toUInt64 >>> ((1 : Int32).toInt64.toUInt64 &&& Int64.toUInt64 63)).toInt64) &&& 6148914691236517205)) &&& 3689348814741910323) + ((((zs - (((zs.toUInt64 >>> ((1 : Int32).toInt64.toUInt64 &&& Int64.toUInt64 63)).toInt64) &&& 6148914691236517205)).toUInt64 >>> ((2 : Int32).toInt64.toUInt64 &&& Int64.toUInt64 63)).toInt64) &&& 3689348814741910323)) + (((((zs - (((zs.toUInt64 >>> ((1 : Int32).toInt64.toUInt64 &&& Int64.toUInt64 63)).toInt64) &&& 6148914691236517205)) &&& 3689348814741910323) + ((((zs - (((zs.toUInt64 >>> ((1 : Int32).toInt64.toUInt64 &&& Int64.toUInt64 63)).toInt64) &&& 6148914691236517205)).toUInt64 >>> ((2 : Int32).toInt64.toUInt64 &&& Int64.toUInt64 63)).toInt64) &&& 3689348814741910323)).toUInt64 >>> ((4 : Int32).toInt64.toUInt64 &&& Int64.toUInt64 63)).toInt64)) &&& 1085102592571150095) + (((((((zs - (((zs.toUInt64 >>> ((1 : Int32).toInt64.toUInt64 &&& Int64.toUInt64 63)).toInt64) &&& 6148914691236517205)) &&& 3689348814741910323) + ((((zs - (((zs.toUInt64 >>> ((1 : Int32).toInt64.toUInt64 &&& Int64.toUInt64 63)).toInt64) &&& 6148914691236517205)).toUInt64 >>> ((2 : Int32).toInt64.toUInt64 &&& Int64.toUInt64 63)).toInt64) &&& 3689348814741910323)) + (((((zs - (((zs.toUInt64 >>> ((1 : Int32).toInt64.toUInt64 &&& Int64.toUInt64 63)).toInt64) &&& 6148914691236517205)) &&& 3689348814741910323) + ((((zs - (((zs.toUInt64 >>> ((1 : Int32).toInt64.toUInt64 &&& Int64.toUInt64 63)).toInt64) &&& 6148914691236517205)).toUInt64 >>> ((2 : Int32).toInt64.toUInt64 &&& Int64.toUInt64 63)).toInt64) &&& 3689348814741910323)).toUInt64 >>> ((4 : Int32).toInt64.toUInt64 &&& Int64.toUInt64 63)).toInt64)) &&& 1085102592571150095).toUInt64 >>> ((8 : Int32).toInt64.toUInt64 &&& Int64.toUInt64 63)).toInt64)).toUInt64 >>> ((16 : Int32).toInt64.toUInt64 &&& Int64.toUInt64 63)).toInt64)).toUInt64 >>> ((32 : Int32).toInt64.toUInt64 &&& Int64.toUInt64 63)).toInt64)).toInt32) &&& 127
set_option maxHeartbeats 4000000 in
set_option maxRecDepth 100000 in
theorem c_lo_bitCount (l : Launch) (D : va_G) (cA : Nat → ClassId) (zs : Int64) : Met l y_lo_bitCount (.code y_lo_bitCount b_lo_bitCount 2 (some .int) :: tb) (rmd 0) (Pro D cA [.long zs] (fun _ => True)) (Qro (.int (f_lo_bitCount zs))) 0 0 nof := by
  refine ro_in (by decide) (Nat.le_of_ble_eq_true rfl) (fun p e s m below meth c ls FX hnm hK hP hl => ?_)
  have hl : lv_has ls 2 [(0, .long zs)] := hl
  generalize ([.long zs] : List Value).toArray = args at FX ⊢
  obtain ⟨hx, hb, hml, hown, hts, hr, hlk⟩ := id FX
  refine lv_lload_n hx hb d_lo_bitCount_0 rfl (lv_at hl 0 rfl) ?_
  refine lv_lload_n hx hb d_lo_bitCount_1 rfl (lv_at hl 0 rfl) ?_
  refine lv_iconst (v := 1) hx hb d_lo_bitCount_2 (by decide) ?_
  refine lv_lushr (v := (zs.toUInt64 >>> ((1 : Int32).toInt64.toUInt64 &&& Int64.toUInt64 63)).toInt64) hx hb d_lo_bitCount_3 rfl ?_
  refine lv_ldc2 (v := 6148914691236517205) hx hb hown (hts _ kl_lo_314) d_lo_bitCount_4 ?_
  refine lv_land hx hb d_lo_bitCount_7 ?_
  refine lv_lsub hx hb d_lo_bitCount_8 ?_
  refine lv_lstore_n (lv' := [(0, .long (zs - (((zs.toUInt64 >>> ((1 : Int32).toInt64.toUInt64 &&& Int64.toUInt64 63)).toInt64) &&& 6148914691236517205)))]) hx hb d_lo_bitCount_9 rfl hl (by decide) rfl (fun ls hl => ?_)
  refine lv_lload_n hx hb d_lo_bitCount_10 rfl (lv_at hl 0 rfl) ?_
  refine lv_ldc2 (v := 3689348814741910323) hx hb hown (hts _ kl_lo_316) d_lo_bitCount_11 ?_
  refine lv_land hx hb d_lo_bitCount_14 ?_
  refine lv_lload_n hx hb d_lo_bitCount_15 rfl (lv_at hl 0 rfl) ?_
  refine lv_iconst (v := 2) hx hb d_lo_bitCount_16 (by decide) ?_
  refine lv_lushr (v := ((zs - (((zs.toUInt64 >>> ((1 : Int32).toInt64.toUInt64 &&& Int64.toUInt64 63)).toInt64) &&& 6148914691236517205)).toUInt64 >>> ((2 : Int32).toInt64.toUInt64 &&& Int64.toUInt64 63)).toInt64) hx hb d_lo_bitCount_17 rfl ?_
  refine lv_ldc2 (v := 3689348814741910323) hx hb hown (hts _ kl_lo_316) d_lo_bitCount_18 ?_
  refine lv_land hx hb d_lo_bitCount_21 ?_
  refine lv_ladd hx hb d_lo_bitCount_22 ?_
  refine lv_lstore_n (lv' := [(0, .long (((zs - (((zs.toUInt64 >>> ((1 : Int32).toInt64.toUInt64 &&& Int64.toUInt64 63)).toInt64) &&& 6148914691236517205)) &&& 3689348814741910323) + ((((zs - (((zs.toUInt64 >>> ((1 : Int32).toInt64.toUInt64 &&& Int64.toUInt64 63)).toInt64) &&& 6148914691236517205)).toUInt64 >>> ((2 : Int32).toInt64.toUInt64 &&& Int64.toUInt64 63)).toInt64) &&& 3689348814741910323)))]) hx hb d_lo_bitCount_23 rfl hl (by decide) rfl (fun ls hl => ?_)
  refine lv_lload_n hx hb d_lo_bitCount_24 rfl (lv_at hl 0 rfl) ?_
  refine lv_lload_n hx hb d_lo_bitCount_25 rfl (lv_at hl 0 rfl) ?_
  refine lv_iconst (v := 4) hx hb d_lo_bitCount_26 (by decide) ?_
  refine lv_lushr (v := ((((zs - (((zs.toUInt64 >>> ((1 : Int32).toInt64.toUInt64 &&& Int64.toUInt64 63)).toInt64) &&& 6148914691236517205)) &&& 3689348814741910323) + ((((zs - (((zs.toUInt64 >>> ((1 : Int32).toInt64.toUInt64 &&& Int64.toUInt64 63)).toInt64) &&& 6148914691236517205)).toUInt64 >>> ((2 : Int32).toInt64.toUInt64 &&& Int64.toUInt64 63)).toInt64) &&& 3689348814741910323)).toUInt64 >>> ((4 : Int32).toInt64.toUInt64 &&& Int64.toUInt64 63)).toInt64) hx hb d_lo_bitCount_27 rfl ?_
  refine lv_ladd hx hb d_lo_bitCount_28 ?_
  refine lv_ldc2 (v := 1085102592571150095) hx hb hown (hts _ kl_lo_318) d_lo_bitCount_29 ?_
  refine lv_land hx hb d_lo_bitCount_32 ?_
  refine lv_lstore_n (lv' := [(0, .long (((((zs - (((zs.toUInt64 >>> ((1 : Int32).toInt64.toUInt64 &&& Int64.toUInt64 63)).toInt64) &&& 6148914691236517205)) &&& 3689348814741910323) + ((((zs - (((zs.toUInt64 >>> ((1 : Int32).toInt64.toUInt64 &&& Int64.toUInt64 63)).toInt64) &&& 6148914691236517205)).toUInt64 >>> ((2 : Int32).toInt64.toUInt64 &&& Int64.toUInt64 63)).toInt64) &&& 3689348814741910323)) + (((((zs - (((zs.toUInt64 >>> ((1 : Int32).toInt64.toUInt64 &&& Int64.toUInt64 63)).toInt64) &&& 6148914691236517205)) &&& 3689348814741910323) + ((((zs - (((zs.toUInt64 >>> ((1 : Int32).toInt64.toUInt64 &&& Int64.toUInt64 63)).toInt64) &&& 6148914691236517205)).toUInt64 >>> ((2 : Int32).toInt64.toUInt64 &&& Int64.toUInt64 63)).toInt64) &&& 3689348814741910323)).toUInt64 >>> ((4 : Int32).toInt64.toUInt64 &&& Int64.toUInt64 63)).toInt64)) &&& 1085102592571150095))]) hx hb d_lo_bitCount_33 rfl hl (by decide) rfl (fun ls hl => ?_)
  refine lv_lload_n hx hb d_lo_bitCount_34 rfl (lv_at hl 0 rfl) ?_
  refine lv_lload_n hx hb d_lo_bitCount_35 rfl (lv_at hl 0 rfl) ?_
  refine lv_bipush (v := 8) hx hb d_lo_bitCount_36 (by decide) ?_
  refine lv_lushr (v := ((((((zs - (((zs.toUInt64 >>> ((1 : Int32).toInt64.toUInt64 &&& Int64.toUInt64 63)).toInt64) &&& 6148914691236517205)) &&& 3689348814741910323) + ((((zs - (((zs.toUInt64 >>> ((1 : Int32).toInt64.toUInt64 &&& Int64.toUInt64 63)).toInt64) &&& 6148914691236517205)).toUInt64 >>> ((2 : Int32).toInt64.toUInt64 &&& Int64.toUInt64 63)).toInt64) &&& 3689348814741910323)) + (((((zs - (((zs.toUInt64 >>> ((1 : Int32).toInt64.toUInt64 &&& Int64.toUInt64 63)).toInt64) &&& 6148914691236517205)) &&& 3689348814741910323) + ((((zs - (((zs.toUInt64 >>> ((1 : Int32).toInt64.toUInt64 &&& Int64.toUInt64 63)).toInt64) &&& 6148914691236517205)).toUInt64 >>> ((2 : Int32).toInt64.toUInt64 &&& Int64.toUInt64 63)).toInt64) &&& 3689348814741910323)).toUInt64 >>> ((4 : Int32).toInt64.toUInt64 &&& Int64.toUInt64 63)).toInt64)) &&& 1085102592571150095).toUInt64 >>> ((8 : Int32).toInt64.toUInt64 &&& Int64.toUInt64 63)).toInt64) hx hb d_lo_bitCount_38 rfl ?_
  refine lv_ladd hx hb d_lo_bitCount_39 ?_
  refine lv_lstore_n (lv' := [(0, .long ((((((zs - (((zs.toUInt64 >>> ((1 : Int32).toInt64.toUInt64 &&& Int64.toUInt64 63)).toInt64) &&& 6148914691236517205)) &&& 3689348814741910323) + ((((zs - (((zs.toUInt64 >>> ((1 : Int32).toInt64.toUInt64 &&& Int64.toUInt64 63)).toInt64) &&& 6148914691236517205)).toUInt64 >>> ((2 : Int32).toInt64.toUInt64 &&& Int64.toUInt64 63)).toInt64) &&& 3689348814741910323)) + (((((zs - (((zs.toUInt64 >>> ((1 : Int32).toInt64.toUInt64 &&& Int64.toUInt64 63)).toInt64) &&& 6148914691236517205)) &&& 3689348814741910323) + ((((zs - (((zs.toUInt64 >>> ((1 : Int32).toInt64.toUInt64 &&& Int64.toUInt64 63)).toInt64) &&& 6148914691236517205)).toUInt64 >>> ((2 : Int32).toInt64.toUInt64 &&& Int64.toUInt64 63)).toInt64) &&& 3689348814741910323)).toUInt64 >>> ((4 : Int32).toInt64.toUInt64 &&& Int64.toUInt64 63)).toInt64)) &&& 1085102592571150095) + (((((((zs - (((zs.toUInt64 >>> ((1 : Int32).toInt64.toUInt64 &&& Int64.toUInt64 63)).toInt64) &&& 6148914691236517205)) &&& 3689348814741910323) + ((((zs - (((zs.toUInt64 >>> ((1 : Int32).toInt64.toUInt64 &&& Int64.toUInt64 63)).toInt64) &&& 6148914691236517205)).toUInt64 >>> ((2 : Int32).toInt64.toUInt64 &&& Int64.toUInt64 63)).toInt64) &&& 3689348814741910323)) + (((((zs - (((zs.toUInt64 >>> ((1 : Int32).toInt64.toUInt64 &&& Int64.toUInt64 63)).toInt64) &&& 6148914691236517205)) &&& 3689348814741910323) + ((((zs - (((zs.toUInt64 >>> ((1 : Int32).toInt64.toUInt64 &&& Int64.toUInt64 63)).toInt64) &&& 6148914691236517205)).toUInt64 >>> ((2 : Int32).toInt64.toUInt64 &&& Int64.toUInt64 63)).toInt64) &&& 3689348814741910323)).toUInt64 >>> ((4 : Int32).toInt64.toUInt64 &&& Int64.toUInt64 63)).toInt64)) &&& 1085102592571150095).toUInt64 >>> ((8 : Int32).toInt64.toUInt64 &&& Int64.toUInt64 63)).toInt64)))]) hx hb d_lo_bitCount_40 rfl hl (by decide) rfl (fun ls hl => ?_)
  refine lv_lload_n hx hb d_lo_bitCount_41 rfl (lv_at hl 0 rfl) ?_
  refine lv_lload_n hx hb d_lo_bitCount_42 rfl (lv_at hl 0 rfl) ?_
  refine lv_bipush (v := 16) hx hb d_lo_bitCount_43 (by decide) ?_
  refine lv_lushr (v := (((((((zs - (((zs.toUInt64 >>> ((1 : Int32).toInt64.toUInt64 &&& Int64.toUInt64 63)).toInt64) &&& 6148914691236517205)) &&& 3689348814741910323) + ((((zs - (((zs.toUInt64 >>> ((1 : Int32).toInt64.toUInt64 &&& Int64.toUInt64 63)).toInt64) &&& 6148914691236517205)).toUInt64 >>> ((2 : Int32).toInt64.toUInt64 &&& Int64.toUInt64 63)).toInt64) &&& 3689348814741910323)) + (((((zs - (((zs.toUInt64 >>> ((1 : Int32).toInt64.toUInt64 &&& Int64.toUInt64 63)).toInt64) &&& 6148914691236517205)) &&& 3689348814741910323) + ((((zs - (((zs.toUInt64 >>> ((1 : Int32).toInt64.toUInt64 &&& Int64.toUInt64 63)).toInt64) &&& 6148914691236517205)).toUInt64 >>> ((2 : Int32).toInt64.toUInt64 &&& Int64.toUInt64 63)).toInt64) &&& 3689348814741910323)).toUInt64 >>> ((4 : Int32).toInt64.toUInt64 &&& Int64.toUInt64 63)).toInt64)) &&& 1085102592571150095) + (((((((zs - (((zs.toUInt64 >>> ((1 : Int32).toInt64.toUInt64 &&& Int64.toUInt64 63)).toInt64) &&& 6148914691236517205)) &&& 3689348814741910323) + ((((zs - (((zs.toUInt64 >>> ((1 : Int32).toInt64.toUInt64 &&& Int64.toUInt64 63)).toInt64) &&& 6148914691236517205)).toUInt64 >>> ((2 : Int32).toInt64.toUInt64 &&& Int64.toUInt64 63)).toInt64) &&& 3689348814741910323)) + (((((zs - (((zs.toUInt64 >>> ((1 : Int32).toInt64.toUInt64 &&& Int64.toUInt64 63)).toInt64) &&& 6148914691236517205)) &&& 3689348814741910323) + ((((zs - (((zs.toUInt64 >>> ((1 : Int32).toInt64.toUInt64 &&& Int64.toUInt64 63)).toInt64) &&& 6148914691236517205)).toUInt64 >>> ((2 : Int32).toInt64.toUInt64 &&& Int64.toUInt64 63)).toInt64) &&& 3689348814741910323)).toUInt64 >>> ((4 : Int32).toInt64.toUInt64 &&& Int64.toUInt64 63)).toInt64)) &&& 1085102592571150095).toUInt64 >>> ((8 : Int32).toInt64.toUInt64 &&& Int64.toUInt64 63)).toInt64)).toUInt64 >>> ((16 : Int32).toInt64.toUInt64 &&& Int64.toUInt64 63)).toInt64) hx hb d_lo_bitCount_45 rfl ?_
  refine lv_ladd hx hb d_lo_bitCount_46 ?_
  refine lv_lstore_n (lv' := [(0, .long (((((((zs - (((zs.toUInt64 >>> ((1 : Int32).toInt64.toUInt64 &&& Int64.toUInt64 63)).toInt64) &&& 6148914691236517205)) &&& 3689348814741910323) + ((((zs - (((zs.toUInt64 >>> ((1 : Int32).toInt64.toUInt64 &&& Int64.toUInt64 63)).toInt64) &&& 6148914691236517205)).toUInt64 >>> ((2 : Int32).toInt64.toUInt64 &&& Int64.toUInt64 63)).toInt64) &&& 3689348814741910323)) + (((((zs - (((zs.toUInt64 >>> ((1 : Int32).toInt64.toUInt64 &&& Int64.toUInt64 63)).toInt64) &&& 6148914691236517205)) &&& 3689348814741910323) + ((((zs - (((zs.toUInt64 >>> ((1 : Int32).toInt64.toUInt64 &&& Int64.toUInt64 63)).toInt64) &&& 6148914691236517205)).toUInt64 >>> ((2 : Int32).toInt64.toUInt64 &&& Int64.toUInt64 63)).toInt64) &&& 3689348814741910323)).toUInt64 >>> ((4 : Int32).toInt64.toUInt64 &&& Int64.toUInt64 63)).toInt64)) &&& 1085102592571150095) + (((((((zs - (((zs.toUInt64 >>> ((1 : Int32).toInt64.toUInt64 &&& Int64.toUInt64 63)).toInt64) &&& 6148914691236517205)) &&& 3689348814741910323) + ((((zs - (((zs.toUInt64 >>> ((1 : Int32).toInt64.toUInt64 &&& Int64.toUInt64 63)).toInt64) &&& 6148914691236517205)).toUInt64 >>> ((2 : Int32).toInt64.toUInt64 &&& Int64.toUInt64 63)).toInt64) &&& 3689348814741910323)) + (((((zs - (((zs.toUInt64 >>> ((1 : Int32).toInt64.toUInt64 &&& Int64.toUInt64 63)).toInt64) &&& 6148914691236517205)) &&& 3689348814741910323) + ((((zs - (((zs.toUInt64 >>> ((1 : Int32).toInt64.toUInt64 &&& Int64.toUInt64 63)).toInt64) &&& 6148914691236517205)).toUInt64 >>> ((2 : Int32).toInt64.toUInt64 &&& Int64.toUInt64 63)).toInt64) &&& 3689348814741910323)).toUInt64 >>> ((4 : Int32).toInt64.toUInt64 &&& Int64.toUInt64 63)).toInt64)) &&& 1085102592571150095).toUInt64 >>> ((8 : Int32).toInt64.toUInt64 &&& Int64.toUInt64 63)).toInt64)) + ((((((((zs - (((zs.toUInt64 >>> ((1 : Int32).toInt64.toUInt64 &&& Int64.toUInt64 63)).toInt64) &&& 6148914691236517205)) &&& 3689348814741910323) + ((((zs - (((zs.toUInt64 >>> ((1 : Int32).toInt64.toUInt64 &&& Int64.toUInt64 63)).toInt64) &&& 6148914691236517205)).toUInt64 >>> ((2 : Int32).toInt64.toUInt64 &&& Int64.toUInt64 63)).toInt64) &&& 3689348814741910323)) + (((((zs - (((zs.toUInt64 >>> ((1 : Int32).toInt64.toUInt64 &&& Int64.toUInt64 63)).toInt64) &&& 6148914691236517205)) &&& 3689348814741910323) + ((((zs - (((zs.toUInt64 >>> ((1 : Int32).toInt64.toUInt64 &&& Int64.toUInt64 63)).toInt64) &&& 6148914691236517205)).toUInt64 >>> ((2 : Int32).toInt64.toUInt64 &&& Int64.toUInt64 63)).toInt64) &&& 3689348814741910323)).toUInt64 >>> ((4 : Int32).toInt64.toUInt64 &&& Int64.toUInt64 63)).toInt64)) &&& 1085102592571150095) + (((((((zs - (((zs.toUInt64 >>> ((1 : Int32).toInt64.toUInt64 &&& Int64.toUInt64 63)).toInt64) &&& 6148914691236517205)) &&& 3689348814741910323) + ((((zs - (((zs.toUInt64 >>> ((1 : Int32).toInt64.toUInt64 &&& Int64.toUInt64 63)).toInt64) &&& 6148914691236517205)).toUInt64 >>> ((2 : Int32).toInt64.toUInt64 &&& Int64.toUInt64 63)).toInt64) &&& 3689348814741910323)) + (((((zs - (((zs.toUInt64 >>> ((1 : Int32).toInt64.toUInt64 &&& Int64.toUInt64 63)).toInt64) &&& 6148914691236517205)) &&& 3689348814741910323) + ((((zs - (((zs.toUInt64 >>> ((1 : Int32).toInt64.toUInt64 &&& Int64.toUInt64 63)).toInt64) &&& 6148914691236517205)).toUInt64 >>> ((2 : Int32).toInt64.toUInt64 &&& Int64.toUInt64 63)).toInt64) &&& 3689348814741910323)).toUInt64 >>> ((4 : Int32).toInt64.toUInt64 &&& Int64.toUInt64 63)).toInt64)) &&& 1085102592571150095).toUInt64 >>> ((8 : Int32).toInt64.toUInt64 &&& Int64.toUInt64 63)).toInt64)).toUInt64 >>> ((16 : Int32).toInt64.toUInt64 &&& Int64.toUInt64 63)).toInt64)))]) hx hb d_lo_bitCount_47 rfl hl (by decide) rfl (fun ls hl => ?_)
  refine lv_lload_n hx hb d_lo_bitCount_48 rfl (lv_at hl 0 rfl) ?_
  refine lv_lload_n hx hb d_lo_bitCount_49 rfl (lv_at hl 0 rfl) ?_
  refine lv_bipush (v := 32) hx hb d_lo_bitCount_50 (by decide) ?_
  refine lv_lushr (v := ((((((((zs - (((zs.toUInt64 >>> ((1 : Int32).toInt64.toUInt64 &&& Int64.toUInt64 63)).toInt64) &&& 6148914691236517205)) &&& 3689348814741910323) + ((((zs - (((zs.toUInt64 >>> ((1 : Int32).toInt64.toUInt64 &&& Int64.toUInt64 63)).toInt64) &&& 6148914691236517205)).toUInt64 >>> ((2 : Int32).toInt64.toUInt64 &&& Int64.toUInt64 63)).toInt64) &&& 3689348814741910323)) + (((((zs - (((zs.toUInt64 >>> ((1 : Int32).toInt64.toUInt64 &&& Int64.toUInt64 63)).toInt64) &&& 6148914691236517205)) &&& 3689348814741910323) + ((((zs - (((zs.toUInt64 >>> ((1 : Int32).toInt64.toUInt64 &&& Int64.toUInt64 63)).toInt64) &&& 6148914691236517205)).toUInt64 >>> ((2 : Int32).toInt64.toUInt64 &&& Int64.toUInt64 63)).toInt64) &&& 3689348814741910323)).toUInt64 >>> ((4 : Int32).toInt64.toUInt64 &&& Int64.toUInt64 63)).toInt64)) &&& 1085102592571150095) + (((((((zs - (((zs.toUInt64 >>> ((1 : Int32).toInt64.toUInt64 &&& Int64.toUInt64 63)).toInt64) &&& 6148914691236517205)) &&& 3689348814741910323) + ((((zs - (((zs.toUInt64 >>> ((1 : Int32).toInt64.toUInt64 &&& Int64.toUInt64 63)).toInt64) &&& 6148914691236517205)).toUInt64 >>> ((2 : Int32).toInt64.toUInt64 &&& Int64.toUInt64 63)).toInt64) &&& 3689348814741910323)) + (((((zs - (((zs.toUInt64 >>> ((1 : Int32).toInt64.toUInt64 &&& Int64.toUInt64 63)).toInt64) &&& 6148914691236517205)) &&& 3689348814741910323) + ((((zs - (((zs.toUInt64 >>> ((1 : Int32).toInt64.toUInt64 &&& Int64.toUInt64 63)).toInt64) &&& 6148914691236517205)).toUInt64 >>> ((2 : Int32).toInt64.toUInt64 &&& Int64.toUInt64 63)).toInt64) &&& 3689348814741910323)).toUInt64 >>> ((4 : Int32).toInt64.toUInt64 &&& Int64.toUInt64 63)).toInt64)) &&& 1085102592571150095).toUInt64 >>> ((8 : Int32).toInt64.toUInt64 &&& Int64.toUInt64 63)).toInt64)) + ((((((((zs - (((zs.toUInt64 >>> ((1 : Int32).toInt64.toUInt64 &&& Int64.toUInt64 63)).toInt64) &&& 6148914691236517205)) &&& 3689348814741910323) + ((((zs - (((zs.toUInt64 >>> ((1 : Int32).toInt64.toUInt64 &&& Int64.toUInt64 63)).toInt64) &&& 6148914691236517205)).toUInt64 >>> ((2 : Int32).toInt64.toUInt64 &&& Int64.toUInt64 63)).toInt64) &&& 3689348814741910323)) + (((((zs - (((zs.toUInt64 >>> ((1 : Int32).toInt64.toUInt64 &&& Int64.toUInt64 63)).toInt64) &&& 6148914691236517205)) &&& 3689348814741910323) + ((((zs - (((zs.toUInt64 >>> ((1 : Int32).toInt64.toUInt64 &&& Int64.toUInt64 63)).toInt64) &&& 6148914691236517205)).toUInt64 >>> ((2 : Int32).toInt64.toUInt64 &&& Int64.toUInt64 63)).toInt64) &&& 3689348814741910323)).toUInt64 >>> ((4 : Int32).toInt64.toUInt64 &&& Int64.toUInt64 63)).toInt64)) &&& 1085102592571150095) + (((((((zs - (((zs.toUInt64 >>> ((1 : Int32).toInt64.toUInt64 &&& Int64.toUInt64 63)).toInt64) &&& 6148914691236517205)) &&& 3689348814741910323) + ((((zs - (((zs.toUInt64 >>> ((1 : Int32).toInt64.toUInt64 &&& Int64.toUInt64 63)).toInt64) &&& 6148914691236517205)).toUInt64 >>> ((2 : Int32).toInt64.toUInt64 &&& Int64.toUInt64 63)).toInt64) &&& 3689348814741910323)) + (((((zs - (((zs.toUInt64 >>> ((1 : Int32).toInt64.toUInt64 &&& Int64.toUInt64 63)).toInt64) &&& 6148914691236517205)) &&& 3689348814741910323) + ((((zs - (((zs.toUInt64 >>> ((1 : Int32).toInt64.toUInt64 &&& Int64.toUInt64 63)).toInt64) &&& 6148914691236517205)).toUInt64 >>> ((2 : Int32).toInt64.toUInt64 &&& Int64.toUInt64 63)).toInt64) &&& 3689348814741910323)).toUInt64 >>> ((4 : Int32).toInt64.toUInt64 &&& Int64.toUInt64 63)).toInt64)) &&& 1085102592571150095).toUInt64 >>> ((8 : Int32).toInt64.toUInt64 &&& Int64.toUInt64 63)).toInt64)).toUInt64 >>> ((16 : Int32).toInt64.toUInt64 &&& Int64.toUInt64 63)).toInt64)).toUInt64 >>> ((32 : Int32).toInt64.toUInt64 &&& Int64.toUInt64 63)).toInt64) hx hb d_lo_bitCount_52 rfl ?_
  refine lv_ladd hx hb d_lo_bitCount_53 ?_
  refine lv_lstore_n (lv' := [(0, .long ((((((((zs - (((zs.toUInt64 >>> ((1 : Int32).toInt64.toUInt64 &&& Int64.toUInt64 63)).toInt64) &&& 6148914691236517205)) &&& 3689348814741910323) + ((((zs - (((zs.toUInt64 >>> ((1 : Int32).toInt64.toUInt64 &&& Int64.toUInt64 63)).toInt64) &&& 6148914691236517205)).toUInt64 >>> ((2 : Int32).toInt64.toUInt64 &&& Int64.toUInt64 63)).toInt64) &&& 3689348814741910323)) + (((((zs - (((zs.toUInt64 >>> ((1 : Int32).toInt64.toUInt64 &&& Int64.toUInt64 63)).toInt64) &&& 6148914691236517205)) &&& 3689348814741910323) + ((((zs - (((zs.toUInt64 >>> ((1 : Int32).toInt64.toUInt64 &&& Int64.toUInt64 63)).toInt64) &&& 6148914691236517205)).toUInt64 >>> ((2 : Int32).toInt64.toUInt64 &&& Int64.toUInt64 63)).toInt64) &&& 3689348814741910323)).toUInt64 >>> ((4 : Int32).toInt64.toUInt64 &&& Int64.toUInt64 63)).toInt64)) &&& 1085102592571150095) + (((((((zs - (((zs.toUInt64 >>> ((1 : Int32).toInt64.toUInt64 &&& Int64.toUInt64 63)).toInt64) &&& 6148914691236517205)) &&& 3689348814741910323) + ((((zs - (((zs.toUInt64 >>> ((1 : Int32).toInt64.toUInt64 &&& Int64.toUInt64 63)).toInt64) &&& 6148914691236517205)).toUInt64 >>> ((2 : Int32).toInt64.toUInt64 &&& Int64.toUInt64 63)).toInt64) &&& 3689348814741910323)) + (((((zs - (((zs.toUInt64 >>> ((1 : Int32).toInt64.toUInt64 &&& Int64.toUInt64 63)).toInt64) &&& 6148914691236517205)) &&& 3689348814741910323) + ((((zs - (((zs.toUInt64 >>> ((1 : Int32).toInt64.toUInt64 &&& Int64.toUInt64 63)).toInt64) &&& 6148914691236517205)).toUInt64 >>> ((2 : Int32).toInt64.toUInt64 &&& Int64.toUInt64 63)).toInt64) &&& 3689348814741910323)).toUInt64 >>> ((4 : Int32).toInt64.toUInt64 &&& Int64.toUInt64 63)).toInt64)) &&& 1085102592571150095).toUInt64 >>> ((8 : Int32).toInt64.toUInt64 &&& Int64.toUInt64 63)).toInt64)) + ((((((((zs - (((zs.toUInt64 >>> ((1 : Int32).toInt64.toUInt64 &&& Int64.toUInt64 63)).toInt64) &&& 6148914691236517205)) &&& 3689348814741910323) + ((((zs - (((zs.toUInt64 >>> ((1 : Int32).toInt64.toUInt64 &&& Int64.toUInt64 63)).toInt64) &&& 6148914691236517205)).toUInt64 >>> ((2 : Int32).toInt64.toUInt64 &&& Int64.toUInt64 63)).toInt64) &&& 3689348814741910323)) + (((((zs - (((zs.toUInt64 >>> ((1 : Int32).toInt64.toUInt64 &&& Int64.toUInt64 63)).toInt64) &&& 6148914691236517205)) &&& 3689348814741910323) + ((((zs - (((zs.toUInt64 >>> ((1 : Int32).toInt64.toUInt64 &&& Int64.toUInt64 63)).toInt64) &&& 6148914691236517205)).toUInt64 >>> ((2 : Int32).toInt64.toUInt64 &&& Int64.toUInt64 63)).toInt64) &&& 3689348814741910323)).toUInt64 >>> ((4 : Int32).toInt64.toUInt64 &&& Int64.toUInt64 63)).toInt64)) &&& 1085102592571150095) + (((((((zs - (((zs.toUInt64 >>> ((1 : Int32).toInt64.toUInt64 &&& Int64.toUInt64 63)).toInt64) &&& 6148914691236517205)) &&& 3689348814741910323) + ((((zs - (((zs.toUInt64 >>> ((1 : Int32).toInt64.toUInt64 &&& Int64.toUInt64 63)).toInt64) &&& 6148914691236517205)).toUInt64 >>> ((2 : Int32).toInt64.toUInt64 &&& Int64.toUInt64 63)).toInt64) &&& 3689348814741910323)) + (((((zs - (((zs.toUInt64 >>> ((1 : Int32).toInt64.toUInt64 &&& Int64.toUInt64 63)).toInt64) &&& 6148914691236517205)) &&& 3689348814741910323) + ((((zs - (((zs.toUInt64 >>> ((1 : Int32).toInt64.toUInt64 &&& Int64.toUInt64 63)).toInt64) &&& 6148914691236517205)).toUInt64 >>> ((2 : Int32).toInt64.toUInt64 &&& Int64.toUInt64 63)).toInt64) &&& 3689348814741910323)).toUInt64 >>> ((4 : Int32).toInt64.toUInt64 &&& Int64.toUInt64 63)).toInt64)) &&& 1085102592571150095).toUInt64 >>> ((8 : Int32).toInt64.toUInt64 &&& Int64.toUInt64 63)).toInt64)).toUInt64 >>> ((16 : Int32).toInt64.toUInt64 &&& Int64.toUInt64 63)).toInt64)) + (((((((((zs - (((zs.toUInt64 >>> ((1 : Int32).toInt64.toUInt64 &&& Int64.toUInt64 63)).toInt64) &&& 6148914691236517205)) &&& 3689348814741910323) + ((((zs - (((zs.toUInt64 >>> ((1 : Int32).toInt64.toUInt64 &&& Int64.toUInt64 63)).toInt64) &&& 6148914691236517205)).toUInt64 >>> ((2 : Int32).toInt64.toUInt64 &&& Int64.toUInt64 63)).toInt64) &&& 3689348814741910323)) + (((((zs - (((zs.toUInt64 >>> ((1 : Int32).toInt64.toUInt64 &&& Int64.toUInt64 63)).toInt64) &&& 6148914691236517205)) &&& 3689348814741910323) + ((((zs - (((zs.toUInt64 >>> ((1 : Int32).toInt64.toUInt64 &&& Int64.toUInt64 63)).toInt64) &&& 6148914691236517205)).toUInt64 >>> ((2 : Int32).toInt64.toUInt64 &&& Int64.toUInt64 63)).toInt64) &&& 3689348814741910323)).toUInt64 >>> ((4 : Int32).toInt64.toUInt64 &&& Int64.toUInt64 63)).toInt64)) &&& 1085102592571150095) + (((((((zs - (((zs.toUInt64 >>> ((1 : Int32).toInt64.toUInt64 &&& Int64.toUInt64 63)).toInt64) &&& 6148914691236517205)) &&& 3689348814741910323) + ((((zs - (((zs.toUInt64 >>> ((1 : Int32).toInt64.toUInt64 &&& Int64.toUInt64 63)).toInt64) &&& 6148914691236517205)).toUInt64 >>> ((2 : Int32).toInt64.toUInt64 &&& Int64.toUInt64 63)).toInt64) &&& 3689348814741910323)) + (((((zs - (((zs.toUInt64 >>> ((1 : Int32).toInt64.toUInt64 &&& Int64.toUInt64 63)).toInt64) &&& 6148914691236517205)) &&& 3689348814741910323) + ((((zs - (((zs.toUInt64 >>> ((1 : Int32).toInt64.toUInt64 &&& Int64.toUInt64 63)).toInt64) &&& 6148914691236517205)).toUInt64 >>> ((2 : Int32).toInt64.toUInt64 &&& Int64.toUInt64 63)).toInt64) &&& 3689348814741910323)).toUInt64 >>> ((4 : Int32).toInt64.toUInt64 &&& Int64.toUInt64 63)).toInt64)) &&& 1085102592571150095).toUInt64 >>> ((8 : Int32).toInt64.toUInt64 &&& Int64.toUInt64 63)).toInt64)) + ((((((((zs - (((zs.toUInt64 >>> ((1 : Int32).toInt64.toUInt64 &&& Int64.toUInt64 63)).toInt64) &&& 6148914691236517205)) &&& 3689348814741910323) + ((((zs - (((zs.toUInt64 >>> ((1 : Int32).toInt64.toUInt64 &&& Int64.toUInt64 63)).toInt64) &&& 6148914691236517205)).toUInt64 >>> ((2 : Int32).toInt64.toUInt64 &&& Int64.toUInt64 63)).toInt64) &&& 3689348814741910323)) + (((((zs - (((zs.toUInt64 >>> ((1 : Int32).toInt64.toUInt64 &&& Int64.toUInt64 63)).toInt64) &&& 6148914691236517205)) &&& 3689348814741910323) + ((((zs - (((zs.toUInt64 >>> ((1 : Int32).toInt64.toUInt64 &&& Int64.toUInt64 63)).toInt64) &&& 6148914691236517205)).toUInt64 >>> ((2 : Int32).toInt64.toUInt64 &&& Int64.toUInt64 63)).toInt64) &&& 3689348814741910323)).toUInt64 >>> ((4 : Int32).toInt64.toUInt64 &&& Int64.toUInt64 63)).toInt64)) &&& 1085102592571150095) + (((((((zs - (((zs.toUInt64 >>> ((1 : Int32).toInt64.toUInt64 &&& Int64.toUInt64 63)).toInt64) &&& 6148914691236517205)) &&& 3689348814741910323) + ((((zs - (((zs.toUInt64 >>> ((1 : Int32).toInt64.toUInt64 &&& Int64.toUInt64 63)).toInt64) &&& 6148914691236517205)).toUInt64 >>> ((2 : Int32).toInt64.toUInt64 &&& Int64.toUInt64 63)).toInt64) &&& 3689348814741910323)) + (((((zs - (((zs.toUInt64 >>> ((1 : Int32).toInt64.toUInt64 &&& Int64.toUInt64 63)).toInt64) &&& 6148914691236517205)) &&& 3689348814741910323) + ((((zs - (((zs.toUInt64 >>> ((1 : Int32).toInt64.toUInt64 &&& Int64.toUInt64 63)).toInt64) &&& 6148914691236517205)).toUInt64 >>> ((2 : Int32).toInt64.toUInt64 &&& Int64.toUInt64 63)).toInt64) &&& 3689348814741910323)).toUInt64 >>> ((4 : Int32).toInt64.toUInt64 &&& Int64.toUInt64 63)).toInt64)) &&& 1085102592571150095).toUInt64 >>> ((8 : Int32).toInt64.toUInt64 &&& Int64.toUInt64 63)).toInt64)).toUInt64 >>> ((16 : Int32).toInt64.toUInt64 &&& Int64.toUInt64 63)).toInt64)).toUInt64 >>> ((32 : Int32).toInt64.toUInt64 &&& Int64.toUInt64 63)).toInt64)))]) hx hb d_lo_bitCount_54 rfl hl (by decide) rfl (fun ls hl => ?_)
  refine lv_lload_n hx hb d_lo_bitCount_55 rfl (lv_at hl 0 rfl) ?_
  refine lv_l2i (v := ((((((((zs - (((zs.toUInt64 >>> ((1 : Int32).toInt64.toUInt64 &&& Int64.toUInt64 63)).toInt64) &&& 6148914691236517205)) &&& 3689348814741910323) + ((((zs - (((zs.toUInt64 >>> ((1 : Int32).toInt64.toUInt64 &&& Int64.toUInt64 63)).toInt64) &&& 6148914691236517205)).toUInt64 >>> ((2 : Int32).toInt64.toUInt64 &&& Int64.toUInt64 63)).toInt64) &&& 3689348814741910323)) + (((((zs - (((zs.toUInt64 >>> ((1 : Int32).toInt64.toUInt64 &&& Int64.toUInt64 63)).toInt64) &&& 6148914691236517205)) &&& 3689348814741910323) + ((((zs - (((zs.toUInt64 >>> ((1 : Int32).toInt64.toUInt64 &&& Int64.toUInt64 63)).toInt64) &&& 6148914691236517205)).toUInt64 >>> ((2 : Int32).toInt64.toUInt64 &&& Int64.toUInt64 63)).toInt64) &&& 3689348814741910323)).toUInt64 >>> ((4 : Int32).toInt64.toUInt64 &&& Int64.toUInt64 63)).toInt64)) &&& 1085102592571150095) + (((((((zs - (((zs.toUInt64 >>> ((1 : Int32).toInt64.toUInt64 &&& Int64.toUInt64 63)).toInt64) &&& 6148914691236517205)) &&& 3689348814741910323) + ((((zs - (((zs.toUInt64 >>> ((1 : Int32).toInt64.toUInt64 &&& Int64.toUInt64 63)).toInt64) &&& 6148914691236517205)).toUInt64 >>> ((2 : Int32).toInt64.toUInt64 &&& Int64.toUInt64 63)).toInt64) &&& 3689348814741910323)) + (((((zs - (((zs.toUInt64 >>> ((1 : Int32).toInt64.toUInt64 &&& Int64.toUInt64 63)).toInt64) &&& 6148914691236517205)) &&& 3689348814741910323) + ((((zs - (((zs.toUInt64 >>> ((1 : Int32).toInt64.toUInt64 &&& Int64.toUInt64 63)).toInt64) &&& 6148914691236517205)).toUInt64 >>> ((2 : Int32).toInt64.toUInt64 &&& Int64.toUInt64 63)).toInt64) &&& 3689348814741910323)).toUInt64 >>> ((4 : Int32).toInt64.toUInt64 &&& Int64.toUInt64 63)).toInt64)) &&& 1085102592571150095).toUInt64 >>> ((8 : Int32).toInt64.toUInt64 &&& Int64.toUInt64 63)).toInt64)) + ((((((((zs - (((zs.toUInt64 >>> ((1 : Int32).toInt64.toUInt64 &&& Int64.toUInt64 63)).toInt64) &&& 6148914691236517205)) &&& 3689348814741910323) + ((((zs - (((zs.toUInt64 >>> ((1 : Int32).toInt64.toUInt64 &&& Int64.toUInt64 63)).toInt64) &&& 6148914691236517205)).toUInt64 >>> ((2 : Int32).toInt64.toUInt64 &&& Int64.toUInt64 63)).toInt64) &&& 3689348814741910323)) + (((((zs - (((zs.toUInt64 >>> ((1 : Int32).toInt64.toUInt64 &&& Int64.toUInt64 63)).toInt64) &&& 6148914691236517205)) &&& 3689348814741910323) + ((((zs - (((zs.toUInt64 >>> ((1 : Int32).toInt64.toUInt64 &&& Int64.toUInt64 63)).toInt64) &&& 6148914691236517205)).toUInt64 >>> ((2 : Int32).toInt64.toUInt64 &&& Int64.toUInt64 63)).toInt64) &&& 3689348814741910323)).toUInt64 >>> ((4 : Int32).toInt64.toUInt64 &&& Int64.toUInt64 63)).toInt64)) &&& 1085102592571150095) + (((((((zs - (((zs.toUInt64 >>> ((1 : Int32).toInt64.toUInt64 &&& Int64.toUInt64 63)).toInt64) &&& 6148914691236517205)) &&& 3689348814741910323) + ((((zs - (((zs.toUInt64 >>> ((1 : Int32).toInt64.toUInt64 &&& Int64.toUInt64 63)).toInt64) &&& 6148914691236517205)).toUInt64 >>> ((2 : Int32).toInt64.toUInt64 &&& Int64.toUInt64 63)).toInt64) &&& 3689348814741910323)) + (((((zs - (((zs.toUInt64 >>> ((1 : Int32).toInt64.toUInt64 &&& Int64.toUInt64 63)).toInt64) &&& 6148914691236517205)) &&& 3689348814741910323) + ((((zs - (((zs.toUInt64 >>> ((1 : Int32).toInt64.toUInt64 &&& Int64.toUInt64 63)).toInt64) &&& 6148914691236517205)).toUInt64 >>> ((2 : Int32).toInt64.toUInt64 &&& Int64.toUInt64 63)).toInt64) &&& 3689348814741910323)).toUInt64 >>> ((4 : Int32).toInt64.toUInt64 &&& Int64.toUInt64 63)).toInt64)) &&& 1085102592571150095).toUInt64 >>> ((8 : Int32).toInt64.toUInt64 &&& Int64.toUInt64 63)).toInt64)).toUInt64 >>> ((16 : Int32).toInt64.toUInt64 &&& Int64.toUInt64 63)).toInt64)) + (((((((((zs - (((zs.toUInt64 >>> ((1 : Int32).toInt64.toUInt64 &&& Int64.toUInt64 63)).toInt64) &&& 6148914691236517205)) &&& 3689348814741910323) + ((((zs - (((zs.toUInt64 >>> ((1 : Int32).toInt64.toUInt64 &&& Int64.toUInt64 63)).toInt64) &&& 6148914691236517205)).toUInt64 >>> ((2 : Int32).toInt64.toUInt64 &&& Int64.toUInt64 63)).toInt64) &&& 3689348814741910323)) + (((((zs - (((zs.toUInt64 >>> ((1 : Int32).toInt64.toUInt64 &&& Int64.toUInt64 63)).toInt64) &&& 6148914691236517205)) &&& 3689348814741910323) + ((((zs - (((zs.toUInt64 >>> ((1 : Int32).toInt64.toUInt64 &&& Int64.toUInt64 63)).toInt64) &&& 6148914691236517205)).toUInt64 >>> ((2 : Int32).toInt64.toUInt64 &&& Int64.toUInt64 63)).toInt64) &&& 3689348814741910323)).toUInt64 >>> ((4 : Int32).toInt64.toUInt64 &&& Int64.toUInt64 63)).toInt64)) &&& 1085102592571150095) + (((((((zs - (((zs.toUInt64 >>> ((1 : Int32).toInt64.toUInt64 &&& Int64.toUInt64 63)).toInt64) &&& 6148914691236517205)) &&& 3689348814741910323) + ((((zs - (((zs.toUInt64 >>> ((1 : Int32).toInt64.toUInt64 &&& Int64.toUInt64 63)).toInt64) &&& 6148914691236517205)).toUInt64 >>> ((2 : Int32).toInt64.toUInt64 &&& Int64.toUInt64 63)).toInt64) &&& 3689348814741910323)) + (((((zs - (((zs.toUInt64 >>> ((1 : Int32).toInt64.toUInt64 &&& Int64.toUInt64 63)).toInt64) &&& 6148914691236517205)) &&& 3689348814741910323) + ((((zs - (((zs.toUInt64 >>> ((1 : Int32).toInt64.toUInt64 &&& Int64.toUInt64 63)).toInt64) &&& 6148914691236517205)).toUInt64 >>> ((2 : Int32).toInt64.toUInt64 &&& Int64.toUInt64 63)).toInt64) &&& 3689348814741910323)).toUInt64 >>> ((4 : Int32).toInt64.toUInt64 &&& Int64.toUInt64 63)).toInt64)) &&& 1085102592571150095).toUInt64 >>> ((8 : Int32).toInt64.toUInt64 &&& Int64.toUInt64 63)).toInt64)) + ((((((((zs - (((zs.toUInt64 >>> ((1 : Int32).toInt64.toUInt64 &&& Int64.toUInt64 63)).toInt64) &&& 6148914691236517205)) &&& 3689348814741910323) + ((((zs - (((zs.toUInt64 >>> ((1 : Int32).toInt64.toUInt64 &&& Int64.toUInt64 63)).toInt64) &&& 6148914691236517205)).toUInt64 >>> ((2 : Int32).toInt64.toUInt64 &&& Int64.toUInt64 63)).toInt64) &&& 3689348814741910323)) + (((((zs - (((zs.toUInt64 >>> ((1 : Int32).toInt64.toUInt64 &&& Int64.toUInt64 63)).toInt64) &&& 6148914691236517205)) &&& 3689348814741910323) + ((((zs - (((zs.toUInt64 >>> ((1 : Int32).toInt64.toUInt64 &&& Int64.toUInt64 63)).toInt64) &&& 6148914691236517205)).toUInt64 >>> ((2 : Int32).toInt64.toUInt64 &&& Int64.toUInt64 63)).toInt64) &&& 3689348814741910323)).toUInt64 >>> ((4 : Int32).toInt64.toUInt64 &&& Int64.toUInt64 63)).toInt64)) &&& 1085102592571150095) + (((((((zs - (((zs.toUInt64 >>> ((1 : Int32).toInt64.toUInt64 &&& Int64.toUInt64 63)).toInt64) &&& 6148914691236517205)) &&& 3689348814741910323) + ((((zs - (((zs.toUInt64 >>> ((1 : Int32).toInt64.toUInt64 &&& Int64.toUInt64 63)).toInt64) &&& 6148914691236517205)).toUInt64 >>> ((2 : Int32).toInt64.toUInt64 &&& Int64.toUInt64 63)).toInt64) &&& 3689348814741910323)) + (((((zs - (((zs.toUInt64 >>> ((1 : Int32).toInt64.toUInt64 &&& Int64.toUInt64 63)).toInt64) &&& 6148914691236517205)) &&& 3689348814741910323) + ((((zs - (((zs.toUInt64 >>> ((1 : Int32).toInt64.toUInt64 &&& Int64.toUInt64 63)).toInt64) &&& 6148914691236517205)).toUInt64 >>> ((2 : Int32).toInt64.toUInt64 &&& Int64.toUInt64 63)).toInt64) &&& 3689348814741910323)).toUInt64 >>> ((4 : Int32).toInt64.toUInt64 &&& Int64.toUInt64 63)).toInt64)) &&& 1085102592571150095).toUInt64 >>> ((8 : Int32).toInt64.toUInt64 &&& Int64.toUInt64 63)).toInt64)).toUInt64 >>> ((16 : Int32).toInt64.toUInt64 &&& Int64.toUInt64 63)).toInt64)).toUInt64 >>> ((32 : Int32).toInt64.toUInt64 &&& Int64.toUInt64 63)).toInt64)).toInt32) hx hb d_lo_bitCount_56 rfl ?_
  refine lv_bipush (v := 127) hx hb d_lo_bitCount_57 (by decide) ?_
  refine lv_iand hx hb d_lo_bitCount_59 ?_
  exact ro_iret FX (by rw [f_lo_bitCount]) d_lo_bitCount_60
theorem d_x_isNumber_0 : decode b_x_isNumber 0 = .ok (.iload_n 0, 1) := by decide +kernel
theorem d_x_isNumber_1 : decode b_x_isNumber 1 = .ok (.ifCond .lt 13, 3) := by decide +kernel
theorem d_x_isNumber_4 : decode b_x_isNumber 4 = .ok (.iload_n 0, 1) := by decide +kernel
theorem d_x_isNumber_5 : decode b_x_isNumber 5 = .ok (.bipush 40, 2) := by decide +kernel
theorem d_x_isNumber_7 : decode b_x_isNumber 7 = .ok (.if_icmp .ge 7, 3) := by decide +kernel
theorem d_x_isNumber_10 : decode b_x_isNumber 10 = .ok (.iconst 1, 1) := by decide +kernel
theorem d_x_isNumber_11 : decode b_x_isNumber 11 = .ok (.goto 4, 3) := by decide +kernel
theorem d_x_isNumber_14 : decode b_x_isNumber 14 = .ok (.iconst 0, 1) := by decide +kernel
theorem d_x_isNumber_15 : decode b_x_isNumber 15 = .ok (.ireturn, 1) := by decide +kernel
def f_x_isNumber (nu : Int32) : Bool := if nu < 0 then
    (false)
  else
    (if 40 ≤ nu then
      (false)
    else
      (true))
set_option maxHeartbeats 4000000 in
set_option maxRecDepth 100000 in
theorem c_x_isNumber (l : Launch) (D : va_G) (cA : Nat → ClassId) (nu : Int32) : Met l y_x_isNumber (.code y_x_isNumber b_x_isNumber 1 (some .boolean) :: tb) (rmd 0) (Pro D cA [.int nu] (fun _ => True)) (Qro (.int (bz (f_x_isNumber nu)))) 0 0 nof := by
  refine ro_in (by decide) (Nat.le_of_ble_eq_true rfl) (fun p e s m below meth c ls FX hnm hK hP hl => ?_)
  have hl : lv_has ls 1 [(0, .int nu)] := hl
  generalize ([.int nu] : List Value).toArray = args at FX ⊢
  obtain ⟨hx, hb, hml, hown, hts, hr, hlk⟩ := id FX
  refine lv_iload_n hx hb d_x_isNumber_0 rfl (lv_at hl 0 rfl) ?_
  refine lv_if_lt (tgt := 14) hx hb d_x_isNumber_1 (by decide) (fun c1 => ?_) (fun c1 => ?_)
  · have c1 := c1
    refine lv_iconst (v := 0) hx hb d_x_isNumber_14 (by decide) ?_
    exact ro_zret FX (by rw [f_x_isNumber, if_pos c1] <;> rfl) d_x_isNumber_15
  · have c1 := c1
    refine lv_iload_n hx hb d_x_isNumber_4 rfl (lv_at hl 0 rfl) ?_
    refine lv_bipush (v := 40) hx hb d_x_isNumber_5 (by decide) ?_
    refine lv_icmp_ge (tgt := 14) hx hb d_x_isNumber_7 (by decide) (fun c2 => ?_) (fun c2 => ?_)
    · have c2 := c2
      refine lv_iconst (v := 0) hx hb d_x_isNumber_14 (by decide) ?_
      exact ro_zret FX (by rw [f_x_isNumber, if_neg c1, if_pos c2] <;> rfl) d_x_isNumber_15
    · have c2 := c2
      refine lv_iconst (v := 1) hx hb d_x_isNumber_10 (by decide) ?_
      refine lv_goto (tgt := 15) hx hb d_x_isNumber_11 (by decide) ?_
      exact ro_zret FX (by rw [f_x_isNumber, if_neg c1, if_neg c2] <;> rfl) d_x_isNumber_15
theorem d_x_only_0 : decode b_x_only 0 = .ok (.iload_n 0, 1) := by decide +kernel
theorem d_x_only_1 : decode b_x_only 1 = .ok (.invokestatic 130, 3) := by decide +kernel
theorem d_x_only_4 : decode b_x_only 4 = .ok (.ifCond .eq 9, 3) := by decide +kernel
theorem d_x_only_7 : decode b_x_only 7 = .ok (.lconst 1, 1) := by decide +kernel
theorem d_x_only_8 : decode b_x_only 8 = .ok (.iload_n 0, 1) := by decide +kernel
theorem d_x_only_9 : decode b_x_only 9 = .ok (.lshl, 1) := by decide +kernel
theorem d_x_only_10 : decode b_x_only 10 = .ok (.goto 4, 3) := by decide +kernel
theorem d_x_only_13 : decode b_x_only 13 = .ok (.lconst 0, 1) := by decide +kernel
theorem d_x_only_14 : decode b_x_only 14 = .ok (.lreturn, 1) := by decide +kernel
def f_x_only (nu : Int32) : Int64 := if (f_x_isNumber nu) = true then
    (1 <<< (nu.toInt64 &&& 63))
  else
    (0)
set_option maxHeartbeats 4000000 in
set_option maxRecDepth 100000 in
theorem c_x_only (l : Launch) (D : va_G) (cA : Nat → ClassId) (nu : Int32) : Met l y_x_only (.code y_x_only b_x_only 1 (some .long) :: tb) (rmd 1) (Pro D cA [.int nu] (fun _ => True)) (Qro (.long (f_x_only nu))) 0 0 nof := by
  refine ro_in (by decide) (Nat.le_of_ble_eq_true rfl) (fun p e s m below meth c ls FX hnm hK hP hl => ?_)
  have hl : lv_has ls 1 [(0, .int nu)] := hl
  generalize ([.int nu] : List Value).toArray = args at FX ⊢
  obtain ⟨hx, hb, hml, hown, hts, hr, hlk⟩ := id FX
  refine lv_iload_n hx hb d_x_only_0 rfl (lv_at hl 0 rfl) ?_
  refine ro_S (v := .int (bz (f_x_isNumber nu))) (As := [.int nu]) (rest := []) FX hK (c_x_isNumber l D cA nu) trivial kc_x_isNumber km_x_130 ki_x ks_x_isNumber rfl ok_x_isNumber ⟨Nat.le_of_ble_eq_true rfl, Nat.le_of_ble_eq_true rfl⟩ ⟨Nat.zero_le _, Nat.zero_le _⟩ hl.1 rfl (Nat.le_of_ble_eq_true rfl) d_x_only_1 ?_
  refine lv_if_eq (tgt := 13) hx hb d_x_only_4 (by decide) (fun c1 => ?_) (fun c1 => ?_)
  · have c1 := bz_f c1
    refine lv_lconst (v := 0) hx hb d_x_only_13 (by decide) ?_
    exact ro_lret FX (by rw [f_x_only, if_neg c1]) d_x_only_14
  · have c1 := bz_t c1
    refine lv_lconst (v := 1) hx hb d_x_only_7 (by decide) ?_
    refine lv_iload_n hx hb d_x_only_8 rfl (lv_at hl 0 rfl) ?_
    refine lv_lshl (v := 1 <<< (nu.toInt64 &&& 63)) hx hb d_x_only_9 rfl ?_
    refine lv_goto (tgt := 14) hx hb d_x_only_10 (by decide) ?_
    exact ro_lret FX (by rw [f_x_only, if_pos c1]) d_x_only_14
theorem d_x_contains_0 : decode b_x_contains 0 = .ok (.iload_n 2, 1) := by decide +kernel
theorem d_x_contains_1 : decode b_x_contains 1 = .ok (.invokestatic 130, 3) := by decide +kernel
theorem d_x_contains_4 : decode b_x_contains 4 = .ok (.ifCond .eq 17, 3) := by decide +kernel
theorem d_x_contains_7 : decode b_x_contains 7 = .ok (.lload_n 0, 1) := by decide +kernel
theorem d_x_contains_8 : decode b_x_contains 8 = .ok (.iload_n 2, 1) := by decide +kernel
theorem d_x_contains_9 : decode b_x_contains 9 = .ok (.lushr, 1) := by decide +kernel
theorem d_x_contains_10 : decode b_x_contains 10 = .ok (.lconst 1, 1) := by decide +kernel
theorem d_x_contains_11 : decode b_x_contains 11 = .ok (.land, 1) := by decide +kernel
theorem d_x_contains_12 : decode b_x_contains 12 = .ok (.lconst 0, 1) := by decide +kernel
theorem d_x_contains_13 : decode b_x_contains 13 = .ok (.lcmp, 1) := by decide +kernel
theorem d_x_contains_14 : decode b_x_contains 14 = .ok (.ifCond .eq 7, 3) := by decide +kernel
theorem d_x_contains_17 : decode b_x_contains 17 = .ok (.iconst 1, 1) := by decide +kernel
theorem d_x_contains_18 : decode b_x_contains 18 = .ok (.goto 4, 3) := by decide +kernel
theorem d_x_contains_21 : decode b_x_contains 21 = .ok (.iconst 0, 1) := by decide +kernel
theorem d_x_contains_22 : decode b_x_contains 22 = .ok (.ireturn, 1) := by decide +kernel
def f_x_contains (zs : Int64) (nu : Int32) : Bool := if (f_x_isNumber nu) = true then
    (if (((zs.toUInt64 >>> (nu.toInt64.toUInt64 &&& Int64.toUInt64 63)).toInt64) &&& 1) = 0 then
      (false)
    else
      (true))
  else
    (false)
set_option maxHeartbeats 4000000 in
set_option maxRecDepth 100000 in
theorem c_x_contains (l : Launch) (D : va_G) (cA : Nat → ClassId) (zs : Int64) (nu : Int32) : Met l y_x_contains (.code y_x_contains b_x_contains 3 (some .boolean) :: tb) (rmd 1) (Pro D cA [.long zs, .int nu] (fun _ => True)) (Qro (.int (bz (f_x_contains zs nu)))) 0 0 nof := by
  refine ro_in (by decide) (Nat.le_of_ble_eq_true rfl) (fun p e s m below meth c ls FX hnm hK hP hl => ?_)
  have hl : lv_has ls 3 [(0, .long zs), (2, .int nu)] := hl
  generalize ([.long zs, .int nu] : List Value).toArray = args at FX ⊢
  obtain ⟨hx, hb, hml, hown, hts, hr, hlk⟩ := id FX
  refine lv_iload_n hx hb d_x_contains_0 rfl (lv_at hl 1 rfl) ?_
  refine ro_S (v := .int (bz (f_x_isNumber nu))) (As := [.int nu]) (rest := []) FX hK (c_x_isNumber l D cA nu) trivial kc_x_isNumber km_x_130 ki_x ks_x_isNumber rfl ok_x_isNumber ⟨Nat.le_of_ble_eq_true rfl, Nat.le_of_ble_eq_true rfl⟩ ⟨Nat.zero_le _, Nat.zero_le _⟩ hl.1 rfl (Nat.le_of_ble_eq_true rfl) d_x_contains_1 ?_
  refine lv_if_eq (tgt := 21) hx hb d_x_contains_4 (by decide) (fun c1 => ?_) (fun c1 => ?_)
  · have c1 := bz_f c1
    refine lv_iconst (v := 0) hx hb d_x_contains_21 (by decide) ?_
    exact ro_zret FX (by rw [f_x_contains, if_neg c1] <;> rfl) d_x_contains_22
  · have c1 := bz_t c1
    refine lv_lload_n hx hb d_x_contains_7 rfl (lv_at hl 0 rfl) ?_
    refine lv_iload_n hx hb d_x_contains_8 rfl (lv_at hl 1 rfl) ?_
    refine lv_lushr (v := (zs.toUInt64 >>> (nu.toInt64.toUInt64 &&& Int64.toUInt64 63)).toInt64) hx hb d_x_contains_9 rfl ?_
    refine lv_lconst (v := 1) hx hb d_x_contains_10 (by decide) ?_
    refine lv_land hx hb d_x_contains_11 ?_
    refine lv_lconst (v := 0) hx hb d_x_contains_12 (by decide) ?_
    refine W.lcmp hx hb d_x_contains_13 ?_
    refine lv_if_eq (tgt := 21) hx hb d_x_contains_14 (by decide) (fun c2 => ?_) (fun c2 => ?_)
    · have c2 := cp_eq c2
      refine lv_iconst (v := 0) hx hb d_x_contains_21 (by decide) ?_
      exact ro_zret FX (by rw [f_x_contains, if_pos c1, if_pos c2] <;> rfl) d_x_contains_22
    · have c2 := cp_ne c2
      refine lv_iconst (v := 1) hx hb d_x_contains_17 (by decide) ?_
      refine lv_goto (tgt := 22) hx hb d_x_contains_18 (by decide) ?_
      exact ro_zret FX (by rw [f_x_contains, if_pos c1, if_neg c2] <;> rfl) d_x_contains_22
theorem d_x_isFlake_0 : decode b_x_isFlake 0 = .ok (.iload_n 1, 1) := by decide +kernel
theorem d_x_isFlake_1 : decode b_x_isFlake 1 = .ok (.iconst 1, 1) := by decide +kernel
theorem d_x_isFlake_2 : decode b_x_isFlake 2 = .ok (.if_icmp .lt 22, 3) := by decide +kernel
theorem d_x_isFlake_5 : decode b_x_isFlake 5 = .ok (.iload_n 1, 1) := by decide +kernel
theorem d_x_isFlake_6 : decode b_x_isFlake 6 = .ok (.bipush 9, 2) := by decide +kernel
theorem d_x_isFlake_8 : decode b_x_isFlake 8 = .ok (.if_icmp .gt 16, 3) := by decide +kernel
theorem d_x_isFlake_11 : decode b_x_isFlake 11 = .ok (.iload_n 0, 1) := by decide +kernel
theorem d_x_isFlake_12 : decode b_x_isFlake 12 = .ok (.ifCond .lt 12, 3) := by decide +kernel
theorem d_x_isFlake_15 : decode b_x_isFlake 15 = .ok (.iload_n 0, 1) := by decide +kernel
theorem d_x_isFlake_16 : decode b_x_isFlake 16 = .ok (.iload_n 1, 1) := by decide +kernel
theorem d_x_isFlake_17 : decode b_x_isFlake 17 = .ok (.if_icmp .ge 7, 3) := by decide +kernel
theorem d_x_isFlake_20 : decode b_x_isFlake 20 = .ok (.iconst 1, 1) := by decide +kernel
theorem d_x_isFlake_21 : decode b_x_isFlake 21 = .ok (.goto 4, 3) := by decide +kernel
theorem d_x_isFlake_24 : decode b_x_isFlake 24 = .ok (.iconst 0, 1) := by decide +kernel
theorem d_x_isFlake_25 : decode b_x_isFlake 25 = .ok (.ireturn, 1) := by decide +kernel
def f_x_isFlake (pp : Int32) (qq : Int32) : Bool := if qq < 1 then
    (false)
  else
    (if 9 < qq then
      (false)
    else
      (if pp < 0 then
        (false)
      else
        (if qq ≤ pp then
          (false)
        else
          (true))))
set_option maxHeartbeats 4000000 in
set_option maxRecDepth 100000 in
theorem c_x_isFlake (l : Launch) (D : va_G) (cA : Nat → ClassId) (pp : Int32) (qq : Int32) : Met l y_x_isFlake (.code y_x_isFlake b_x_isFlake 2 (some .boolean) :: tb) (rmd 0) (Pro D cA [.int pp, .int qq] (fun _ => True)) (Qro (.int (bz (f_x_isFlake pp qq)))) 0 0 nof := by
  refine ro_in (by decide) (Nat.le_of_ble_eq_true rfl) (fun p e s m below meth c ls FX hnm hK hP hl => ?_)
  have hl : lv_has ls 2 [(0, .int pp), (1, .int qq)] := hl
  generalize ([.int pp, .int qq] : List Value).toArray = args at FX ⊢
  obtain ⟨hx, hb, hml, hown, hts, hr, hlk⟩ := id FX
  refine lv_iload_n hx hb d_x_isFlake_0 rfl (lv_at hl 1 rfl) ?_
  refine lv_iconst (v := 1) hx hb d_x_isFlake_1 (by decide) ?_
  refine lv_icmp_lt (tgt := 24) hx hb d_x_isFlake_2 (by decide) (fun c1 => ?_) (fun c1 => ?_)
  · have c1 := c1
    refine lv_iconst (v := 0) hx hb d_x_isFlake_24 (by decide) ?_
    exact ro_zret FX (by rw [f_x_isFlake, if_pos c1] <;> rfl) d_x_isFlake_25
  · have c1 := c1
    refine lv_iload_n hx hb d_x_isFlake_5 rfl (lv_at hl 1 rfl) ?_
    refine lv_bipush (v := 9) hx hb d_x_isFlake_6 (by decide) ?_
    refine lv_icmp_gt (tgt := 24) hx hb d_x_isFlake_8 (by decide) (fun c2 => ?_) (fun c2 => ?_)
    · have c2 := c2
      refine lv_iconst (v := 0) hx hb d_x_isFlake_24 (by decide) ?_
      exact ro_zret FX (by rw [f_x_isFlake, if_neg c1, if_pos c2] <;> rfl) d_x_isFlake_25
    · have c2 := c2
      refine lv_iload_n hx hb d_x_isFlake_11 rfl (lv_at hl 0 rfl) ?_
      refine lv_if_lt (tgt := 24) hx hb d_x_isFlake_12 (by decide) (fun c3 => ?_) (fun c3 => ?_)
      · have c3 := c3
        refine lv_iconst (v := 0) hx hb d_x_isFlake_24 (by decide) ?_
        exact ro_zret FX (by rw [f_x_isFlake, if_neg c1, if_neg c2, if_pos c3] <;> rfl) d_x_isFlake_25
      · have c3 := c3
        refine lv_iload_n hx hb d_x_isFlake_15 rfl (lv_at hl 0 rfl) ?_
        refine lv_iload_n hx hb d_x_isFlake_16 rfl (lv_at hl 1 rfl) ?_
        refine lv_icmp_ge (tgt := 24) hx hb d_x_isFlake_17 (by decide) (fun c4 => ?_) (fun c4 => ?_)
        · have c4 := c4
          refine lv_iconst (v := 0) hx hb d_x_isFlake_24 (by decide) ?_
          exact ro_zret FX (by rw [f_x_isFlake, if_neg c1, if_neg c2, if_neg c3, if_pos c4] <;> rfl) d_x_isFlake_25
        · have c4 := c4
          refine lv_iconst (v := 1) hx hb d_x_isFlake_20 (by decide) ?_
          refine lv_goto (tgt := 25) hx hb d_x_isFlake_21 (by decide) ?_
          exact ro_zret FX (by rw [f_x_isFlake, if_neg c1, if_neg c2, if_neg c3, if_neg c4] <;> rfl) d_x_isFlake_25
theorem d_x_isSure_0 : decode b_x_isSure 0 = .ok (.iload_n 0, 1) := by decide +kernel
theorem d_x_isSure_1 : decode b_x_isSure 1 = .ok (.bipush 51, 2) := by decide +kernel
theorem d_x_isSure_3 : decode b_x_isSure 3 = .ok (.if_icmp .lt 13, 3) := by decide +kernel
theorem d_x_isSure_6 : decode b_x_isSure 6 = .ok (.iload_n 0, 1) := by decide +kernel
theorem d_x_isSure_7 : decode b_x_isSure 7 = .ok (.bipush 100, 2) := by decide +kernel
theorem d_x_isSure_9 : decode b_x_isSure 9 = .ok (.if_icmp .gt 7, 3) := by decide +kernel
theorem d_x_isSure_12 : decode b_x_isSure 12 = .ok (.iconst 1, 1) := by decide +kernel
theorem d_x_isSure_13 : decode b_x_isSure 13 = .ok (.goto 4, 3) := by decide +kernel
theorem d_x_isSure_16 : decode b_x_isSure 16 = .ok (.iconst 0, 1) := by decide +kernel
theorem d_x_isSure_17 : decode b_x_isSure 17 = .ok (.ireturn, 1) := by decide +kernel
def f_x_isSure (nu : Int32) : Bool := if nu < 51 then
    (false)
  else
    (if 100 < nu then
      (false)
    else
      (true))
set_option maxHeartbeats 4000000 in
set_option maxRecDepth 100000 in
theorem c_x_isSure (l : Launch) (D : va_G) (cA : Nat → ClassId) (nu : Int32) : Met l y_x_isSure (.code y_x_isSure b_x_isSure 1 (some .boolean) :: tb) (rmd 0) (Pro D cA [.int nu] (fun _ => True)) (Qro (.int (bz (f_x_isSure nu)))) 0 0 nof := by
  refine ro_in (by decide) (Nat.le_of_ble_eq_true rfl) (fun p e s m below meth c ls FX hnm hK hP hl => ?_)
  have hl : lv_has ls 1 [(0, .int nu)] := hl
  generalize ([.int nu] : List Value).toArray = args at FX ⊢
  obtain ⟨hx, hb, hml, hown, hts, hr, hlk⟩ := id FX
  refine lv_iload_n hx hb d_x_isSure_0 rfl (lv_at hl 0 rfl) ?_
  refine lv_bipush (v := 51) hx hb d_x_isSure_1 (by decide) ?_
  refine lv_icmp_lt (tgt := 16) hx hb d_x_isSure_3 (by decide) (fun c1 => ?_) (fun c1 => ?_)
  · have c1 := c1
    refine lv_iconst (v := 0) hx hb d_x_isSure_16 (by decide) ?_
    exact ro_zret FX (by rw [f_x_isSure, if_pos c1] <;> rfl) d_x_isSure_17
  · have c1 := c1
    refine lv_iload_n hx hb d_x_isSure_6 rfl (lv_at hl 0 rfl) ?_
    refine lv_bipush (v := 100) hx hb d_x_isSure_7 (by decide) ?_
    refine lv_icmp_gt (tgt := 16) hx hb d_x_isSure_9 (by decide) (fun c2 => ?_) (fun c2 => ?_)
    · have c2 := c2
      refine lv_iconst (v := 0) hx hb d_x_isSure_16 (by decide) ?_
      exact ro_zret FX (by rw [f_x_isSure, if_neg c1, if_pos c2] <;> rfl) d_x_isSure_17
    · have c2 := c2
      refine lv_iconst (v := 1) hx hb d_x_isSure_12 (by decide) ?_
      refine lv_goto (tgt := 17) hx hb d_x_isSure_13 (by decide) ?_
      exact ro_zret FX (by rw [f_x_isSure, if_neg c1, if_neg c2] <;> rfl) d_x_isSure_17
/-! the class's own world: the object, its array of targets, the graph and its two arrays, and of each target the object and its weights. The addresses are ad 0 .. ad (4 + 2 nt). -/
abbrev GS : Type := (Nat → Int64) × (Nat → Int64) × Int32 × Int64 × Int64
abbrev TS : Type := Int64 × Int64 × Bool × Int32 × Int32 × Int32 × Int32 × Int32 × Int32 × (Nat → Int64)
def tvf (ad : Nat → Nat) (nt : Nat) : Nat → Option Nat := fun k => if k < nt then some (ad (5 + 2 * k)) else none
abbrev cX (cA : Nat → ClassId) (ad : Nat → Nat) (nt : Nat) (G : GS) : va_W := [(ad 0, .inr (0, [.ref (ad 2), .ref (ad 1), .int (nI nt)])), (ad 1, .inl (cA 1, 4, .inr (.inr (.inr (.inr (tvf ad nt)))))), (ad 2, .inr (1, [.ref (ad 3), .ref (ad 4), .int G.2.2.1, .long G.2.2.2.1, .long G.2.2.2.2])), (ad 3, .inl (cA 0, 40, .inr (.inl G.1))), (ad 4, .inl (cA 0, 40, .inr (.inl G.2.1)))]
abbrev cT (cA : Nat → ClassId) (ad : Nat → Nat) (j : Nat) (T : TS) : va_W := [(ad (5 + 2 * j), .inr (2, [.ref (ad 2), .ref (ad (6 + 2 * j)), .long T.1, .long T.2.1, .int (bz T.2.2.1), .int T.2.2.2.1, .int T.2.2.2.2.1, .int T.2.2.2.2.2.1, .int T.2.2.2.2.2.2.1, .int T.2.2.2.2.2.2.2.1, .int T.2.2.2.2.2.2.2.2.1])), (ad (6 + 2 * j), .inl (cA 0, 40, .inr (.inl T.2.2.2.2.2.2.2.2.2)))]
def WX (D : va_G) (cA : Nat → ClassId) (ad : Nat → Nat) (nt : Nat) (G : GS) (TT : Nat → TS) (H : Heap) : Prop := va_P D classes (cX cA ad nt G) H ∧ ∀ j, j < nt → va_P D classes (cT cA ad j (TT j)) H
/-- the addresses are apart -/
def adX (ad : Nat → Nat) (nt : Nat) : Prop := ∀ i j, i < 5 + 2 * nt → j < 5 + 2 * nt → ad i = ad j → i = j
/-- whose they are -/
def ox (ad : Nat → Nat) (nt : Nat) : Nat → Prop := fun q => ∃ i, i < 5 + 2 * nt ∧ q = ad i
def om {α : Type} (o : Option Nat) (a : α) (b : Nat → α) : α := match o with
  | none => a
  | some j => b j
theorem om_none {α : Type} {o : Option Nat} {a : α} {b : Nat → α} (h : o = none) : om o a b = a := by rw [h]; rfl
theorem om_some {α : Type} {o : Option Nat} {a : α} {b : Nat → α} {j : Nat} (h : o = some j) : om o a b = b j := by rw [h]; rfl
/-- where each cell of a list of addresses stands -/
theorem d_of {ws : va_W} (f : Nat → Nat) (h1 : ∀ (i : Nat) (q : Nat × va_E), ws[i]? = some q → ∀ (j : Nat) (r : Nat × va_E), ws[j]? = some r → q.1 = r.1 → i = j) : va_D (fun _ => True) ws := ⟨fun i j p q hp hq e => h1 i p hp j q hq e, fun _ _ _ => trivial⟩
theorem lst_d {ad : Nat → Nat} {n : Nat} (hinj : ∀ i j, i < n → j < n → ad i = ad j → i = j) {ws : va_W} (is : List Nat) (hl : ws.map Prod.fst = is.map ad) (hn : va_nd is = true) (hb : ∀ i ∈ is, i < n) : va_D (fun _ => True) ws := by
  refine ⟨fun i j p q hp hq e => ?_, fun _ _ _ => trivial⟩
  have hi : (ws.map Prod.fst)[i]? = some p.1 := by rw [List.getElem?_map, hp]; rfl
  have hj : (ws.map Prod.fst)[j]? = some q.1 := by rw [List.getElem?_map, hq]; rfl
  rw [hl, List.getElem?_map] at hi hj
  cases hi1 : is[i]? with
  | none => rw [hi1] at hi; cases hi
  | some a =>
    cases hj1 : is[j]? with
    | none => rw [hj1] at hj; cases hj
    | some b' =>
      rw [hi1] at hi; rw [hj1] at hj
      have ea : ad a = p.1 := Option.some.inj hi
      have eb : ad b' = q.1 := Option.some.inj hj
      have hab : a = b' := hinj a b' (hb a (List.mem_of_getElem? hi1)) (hb b' (List.mem_of_getElem? hj1)) (by rw [ea, eb, e])
      subst hab
      exact va_nd_inj is hn i j a hi1 hj1
theorem aw_iff {ws : va_W} {q : Nat} : aw ws q ↔ q ∈ ws.map Prod.fst := by
  constructor
  · rintro ⟨k, e, h⟩
    exact List.mem_map.mpr ⟨(q, e), List.mem_of_getElem? h, rfl⟩
  · intro h
    obtain ⟨⟨a, e⟩, h1, h2⟩ := List.mem_map.mp h
    obtain ⟨k, hk⟩ := List.getElem?_of_mem h1
    exact ⟨k, e, by rw [hk]; cases h2; rfl⟩
theorem S_mono {A B : Nat → Prop} {H0 H : Heap} {locs : List Loc} (h : va_S A H0 H locs) (hAB : ∀ q, A q → B q) : va_S B H0 H locs := ⟨h.1, fun q h1 h2 => h.2.1 q h1 (fun z => h2 (hAB q z)), fun l hl => hAB _ (h.2.2 l hl)⟩
theorem ox_7 {cA : Nat → ClassId} {ad : Nat → Nat} {nt j : Nat} (hj : j < nt) {T : TS} {G : GS} : ∀ q, aw (cT cA ad j T ++ cX cA ad nt G) q → ox ad nt q := by
  intro q h
  rw [aw_iff] at h
  simp only [List.map_append, List.map_cons, List.map_nil, List.cons_append, List.nil_append, List.mem_cons, List.not_mem_nil, or_false] at h
  rcases h with h | h | h | h | h | h | h
  · exact ⟨5 + 2 * j, by omega, h⟩
  · exact ⟨6 + 2 * j, by omega, h⟩
  · exact ⟨0, by omega, h⟩
  · exact ⟨1, by omega, h⟩
  · exact ⟨2, by omega, h⟩
  · exact ⟨3, by omega, h⟩
  · exact ⟨4, by omega, h⟩
theorem ox_5 {cA : Nat → ClassId} {ad : Nat → Nat} {nt : Nat} {G : GS} : ∀ q, aw (cX cA ad nt G) q → ox ad nt q := by
  intro q h
  rw [aw_iff] at h
  simp only [List.map_cons, List.map_nil, List.mem_cons, List.not_mem_nil, or_false] at h
  rcases h with h | h | h | h | h
  · exact ⟨0, by omega, h⟩
  · exact ⟨1, by omega, h⟩
  · exact ⟨2, by omega, h⟩
  · exact ⟨3, by omega, h⟩
  · exact ⟨4, by omega, h⟩
theorem wx_d7 {cA : Nat → ClassId} {ad : Nat → Nat} {nt j : Nat} (hinj : adX ad nt) (hj : j < nt) {T : TS} {G : GS} : va_D (fun _ => True) (cT cA ad j T ++ cX cA ad nt G) := by
  refine ⟨fun a b' p q hp hq e => ?_, fun _ _ _ => trivial⟩
  have key : ∀ (k : Nat) (r : Nat × va_E), (cT cA ad j T ++ cX cA ad nt G)[k]? = some r → r.1 = ad (if k < 2 then 5 + 2 * j + k else k - 2) ∧ k < 7 := by
    intro k r hr
    match k, hr with
    | 0, hr => cases hr; exact ⟨rfl, by omega⟩
    | 1, hr => cases hr; exact ⟨by simp; congr 1; omega, by omega⟩
    | 2, hr => cases hr; exact ⟨rfl, by omega⟩
    | 3, hr => cases hr; exact ⟨rfl, by omega⟩
    | 4, hr => cases hr; exact ⟨rfl, by omega⟩
    | 5, hr => cases hr; exact ⟨rfl, by omega⟩
    | 6, hr => cases hr; exact ⟨rfl, by omega⟩
    | k + 7, hr => simp at hr
  obtain ⟨e1, h1⟩ := key a p hp
  obtain ⟨e2, h2⟩ := key b' q hq
  rw [e1, e2] at e
  have h3 := hinj _ _ (by split <;> omega) (by split <;> omega) e
  split at h3 <;> split at h3 <;> omega
theorem wx_d5 {cA : Nat → ClassId} {ad : Nat → Nat} {nt : Nat} (hinj : adX ad nt) {G : GS} : va_D (fun _ => True) (cX cA ad nt G) := lst_d hinj [0, 1, 2, 3, 4] rfl rfl (fun i hi => by simp at hi; omega)
/-- behind a method that changed a target's cells, or the graph's -/
theorem wx_put7 {D : va_G} {cA : Nat → ClassId} {ad : Nat → Nat} {nt j : Nat} {G G' : GS} {TT : Nat → TS} {T' : TS} {H0 H : Heap} {locs : List Loc} {A : Nat → Prop} (hW : WX D cA ad nt G TT H0) (hinj : adX ad nt) (hj : j < nt) (hA : A = aw (cT cA ad j (TT j) ++ cX cA ad nt G)) (hS : va_S A H0 H locs) (hP : va_P D classes (cT cA ad j T' ++ cX cA ad nt G') H) : WX D cA ad nt G' (va_up TT j T') H := by
  subst hA
  refine ⟨hP.sub [2, 3, 4, 5, 6] rfl, fun k hk => ?_⟩
  by_cases hkj : k = j
  · subst hkj
    rw [va_up_self]
    exact hP.sub [0, 1] rfl
  · rw [va_up_ne _ _ hkj]
    refine (hW.2 k hk).kept (fun a q hq => ?_)
    have hq0 := (hW.2 k hk a q hq).lt
    refine hS.2.1 q.1 hq0 (fun h => ?_)
    have e : ∃ i, (i = 5 + 2 * k ∨ i = 6 + 2 * k) ∧ q.1 = ad i := by
      match a, hq with
      | 0, hq => cases hq; exact ⟨_, Or.inl rfl, rfl⟩
      | 1, hq => cases hq; exact ⟨_, Or.inr rfl, rfl⟩
      | a + 2, hq => simp at hq
    obtain ⟨i, hi, e⟩ := e
    rw [aw_iff] at h
    simp only [List.map_append, List.map_cons, List.map_nil, List.cons_append, List.nil_append, List.mem_cons, List.not_mem_nil, or_false] at h
    rw [e] at h
    rcases h with h | h | h | h | h | h | h <;> have h2 := hinj _ _ (by omega) (by omega) h <;> omega
theorem wx_put5 {D : va_G} {cA : Nat → ClassId} {ad : Nat → Nat} {nt : Nat} {G G' : GS} {TT : Nat → TS} {H0 H : Heap} {locs : List Loc} {A : Nat → Prop} (hW : WX D cA ad nt G TT H0) (hinj : adX ad nt) (hA : A = aw (cX cA ad nt G)) (hS : va_S A H0 H locs) (hP : va_P D classes (cX cA ad nt G') H) : WX D cA ad nt G' TT H := by
  subst hA
  refine ⟨hP, fun k hk => ?_⟩
  refine (hW.2 k hk).kept (fun a q hq => ?_)
  have hq0 := (hW.2 k hk a q hq).lt
  refine hS.2.1 q.1 hq0 (fun h => ?_)
  have e : ∃ i, (i = 5 + 2 * k ∨ i = 6 + 2 * k) ∧ q.1 = ad i := by
    match a, hq with
    | 0, hq => cases hq; exact ⟨_, Or.inl rfl, rfl⟩
    | 1, hq => cases hq; exact ⟨_, Or.inr rfl, rfl⟩
    | a + 2, hq => simp at hq
  obtain ⟨i, hi, e⟩ := e
  rw [aw_iff] at h
  simp only [List.map_cons, List.map_nil, List.mem_cons, List.not_mem_nil, or_false] at h
  rw [e] at h
  rcases h with h | h | h | h | h <;> have h2 := hinj _ _ (by omega) (by omega) h <;> omega
theorem num_nI {x : Int32} (h : f_x_isNumber x = true) : ∃ j : Nat, j < 40 ∧ x = nI j := by
  unfold f_x_isNumber at h
  by_cases h0 : x < 0
  · rw [if_pos h0] at h; cases h
  · rw [if_neg h0] at h
    by_cases h1 : (40 : Int32) ≤ x
    · rw [if_pos h1] at h; cases h
    · exact in_nI h0 h1
theorem vin2 {x : Int32} (h0 : ¬ x < 0) (h1 : ¬ (40 : Int32) ≤ x) : vp_in x 40 := by
  obtain ⟨j, hj, e⟩ := in_nI h0 h1
  exact vin e hj (by decide)
theorem in_nI2 {x : Int32} (h0 : ¬ x < 0) (h1 : x < 40) : ∃ j : Nat, j < 40 ∧ x = nI j := in_nI h0 (Int32.not_le.mpr h1)
theorem vin3 {x : Int32} (h0 : ¬ x < 0) (h1 : x < 4) : vp_in x 4 := by
  obtain ⟨j, hj, e⟩ := nI_of h0
  have h2 : j < 4 := k_lt e (rfl : (4 : Int32) = nI 4) (Int32.not_le.mpr h1) hj
  exact vin e h2 (by decide)
theorem tvf_at {ad : Nat → Nat} {nt : Nat} {nu : Int32} (hnt : nt ≤ 4) (h0 : ¬ nu < 0) (h1 : ¬ nI nt ≤ nu) : tvf ad nt nu.toNatClampNeg = some (ad (5 + 2 * nu.toNatClampNeg)) := by
  obtain ⟨j, hj, e⟩ := nI_of h0
  have h2 : j < nt := k_lt e rfl h1 hj
  subst e
  rw [nI_clamp hj]
  unfold tvf
  rw [if_pos h2]
end
section
theorem d_g_init_0 : decode b_g_init 0 = .ok (.aload_n 0, 1) := by decide +kernel
theorem d_g_init_1 : decode b_g_init 1 = .ok (.invokespecial 3, 3) := by decide +kernel
theorem d_g_init_4 : decode b_g_init 4 = .ok (.aload_n 0, 1) := by decide +kernel
theorem d_g_init_5 : decode b_g_init 5 = .ok (.bipush 40, 2) := by decide +kernel
theorem d_g_init_7 : decode b_g_init 7 = .ok (.newarray .long, 2) := by decide +kernel
theorem d_g_init_9 : decode b_g_init 9 = .ok (.putfield 9, 3) := by decide +kernel
theorem d_g_init_12 : decode b_g_init 12 = .ok (.aload_n 0, 1) := by decide +kernel
theorem d_g_init_13 : decode b_g_init 13 = .ok (.bipush 40, 2) := by decide +kernel
theorem d_g_init_15 : decode b_g_init 15 = .ok (.newarray .long, 2) := by decide +kernel
theorem d_g_init_17 : decode b_g_init 17 = .ok (.putfield 15, 3) := by decide +kernel
theorem d_g_init_20 : decode b_g_init 20 = .ok (.aload_n 0, 1) := by decide +kernel
theorem d_g_init_21 : decode b_g_init 21 = .ok (.iconst 0, 1) := by decide +kernel
theorem d_g_init_22 : decode b_g_init 22 = .ok (.putfield 18, 3) := by decide +kernel
theorem d_g_init_25 : decode b_g_init 25 = .ok (.aload_n 0, 1) := by decide +kernel
theorem d_g_init_26 : decode b_g_init 26 = .ok (.lconst 0, 1) := by decide +kernel
theorem d_g_init_27 : decode b_g_init 27 = .ok (.putfield 22, 3) := by decide +kernel
theorem d_g_init_30 : decode b_g_init 30 = .ok (.aload_n 0, 1) := by decide +kernel
theorem d_g_init_31 : decode b_g_init 31 = .ok (.lconst 0, 1) := by decide +kernel
theorem d_g_init_32 : decode b_g_init 32 = .ok (.putfield 26, 3) := by decide +kernel
theorem d_g_init_35 : decode b_g_init 35 = .ok (.return_, 1) := by decide +kernel
set_option maxHeartbeats 4000000 in
set_option maxRecDepth 100000 in
theorem c_g_init (l : Launch) (D : va_G) (cA : Nat → ClassId) (g : Nat) (sz : Nat) : Met l y_g_init (.code y_g_init b_g_init 1 none :: tb) (rma 1 2 80) (Pro D cA [.ref g] (fun H0 => H0.size = sz ∧ va_P D classes [(g, .inr (1, [.null, .null, .int 0, .long 0, .long 0]))] H0 ∧ va_D (fun _ => True) [(g, .inr (1, [.null, .null, .int 0, .long 0, .long 0]))])) (Qmu (va_A [(g, .inr (1, [.null, .null, .int 0, .long 0, .long 0]))] sz) (fun v0 H0 => v0 = none ∧ ∃ n0 n1 : Nat, va_P D classes [(g, .inr (1, [.ref n0, .ref n1, .int 0, .long 0, .long 0])), (n0, .inl (cA 0, 40, .inr (.inl (fun _ => 0)))), (n1, .inl (cA 0, 40, .inr (.inl (fun _ => 0))))] H0 ∧ va_D (va_A [(g, .inr (1, [.null, .null, .int 0, .long 0, .long 0]))] sz) [(g, .inr (1, [.ref n0, .ref n1, .int 0, .long 0, .long 0])), (n0, .inl (cA 0, 40, .inr (.inl (fun _ => 0)))), (n1, .inl (cA 0, 40, .inr (.inl (fun _ => 0))))])) 2 80 (va_A [(g, .inr (1, [.null, .null, .int 0, .long 0, .long 0]))] sz) := by
  refine ro_in (by decide) (Nat.le_of_ble_eq_true rfl) (fun p e s m below meth c ls FX hnm hK hP hl => ?_)
  have hl : lv_has ls 1 [(0, .ref g)] := hl
  obtain ⟨hsz, hP, hD0⟩ := hP
  subst hsz
  have hP : va_P D classes [(g, .inr (1, [.null, .null, .int 0, .long 0, .long 0]))] s.heap := hP
  have hD := hD0.self (sz := s.heap.size)
  generalize hAe : va_A [(g, .inr (1, [.null, .null, .int 0, .long 0, .long 0]))] s.heap.size = A at hD ⊢
  have hA : ∀ q : Nat, s.heap.size ≤ q → A q := fun q h => by rw [← hAe]; exact Or.inr h
  have hS : va_S A s.heap s.heap [] := va_S.rf
  generalize ([.ref g] : List Value).toArray = args at FX ⊢
  obtain ⟨hx, hb, hml, hown, hts, hr, hlk⟩ := id FX
  have hin : meth.name = "<init>" := hnm
  refine lv_aload_n hx hb d_g_init_0 rfl (lv_at hl 0 rfl) ?_
  refine W.objInit hx hb hown (hts _ km_g_3) (hts _ ks_objInit) (hts _ kc_objInit) rfl (by rw [hml]; exact hl.1) rfl d_g_init_1 (Nat.le_of_ble_eq_true rfl) (Nat.le_of_ble_eq_true rfl) ?_
  refine W.eq (g2 := F0 m 4 ls []) rfl ?_
  refine lv_aload_n hx hb d_g_init_4 rfl (lv_at hl 0 rfl) ?_
  refine lv_bipush (v := 40) hx hb d_g_init_5 (by decide) ?_
  refine va_newa (atype := .long) (ty := .long) (a0 := (40, .inr (.inl (fun _ => 0)))) hx hb (hts _ ka_long) rfl hK.1 hP hD hS hA (fun _ => rfl) (by decide) rfl (by decide) (Nat.le_of_ble_eq_true rfl) (Nat.le_of_ble_eq_true rfl) d_g_init_7 (fun q1 cL H hKK hP hD hS => ?_)
  obtain rfl := arr_same 0 rfl hK hKK (fun _ _ => ra_prim (fun _ h => by cases h))
  have hP : va_P D classes [(g, .inr (1, [.null, .null, .int 0, .long 0, .long 0])), (q1, .inl (cA 0, 40, .inr (.inl (fun _ => 0))))] H := hP
  have hD : va_D A [(g, .inr (1, [.null, .null, .int 0, .long 0, .long 0])), (q1, .inl (cA 0, 40, .inr (.inl (fun _ => 0))))] := hD
  refine va_putF (D := D) (v := .ref q1) (ty := (.array .long)) hx hb hts i_g t_g t_g_ok n_g hown hK.1 hP hD hS 0 rfl rfl 0 (by decide) (hts _ kf_g_9) (fun _ h9 => h9) rfl hin rfl (by decide +kernel) rfl rfl (Nat.le_of_ble_eq_true rfl) d_g_init_9 (fun H locs hP hD hS => ?_)
  have hP : va_P D classes [(g, .inr (1, [.ref q1, .null, .int 0, .long 0, .long 0])), (q1, .inl (cA 0, 40, .inr (.inl (fun _ => 0))))] H := hP
  have hD : va_D A [(g, .inr (1, [.ref q1, .null, .int 0, .long 0, .long 0])), (q1, .inl (cA 0, 40, .inr (.inl (fun _ => 0))))] := hD
  refine lv_aload_n hx hb d_g_init_12 rfl (lv_at hl 0 rfl) ?_
  refine lv_bipush (v := 40) hx hb d_g_init_13 (by decide) ?_
  refine va_newa (atype := .long) (ty := .long) (a0 := (40, .inr (.inl (fun _ => 0)))) hx hb (hts _ ka_long) rfl hK.1 hP hD hS hA (fun _ => rfl) (by decide) rfl (by decide) (Nat.le_of_ble_eq_true rfl) (Nat.le_of_ble_eq_true rfl) d_g_init_15 (fun q2 cL H hKK hP hD hS => ?_)
  obtain rfl := arr_same 0 rfl hK hKK (fun _ _ => ra_prim (fun _ h => by cases h))
  have hP : va_P D classes [(g, .inr (1, [.ref q1, .null, .int 0, .long 0, .long 0])), (q1, .inl (cA 0, 40, .inr (.inl (fun _ => 0)))), (q2, .inl (cA 0, 40, .inr (.inl (fun _ => 0))))] H := hP
  have hD : va_D A [(g, .inr (1, [.ref q1, .null, .int 0, .long 0, .long 0])), (q1, .inl (cA 0, 40, .inr (.inl (fun _ => 0)))), (q2, .inl (cA 0, 40, .inr (.inl (fun _ => 0))))] := hD
  refine va_putF (D := D) (v := .ref q2) (ty := (.array .long)) hx hb hts i_g t_g t_g_ok n_g hown hK.1 hP hD hS 0 rfl rfl 1 (by decide) (hts _ kf_g_15) (fun _ h9 => h9) rfl hin rfl (by decide +kernel) rfl rfl (Nat.le_of_ble_eq_true rfl) d_g_init_17 (fun H locs hP hD hS => ?_)
  have hP : va_P D classes [(g, .inr (1, [.ref q1, .ref q2, .int 0, .long 0, .long 0])), (q1, .inl (cA 0, 40, .inr (.inl (fun _ => 0)))), (q2, .inl (cA 0, 40, .inr (.inl (fun _ => 0))))] H := hP
  have hD : va_D A [(g, .inr (1, [.ref q1, .ref q2, .int 0, .long 0, .long 0])), (q1, .inl (cA 0, 40, .inr (.inl (fun _ => 0)))), (q2, .inl (cA 0, 40, .inr (.inl (fun _ => 0))))] := hD
  refine lv_aload_n hx hb d_g_init_20 rfl (lv_at hl 0 rfl) ?_
  refine lv_iconst (v := 0) hx hb d_g_init_21 (by decide) ?_
  refine va_put (D := D) (v := .int 0) (ty := .int) hx hb hts i_g t_g t_g_ok n_g hown hK.1 hP hD hS 0 rfl rfl 2 (by decide) (hts _ kf_g_18) (fun _ h9 => h9) rfl (by decide +kernel) rfl rfl (Nat.le_of_ble_eq_true rfl) d_g_init_22 (fun H locs hP hD hS => ?_)
  have hP : va_P D classes [(g, .inr (1, [.ref q1, .ref q2, .int 0, .long 0, .long 0])), (q1, .inl (cA 0, 40, .inr (.inl (fun _ => 0)))), (q2, .inl (cA 0, 40, .inr (.inl (fun _ => 0))))] H := hP
  have hD : va_D A [(g, .inr (1, [.ref q1, .ref q2, .int 0, .long 0, .long 0])), (q1, .inl (cA 0, 40, .inr (.inl (fun _ => 0)))), (q2, .inl (cA 0, 40, .inr (.inl (fun _ => 0))))] := hD
  refine lv_aload_n hx hb d_g_init_25 rfl (lv_at hl 0 rfl) ?_
  refine lv_lconst (v := 0) hx hb d_g_init_26 (by decide) ?_
  refine va_put (D := D) (v := .long 0) (ty := .long) hx hb hts i_g t_g t_g_ok n_g hown hK.1 hP hD hS 0 rfl rfl 3 (by decide) (hts _ kf_g_22) (fun _ h9 => h9) rfl (by decide +kernel) rfl rfl (Nat.le_of_ble_eq_true rfl) d_g_init_27 (fun H locs hP hD hS => ?_)
  have hP : va_P D classes [(g, .inr (1, [.ref q1, .ref q2, .int 0, .long 0, .long 0])), (q1, .inl (cA 0, 40, .inr (.inl (fun _ => 0)))), (q2, .inl (cA 0, 40, .inr (.inl (fun _ => 0))))] H := hP
  have hD : va_D A [(g, .inr (1, [.ref q1, .ref q2, .int 0, .long 0, .long 0])), (q1, .inl (cA 0, 40, .inr (.inl (fun _ => 0)))), (q2, .inl (cA 0, 40, .inr (.inl (fun _ => 0))))] := hD
  refine lv_aload_n hx hb d_g_init_30 rfl (lv_at hl 0 rfl) ?_
  refine lv_lconst (v := 0) hx hb d_g_init_31 (by decide) ?_
  refine va_put (D := D) (v := .long 0) (ty := .long) hx hb hts i_g t_g t_g_ok n_g hown hK.1 hP hD hS 0 rfl rfl 4 (by decide) (hts _ kf_g_26) (fun _ h9 => h9) rfl (by decide +kernel) rfl rfl (Nat.le_of_ble_eq_true rfl) d_g_init_32 (fun H locs hP hD hS => ?_)
  have hP : va_P D classes [(g, .inr (1, [.ref q1, .ref q2, .int 0, .long 0, .long 0])), (q1, .inl (cA 0, 40, .inr (.inl (fun _ => 0)))), (q2, .inl (cA 0, 40, .inr (.inl (fun _ => 0))))] H := hP
  have hD : va_D A [(g, .inr (1, [.ref q1, .ref q2, .int 0, .long 0, .long 0])), (q1, .inl (cA 0, 40, .inr (.inl (fun _ => 0)))), (q2, .inl (cA 0, 40, .inr (.inl (fun _ => 0))))] := hD
  have hP : va_P D classes [(g, .inr (1, [.ref q1, .ref q2, .int 0, .long 0, .long 0])), (q1, .inl (cA 0, 40, .inr (.inl (fun _ => 0)))), (q2, .inl (cA 0, 40, .inr (.inl (fun _ => 0))))] H := hP.sub [0, 1, 2] rfl
  have hD : va_D A [(g, .inr (1, [.ref q1, .ref q2, .int 0, .long 0, .long 0])), (q1, .inl (cA 0, 40, .inr (.inl (fun _ => 0)))), (q2, .inl (cA 0, 40, .inr (.inl (fun _ => 0))))] := hD.sub [0, 1, 2] (by decide) rfl
  exact mu_vret FX hS ⟨rfl, q1, q2, hP, hD⟩ d_g_init_35
theorem d_g_holds_0 : decode b_g_holds 0 = .ok (.iload_n 1, 1) := by decide +kernel
theorem d_g_holds_1 : decode b_g_holds 1 = .ok (.invokestatic 29, 3) := by decide +kernel
theorem d_g_holds_4 : decode b_g_holds 4 = .ok (.ifCond .eq 15, 3) := by decide +kernel
theorem d_g_holds_7 : decode b_g_holds 7 = .ok (.iload_n 1, 1) := by decide +kernel
theorem d_g_holds_8 : decode b_g_holds 8 = .ok (.aload_n 0, 1) := by decide +kernel
theorem d_g_holds_9 : decode b_g_holds 9 = .ok (.getfield 18, 3) := by decide +kernel
theorem d_g_holds_12 : decode b_g_holds 12 = .ok (.if_icmp .ge 7, 3) := by decide +kernel
theorem d_g_holds_15 : decode b_g_holds 15 = .ok (.iconst 1, 1) := by decide +kernel
theorem d_g_holds_16 : decode b_g_holds 16 = .ok (.goto 4, 3) := by decide +kernel
theorem d_g_holds_19 : decode b_g_holds 19 = .ok (.iconst 0, 1) := by decide +kernel
theorem d_g_holds_20 : decode b_g_holds 20 = .ok (.ireturn, 1) := by decide +kernel
def f_g_holds (sz : Int32) (nu : Int32) : Bool := if (f_x_isNumber nu) = true then
    (if sz ≤ nu then
      (false)
    else
      (true))
  else
    (false)
set_option maxHeartbeats 4000000 in
set_option maxRecDepth 100000 in
theorem c_g_holds (l : Launch) (D : va_G) (cA : Nat → ClassId) (g pa re : Nat) (ps rs : Nat → Int64) (sz : Int32) (bu sk : Int64) (nu : Int32) : Met l y_g_holds (.code y_g_holds b_g_holds 2 (some .boolean) :: tb) (rmd 1) (Pro D cA [.ref g, .int nu] (va_P D classes [(g, .inr (1, [.ref pa, .ref re, .int sz, .long bu, .long sk])), (pa, .inl (cA 0, 40, .inr (.inl ps))), (re, .inl (cA 0, 40, .inr (.inl rs)))])) (Qro (.int (bz (f_g_holds sz nu)))) 0 0 nof := by
  refine ro_in (by decide) (Nat.le_of_ble_eq_true rfl) (fun p e s m below meth c ls FX hnm hK hP hl => ?_)
  have hl : lv_has ls 2 [(0, .ref g), (1, .int nu)] := hl
  have hP : va_P D classes [(g, .inr (1, [.ref pa, .ref re, .int sz, .long bu, .long sk])), (pa, .inl (cA 0, 40, .inr (.inl ps))), (re, .inl (cA 0, 40, .inr (.inl rs)))] s.heap := hP
  generalize ([.ref g, .int nu] : List Value).toArray = args at FX ⊢
  obtain ⟨hx, hb, hml, hown, hts, hr, hlk⟩ := id FX
  refine lv_iload_n hx hb d_g_holds_0 rfl (lv_at hl 1 rfl) ?_
  refine ro_SN (v := .int (bz (f_x_isNumber nu))) (As := [.int nu]) (rest := []) FX hK (c_x_isNumber l D cA nu) trivial kc_x_isNumber km_g_29 ki_x ks_x_isNumber rfl ok_x_isNumber ⟨Nat.le_of_ble_eq_true rfl, Nat.le_of_ble_eq_true rfl⟩ ⟨Nat.zero_le _, Nat.zero_le _⟩ hl.1 rfl (Nat.le_of_ble_eq_true rfl) d_g_holds_1 ?_
  refine lv_if_eq (tgt := 19) hx hb d_g_holds_4 (by decide) (fun c1 => ?_) (fun c1 => ?_)
  · have c1 := bz_f c1
    refine lv_iconst (v := 0) hx hb d_g_holds_19 (by decide) ?_
    exact ro_zret FX (by rw [f_g_holds, if_neg c1] <;> rfl) d_g_holds_20
  · have c1 := bz_t c1
    refine lv_iload_n hx hb d_g_holds_7 rfl (lv_at hl 1 rfl) ?_
    refine lv_aload_n hx hb d_g_holds_8 rfl (lv_at hl 0 rfl) ?_
    refine ro_get (v := .int sz) FX hK hP 0 2 rfl rfl rfl i_g (by decide) kf_g_18 d_g_holds_9 ?_
    refine lv_icmp_ge (tgt := 19) hx hb d_g_holds_12 (by decide) (fun c2 => ?_) (fun c2 => ?_)
    · have c2 := c2
      refine lv_iconst (v := 0) hx hb d_g_holds_19 (by decide) ?_
      exact ro_zret FX (by rw [f_g_holds, if_pos c1, if_pos c2] <;> rfl) d_g_holds_20
    · have c2 := c2
      refine lv_iconst (v := 1) hx hb d_g_holds_15 (by decide) ?_
      refine lv_goto (tgt := 20) hx hb d_g_holds_16 (by decide) ?_
      exact ro_zret FX (by rw [f_g_holds, if_pos c1, if_neg c2] <;> rfl) d_g_holds_20
theorem holds_nI {sz nu : Int32} (h : f_g_holds sz nu = true) : ∃ j : Nat, j < 40 ∧ nu = nI j := by
  unfold f_g_holds at h
  by_cases h0 : f_x_isNumber nu = true
  · exact num_nI h0
  · rw [if_neg h0] at h; cases h
theorem holds_in {sz nu : Int32} (h : f_g_holds sz nu = true) : vp_in nu 40 := by
  obtain ⟨j, hj, e⟩ := holds_nI h
  exact vin e hj (by decide)
theorem d_g_mayBeParent_0 : decode b_g_mayBeParent 0 = .ok (.iload_n 1, 1) := by decide +kernel
theorem d_g_mayBeParent_1 : decode b_g_mayBeParent 1 = .ok (.iconst (-1), 1) := by decide +kernel
theorem d_g_mayBeParent_2 : decode b_g_mayBeParent 2 = .ok (.if_icmp .eq 11, 3) := by decide +kernel
theorem d_g_mayBeParent_5 : decode b_g_mayBeParent 5 = .ok (.aload_n 0, 1) := by decide +kernel
theorem d_g_mayBeParent_6 : decode b_g_mayBeParent 6 = .ok (.iload_n 1, 1) := by decide +kernel
theorem d_g_mayBeParent_7 : decode b_g_mayBeParent 7 = .ok (.invokevirtual 33, 3) := by decide +kernel
theorem d_g_mayBeParent_10 : decode b_g_mayBeParent 10 = .ok (.ifCond .eq 7, 3) := by decide +kernel
theorem d_g_mayBeParent_13 : decode b_g_mayBeParent 13 = .ok (.iconst 1, 1) := by decide +kernel
theorem d_g_mayBeParent_14 : decode b_g_mayBeParent 14 = .ok (.goto 4, 3) := by decide +kernel
theorem d_g_mayBeParent_17 : decode b_g_mayBeParent 17 = .ok (.iconst 0, 1) := by decide +kernel
theorem d_g_mayBeParent_18 : decode b_g_mayBeParent 18 = .ok (.ireturn, 1) := by decide +kernel
def f_g_mayBeParent (sz : Int32) (nu : Int32) : Bool := if nu = (-1) then
    (true)
  else
    (if (f_g_holds sz nu) = true then
      (true)
    else
      (false))
set_option maxHeartbeats 4000000 in
set_option maxRecDepth 100000 in
theorem c_g_mayBeParent (l : Launch) (D : va_G) (cA : Nat → ClassId) (g pa re : Nat) (ps rs : Nat → Int64) (sz : Int32) (bu sk : Int64) (nu : Int32) : Met l y_g_mayBeParent (.code y_g_mayBeParent b_g_mayBeParent 2 (some .boolean) :: tb) (rmd 2) (Pro D cA [.ref g, .int nu] (va_P D classes [(g, .inr (1, [.ref pa, .ref re, .int sz, .long bu, .long sk])), (pa, .inl (cA 0, 40, .inr (.inl ps))), (re, .inl (cA 0, 40, .inr (.inl rs)))])) (Qro (.int (bz (f_g_mayBeParent sz nu)))) 0 0 nof := by
  refine ro_in (by decide) (Nat.le_of_ble_eq_true rfl) (fun p e s m below meth c ls FX hnm hK hP hl => ?_)
  have hl : lv_has ls 2 [(0, .ref g), (1, .int nu)] := hl
  have hP : va_P D classes [(g, .inr (1, [.ref pa, .ref re, .int sz, .long bu, .long sk])), (pa, .inl (cA 0, 40, .inr (.inl ps))), (re, .inl (cA 0, 40, .inr (.inl rs)))] s.heap := hP
  generalize ([.ref g, .int nu] : List Value).toArray = args at FX ⊢
  obtain ⟨hx, hb, hml, hown, hts, hr, hlk⟩ := id FX
  refine lv_iload_n hx hb d_g_mayBeParent_0 rfl (lv_at hl 1 rfl) ?_
  refine lv_iconst (v := (-1)) hx hb d_g_mayBeParent_1 (by decide) ?_
  refine lv_icmp_eq (tgt := 13) hx hb d_g_mayBeParent_2 (by decide) (fun c1 => ?_) (fun c1 => ?_)
  · have c1 := c1
    refine lv_iconst (v := 1) hx hb d_g_mayBeParent_13 (by decide) ?_
    refine lv_goto (tgt := 18) hx hb d_g_mayBeParent_14 (by decide) ?_
    exact ro_zret FX (by rw [f_g_mayBeParent, if_pos c1] <;> rfl) d_g_mayBeParent_18
  · have c1 := c1
    refine lv_aload_n hx hb d_g_mayBeParent_5 rfl (lv_at hl 0 rfl) ?_
    refine lv_iload_n hx hb d_g_mayBeParent_6 rfl (lv_at hl 1 rfl) ?_
    refine ro_V (v := .int (bz (f_g_holds sz nu))) (As := [.int nu]) (rest := []) (q0 := 0) FX hK (c_g_holds l D cA g pa re ps rs sz bu sk nu) hP hP rfl rfl rfl kc_g_holds km_g_33 ki_g ks_g_holds ke_g_holds rfl ok_g_holds ⟨Nat.le_of_ble_eq_true rfl, Nat.le_of_ble_eq_true rfl⟩ ⟨Nat.zero_le _, Nat.zero_le _⟩ hl.1 rfl (Nat.le_of_ble_eq_true rfl) d_g_mayBeParent_7 ?_
    refine lv_if_eq (tgt := 17) hx hb d_g_mayBeParent_10 (by decide) (fun c2 => ?_) (fun c2 => ?_)
    · have c2 := bz_f c2
      refine lv_iconst (v := 0) hx hb d_g_mayBeParent_17 (by decide) ?_
      exact ro_zret FX (by rw [f_g_mayBeParent, if_neg c1, if_neg c2] <;> rfl) d_g_mayBeParent_18
    · have c2 := bz_t c2
      refine lv_iconst (v := 1) hx hb d_g_mayBeParent_13 (by decide) ?_
      refine lv_goto (tgt := 18) hx hb d_g_mayBeParent_14 (by decide) ?_
      exact ro_zret FX (by rw [f_g_mayBeParent, if_neg c1, if_pos c2] <;> rfl) d_g_mayBeParent_18
theorem d_g_reach_0 : decode b_g_reach 0 = .ok (.aload_n 0, 1) := by decide +kernel
theorem d_g_reach_1 : decode b_g_reach 1 = .ok (.iload_n 1, 1) := by decide +kernel
theorem d_g_reach_2 : decode b_g_reach 2 = .ok (.invokevirtual 33, 3) := by decide +kernel
theorem d_g_reach_5 : decode b_g_reach 5 = .ok (.ifCond .eq 12, 3) := by decide +kernel
theorem d_g_reach_8 : decode b_g_reach 8 = .ok (.aload_n 0, 1) := by decide +kernel
theorem d_g_reach_9 : decode b_g_reach 9 = .ok (.getfield 15, 3) := by decide +kernel
theorem d_g_reach_12 : decode b_g_reach 12 = .ok (.iload_n 1, 1) := by decide +kernel
theorem d_g_reach_13 : decode b_g_reach 13 = .ok (.laload, 1) := by decide +kernel
theorem d_g_reach_14 : decode b_g_reach 14 = .ok (.goto 4, 3) := by decide +kernel
theorem d_g_reach_17 : decode b_g_reach 17 = .ok (.lconst 0, 1) := by decide +kernel
theorem d_g_reach_18 : decode b_g_reach 18 = .ok (.lreturn, 1) := by decide +kernel
def f_g_reach (rs : Nat → Int64) (sz : Int32) (nu : Int32) : Int64 := if (f_g_holds sz nu) = true then
    (rs nu.toNatClampNeg)
  else
    (0)
set_option maxHeartbeats 4000000 in
set_option maxRecDepth 100000 in
theorem c_g_reach (l : Launch) (D : va_G) (cA : Nat → ClassId) (g pa re : Nat) (ps rs : Nat → Int64) (sz : Int32) (bu sk : Int64) (nu : Int32) : Met l y_g_reach (.code y_g_reach b_g_reach 2 (some .long) :: tb) (rmd 2) (Pro D cA [.ref g, .int nu] (va_P D classes [(g, .inr (1, [.ref pa, .ref re, .int sz, .long bu, .long sk])), (pa, .inl (cA 0, 40, .inr (.inl ps))), (re, .inl (cA 0, 40, .inr (.inl rs)))])) (Qro (.long (f_g_reach rs sz nu))) 0 0 nof := by
  refine ro_in (by decide) (Nat.le_of_ble_eq_true rfl) (fun p e s m below meth c ls FX hnm hK hP hl => ?_)
  have hl : lv_has ls 2 [(0, .ref g), (1, .int nu)] := hl
  have hP : va_P D classes [(g, .inr (1, [.ref pa, .ref re, .int sz, .long bu, .long sk])), (pa, .inl (cA 0, 40, .inr (.inl ps))), (re, .inl (cA 0, 40, .inr (.inl rs)))] s.heap := hP
  generalize ([.ref g, .int nu] : List Value).toArray = args at FX ⊢
  obtain ⟨hx, hb, hml, hown, hts, hr, hlk⟩ := id FX
  refine lv_aload_n hx hb d_g_reach_0 rfl (lv_at hl 0 rfl) ?_
  refine lv_iload_n hx hb d_g_reach_1 rfl (lv_at hl 1 rfl) ?_
  refine ro_V (v := .int (bz (f_g_holds sz nu))) (As := [.int nu]) (rest := []) (q0 := 0) FX hK (c_g_holds l D cA g pa re ps rs sz bu sk nu) hP hP rfl rfl rfl kc_g_holds km_g_33 ki_g ks_g_holds ke_g_holds rfl ok_g_holds ⟨Nat.le_of_ble_eq_true rfl, Nat.le_of_ble_eq_true rfl⟩ ⟨Nat.zero_le _, Nat.zero_le _⟩ hl.1 rfl (Nat.le_of_ble_eq_true rfl) d_g_reach_2 ?_
  refine lv_if_eq (tgt := 17) hx hb d_g_reach_5 (by decide) (fun c1 => ?_) (fun c1 => ?_)
  · have c1 := bz_f c1
    refine lv_lconst (v := 0) hx hb d_g_reach_17 (by decide) ?_
    exact ro_lret FX (by rw [f_g_reach, if_neg c1]) d_g_reach_18
  · have c1 := bz_t c1
    refine lv_aload_n hx hb d_g_reach_8 rfl (lv_at hl 0 rfl) ?_
    refine ro_get (v := .ref re) FX hK hP 0 1 rfl rfl rfl i_g (by decide) kf_g_15 d_g_reach_9 ?_
    refine lv_iload_n hx hb d_g_reach_12 rfl (lv_at hl 1 rfl) ?_
    refine va_lald hx hb hK.1 hP 2 0 rfl rfl (holds_in c1) d_g_reach_13 ?_
    refine lv_goto (tgt := 18) hx hb d_g_reach_14 (by decide) ?_
    exact ro_lret FX (by rw [f_g_reach, if_pos c1]) d_g_reach_18
theorem d_g_isBuilt_0 : decode b_g_isBuilt 0 = .ok (.aload_n 0, 1) := by decide +kernel
theorem d_g_isBuilt_1 : decode b_g_isBuilt 1 = .ok (.getfield 22, 3) := by decide +kernel
theorem d_g_isBuilt_4 : decode b_g_isBuilt 4 = .ok (.iload_n 1, 1) := by decide +kernel
theorem d_g_isBuilt_5 : decode b_g_isBuilt 5 = .ok (.invokestatic 40, 3) := by decide +kernel
theorem d_g_isBuilt_8 : decode b_g_isBuilt 8 = .ok (.ireturn, 1) := by decide +kernel
def f_g_isBuilt (bu : Int64) (nu : Int32) : Bool := (f_x_contains bu nu)
set_option maxHeartbeats 4000000 in
set_option maxRecDepth 100000 in
theorem c_g_isBuilt (l : Launch) (D : va_G) (cA : Nat → ClassId) (g pa re : Nat) (ps rs : Nat → Int64) (sz : Int32) (bu sk : Int64) (nu : Int32) : Met l y_g_isBuilt (.code y_g_isBuilt b_g_isBuilt 2 (some .boolean) :: tb) (rmd 2) (Pro D cA [.ref g, .int nu] (va_P D classes [(g, .inr (1, [.ref pa, .ref re, .int sz, .long bu, .long sk])), (pa, .inl (cA 0, 40, .inr (.inl ps))), (re, .inl (cA 0, 40, .inr (.inl rs)))])) (Qro (.int (bz (f_g_isBuilt bu nu)))) 0 0 nof := by
  refine ro_in (by decide) (Nat.le_of_ble_eq_true rfl) (fun p e s m below meth c ls FX hnm hK hP hl => ?_)
  have hl : lv_has ls 2 [(0, .ref g), (1, .int nu)] := hl
  have hP : va_P D classes [(g, .inr (1, [.ref pa, .ref re, .int sz, .long bu, .long sk])), (pa, .inl (cA 0, 40, .inr (.inl ps))), (re, .inl (cA 0, 40, .inr (.inl rs)))] s.heap := hP
  generalize ([.ref g, .int nu] : List Value).toArray = args at FX ⊢
  obtain ⟨hx, hb, hml, hown, hts, hr, hlk⟩ := id FX
  refine lv_aload_n hx hb d_g_isBuilt_0 rfl (lv_at hl 0 rfl) ?_
  refine ro_get (v := .long bu) FX hK hP 0 3 rfl rfl rfl i_g (by decide) kf_g_22 d_g_isBuilt_1 ?_
  refine lv_iload_n hx hb d_g_isBuilt_4 rfl (lv_at hl 1 rfl) ?_
  refine ro_SN (v := .int (bz (f_x_contains bu nu))) (As := [.long bu, .int nu]) (rest := []) FX hK (c_x_contains l D cA bu nu) trivial kc_x_contains km_g_40 ki_x ks_x_contains rfl ok_x_contains ⟨Nat.le_of_ble_eq_true rfl, Nat.le_of_ble_eq_true rfl⟩ ⟨Nat.zero_le _, Nat.zero_le _⟩ hl.1 rfl (Nat.le_of_ble_eq_true rfl) d_g_isBuilt_5 ?_
  exact ro_zret FX (by rw [f_g_isBuilt] <;> rfl) d_g_isBuilt_8
theorem d_g_isSkipped_0 : decode b_g_isSkipped 0 = .ok (.aload_n 0, 1) := by decide +kernel
theorem d_g_isSkipped_1 : decode b_g_isSkipped 1 = .ok (.getfield 26, 3) := by decide +kernel
theorem d_g_isSkipped_4 : decode b_g_isSkipped 4 = .ok (.iload_n 1, 1) := by decide +kernel
theorem d_g_isSkipped_5 : decode b_g_isSkipped 5 = .ok (.invokestatic 40, 3) := by decide +kernel
theorem d_g_isSkipped_8 : decode b_g_isSkipped 8 = .ok (.ireturn, 1) := by decide +kernel
def f_g_isSkipped (sk : Int64) (nu : Int32) : Bool := (f_x_contains sk nu)
set_option maxHeartbeats 4000000 in
set_option maxRecDepth 100000 in
theorem c_g_isSkipped (l : Launch) (D : va_G) (cA : Nat → ClassId) (g pa re : Nat) (ps rs : Nat → Int64) (sz : Int32) (bu sk : Int64) (nu : Int32) : Met l y_g_isSkipped (.code y_g_isSkipped b_g_isSkipped 2 (some .boolean) :: tb) (rmd 2) (Pro D cA [.ref g, .int nu] (va_P D classes [(g, .inr (1, [.ref pa, .ref re, .int sz, .long bu, .long sk])), (pa, .inl (cA 0, 40, .inr (.inl ps))), (re, .inl (cA 0, 40, .inr (.inl rs)))])) (Qro (.int (bz (f_g_isSkipped sk nu)))) 0 0 nof := by
  refine ro_in (by decide) (Nat.le_of_ble_eq_true rfl) (fun p e s m below meth c ls FX hnm hK hP hl => ?_)
  have hl : lv_has ls 2 [(0, .ref g), (1, .int nu)] := hl
  have hP : va_P D classes [(g, .inr (1, [.ref pa, .ref re, .int sz, .long bu, .long sk])), (pa, .inl (cA 0, 40, .inr (.inl ps))), (re, .inl (cA 0, 40, .inr (.inl rs)))] s.heap := hP
  generalize ([.ref g, .int nu] : List Value).toArray = args at FX ⊢
  obtain ⟨hx, hb, hml, hown, hts, hr, hlk⟩ := id FX
  refine lv_aload_n hx hb d_g_isSkipped_0 rfl (lv_at hl 0 rfl) ?_
  refine ro_get (v := .long sk) FX hK hP 0 4 rfl rfl rfl i_g (by decide) kf_g_26 d_g_isSkipped_1 ?_
  refine lv_iload_n hx hb d_g_isSkipped_4 rfl (lv_at hl 1 rfl) ?_
  refine ro_SN (v := .int (bz (f_x_contains sk nu))) (As := [.long sk, .int nu]) (rest := []) FX hK (c_x_contains l D cA sk nu) trivial kc_x_contains km_g_40 ki_x ks_x_contains rfl ok_x_contains ⟨Nat.le_of_ble_eq_true rfl, Nat.le_of_ble_eq_true rfl⟩ ⟨Nat.zero_le _, Nat.zero_le _⟩ hl.1 rfl (Nat.le_of_ble_eq_true rfl) d_g_isSkipped_5 ?_
  exact ro_zret FX (by rw [f_g_isSkipped] <;> rfl) d_g_isSkipped_8
theorem d_g_builtCount_0 : decode b_g_builtCount 0 = .ok (.aload_n 0, 1) := by decide +kernel
theorem d_g_builtCount_1 : decode b_g_builtCount 1 = .ok (.getfield 22, 3) := by decide +kernel
theorem d_g_builtCount_4 : decode b_g_builtCount 4 = .ok (.invokestatic 44, 3) := by decide +kernel
theorem d_g_builtCount_7 : decode b_g_builtCount 7 = .ok (.ireturn, 1) := by decide +kernel
def f_g_builtCount (bu : Int64) : Int32 := f_lo_bitCount bu
set_option maxHeartbeats 4000000 in
set_option maxRecDepth 100000 in
theorem c_g_builtCount (l : Launch) (D : va_G) (cA : Nat → ClassId) (g pa re : Nat) (ps rs : Nat → Int64) (sz : Int32) (bu sk : Int64) : Met l y_g_builtCount (.code y_g_builtCount b_g_builtCount 1 (some .int) :: tb) (rmd 1) (Pro D cA [.ref g] (va_P D classes [(g, .inr (1, [.ref pa, .ref re, .int sz, .long bu, .long sk])), (pa, .inl (cA 0, 40, .inr (.inl ps))), (re, .inl (cA 0, 40, .inr (.inl rs)))])) (Qro (.int (f_g_builtCount bu))) 0 0 nof := by
  refine ro_in (by decide) (Nat.le_of_ble_eq_true rfl) (fun p e s m below meth c ls FX hnm hK hP hl => ?_)
  have hl : lv_has ls 1 [(0, .ref g)] := hl
  have hP : va_P D classes [(g, .inr (1, [.ref pa, .ref re, .int sz, .long bu, .long sk])), (pa, .inl (cA 0, 40, .inr (.inl ps))), (re, .inl (cA 0, 40, .inr (.inl rs)))] s.heap := hP
  generalize ([.ref g] : List Value).toArray = args at FX ⊢
  obtain ⟨hx, hb, hml, hown, hts, hr, hlk⟩ := id FX
  refine lv_aload_n hx hb d_g_builtCount_0 rfl (lv_at hl 0 rfl) ?_
  refine ro_get (v := .long bu) FX hK hP 0 3 rfl rfl rfl i_g (by decide) kf_g_22 d_g_builtCount_1 ?_
  refine ro_S (v := .int (f_lo_bitCount bu)) (As := [.long bu]) (rest := []) FX hK (c_lo_bitCount l D cA bu) trivial kc_lo_bitCount km_g_44 ki_lo ks_lo_bitCount rfl ok_lo_bitCount ⟨Nat.le_of_ble_eq_true rfl, Nat.le_of_ble_eq_true rfl⟩ ⟨Nat.zero_le _, Nat.zero_le _⟩ hl.1 rfl (Nat.le_of_ble_eq_true rfl) d_g_builtCount_4 ?_
  exact ro_iret FX (by rw [f_g_builtCount]) d_g_builtCount_7
theorem d_g_stepToward_0 : decode b_g_stepToward 0 = .ok (.aload_n 0, 1) := by decide +kernel
theorem d_g_stepToward_1 : decode b_g_stepToward 1 = .ok (.iload_n 1, 1) := by decide +kernel
theorem d_g_stepToward_2 : decode b_g_stepToward 2 = .ok (.invokevirtual 33, 3) := by decide +kernel
theorem d_g_stepToward_5 : decode b_g_stepToward 5 = .ok (.ifCond .ne 5, 3) := by decide +kernel
theorem d_g_stepToward_8 : decode b_g_stepToward 8 = .ok (.iconst (-1), 1) := by decide +kernel
theorem d_g_stepToward_9 : decode b_g_stepToward 9 = .ok (.ireturn, 1) := by decide +kernel
theorem d_g_stepToward_10 : decode b_g_stepToward 10 = .ok (.iconst 0, 1) := by decide +kernel
theorem d_g_stepToward_11 : decode b_g_stepToward 11 = .ok (.istore_n 3, 1) := by decide +kernel
theorem d_g_stepToward_12 : decode b_g_stepToward 12 = .ok (.iload_n 3, 1) := by decide +kernel
theorem d_g_stepToward_13 : decode b_g_stepToward 13 = .ok (.iload_n 1, 1) := by decide +kernel
theorem d_g_stepToward_14 : decode b_g_stepToward 14 = .ok (.if_icmp .ge 37, 3) := by decide +kernel
theorem d_g_stepToward_17 : decode b_g_stepToward 17 = .ok (.aload_n 0, 1) := by decide +kernel
theorem d_g_stepToward_18 : decode b_g_stepToward 18 = .ok (.getfield 9, 3) := by decide +kernel
theorem d_g_stepToward_21 : decode b_g_stepToward 21 = .ok (.iload_n 1, 1) := by decide +kernel
theorem d_g_stepToward_22 : decode b_g_stepToward 22 = .ok (.laload, 1) := by decide +kernel
theorem d_g_stepToward_23 : decode b_g_stepToward 23 = .ok (.iload_n 3, 1) := by decide +kernel
theorem d_g_stepToward_24 : decode b_g_stepToward 24 = .ok (.invokestatic 40, 3) := by decide +kernel
theorem d_g_stepToward_27 : decode b_g_stepToward 27 = .ok (.ifCond .eq 18, 3) := by decide +kernel
theorem d_g_stepToward_30 : decode b_g_stepToward 30 = .ok (.aload_n 0, 1) := by decide +kernel
theorem d_g_stepToward_31 : decode b_g_stepToward 31 = .ok (.getfield 15, 3) := by decide +kernel
theorem d_g_stepToward_34 : decode b_g_stepToward 34 = .ok (.iload_n 3, 1) := by decide +kernel
theorem d_g_stepToward_35 : decode b_g_stepToward 35 = .ok (.laload, 1) := by decide +kernel
theorem d_g_stepToward_36 : decode b_g_stepToward 36 = .ok (.iload_n 2, 1) := by decide +kernel
theorem d_g_stepToward_37 : decode b_g_stepToward 37 = .ok (.invokestatic 40, 3) := by decide +kernel
theorem d_g_stepToward_40 : decode b_g_stepToward 40 = .ok (.ifCond .eq 5, 3) := by decide +kernel
theorem d_g_stepToward_43 : decode b_g_stepToward 43 = .ok (.iload_n 3, 1) := by decide +kernel
theorem d_g_stepToward_44 : decode b_g_stepToward 44 = .ok (.ireturn, 1) := by decide +kernel
theorem d_g_stepToward_45 : decode b_g_stepToward 45 = .ok (.iinc 3 1, 3) := by decide +kernel
theorem d_g_stepToward_48 : decode b_g_stepToward 48 = .ok (.goto (-36), 3) := by decide +kernel
theorem d_g_stepToward_51 : decode b_g_stepToward 51 = .ok (.iconst (-1), 1) := by decide +kernel
theorem d_g_stepToward_52 : decode b_g_stepToward 52 = .ok (.ireturn, 1) := by decide +kernel
def L_g_stepToward_12 (ps : Nat → Int64) (rs : Nat → Int64) (sz : Int32) (nu : Int32) (cu : Int32) : Nat → Int32 → Int32
  | 0, _ => 0
  | n + 1, xi => if nu ≤ xi then
    ((-1))
  else
    (if (f_x_contains (ps nu.toNatClampNeg) xi) = true then
      (if (f_x_contains (rs xi.toNatClampNeg) cu) = true then
        (xi)
      else
        (L_g_stepToward_12 ps rs sz nu cu n (xi + 1)))
    else
      (L_g_stepToward_12 ps rs sz nu cu n (xi + 1)))
theorem L_g_stepToward_12_s (ps : Nat → Int64) (rs : Nat → Int64) (sz : Int32) (nu : Int32) (cu : Int32) (n : Nat) (xi : Int32) : L_g_stepToward_12 ps rs sz nu cu (n + 1) xi = if nu ≤ xi then
    ((-1))
  else
    (if (f_x_contains (ps nu.toNatClampNeg) xi) = true then
      (if (f_x_contains (rs xi.toNatClampNeg) cu) = true then
        (xi)
      else
        (L_g_stepToward_12 ps rs sz nu cu n (xi + 1)))
    else
      (L_g_stepToward_12 ps rs sz nu cu n (xi + 1))) := rfl
def f_g_stepToward (ps : Nat → Int64) (rs : Nat → Int64) (sz : Int32) (nu : Int32) (cu : Int32) : Int32 := if (f_g_holds sz nu) = true then
    (L_g_stepToward_12 ps rs sz nu cu 41 0)
  else
    ((-1))
set_option maxHeartbeats 4000000 in
set_option maxRecDepth 100000 in
theorem c_g_stepToward (l : Launch) (D : va_G) (cA : Nat → ClassId) (g pa re : Nat) (ps rs : Nat → Int64) (sz : Int32) (bu sk : Int64) (nu : Int32) (cu : Int32) : Met l y_g_stepToward (.code y_g_stepToward b_g_stepToward 4 (some .int) :: tb) (rmd 2) (Pro D cA [.ref g, .int nu, .int cu] (va_P D classes [(g, .inr (1, [.ref pa, .ref re, .int sz, .long bu, .long sk])), (pa, .inl (cA 0, 40, .inr (.inl ps))), (re, .inl (cA 0, 40, .inr (.inl rs)))])) (Qro (.int (f_g_stepToward ps rs sz nu cu))) 0 0 nof := by
  refine ro_in (by decide) (Nat.le_of_ble_eq_true rfl) (fun p e s m below meth c ls FX hnm hK hP hl => ?_)
  have hl : lv_has ls 4 [(0, .ref g), (1, .int nu), (2, .int cu)] := hl
  have hP : va_P D classes [(g, .inr (1, [.ref pa, .ref re, .int sz, .long bu, .long sk])), (pa, .inl (cA 0, 40, .inr (.inl ps))), (re, .inl (cA 0, 40, .inr (.inl rs)))] s.heap := hP
  generalize ([.ref g, .int nu, .int cu] : List Value).toArray = args at FX ⊢
  obtain ⟨hx, hb, hml, hown, hts, hr, hlk⟩ := id FX
  refine lv_aload_n hx hb d_g_stepToward_0 rfl (lv_at hl 0 rfl) ?_
  refine lv_iload_n hx hb d_g_stepToward_1 rfl (lv_at hl 1 rfl) ?_
  refine ro_V (v := .int (bz (f_g_holds sz nu))) (As := [.int nu]) (rest := []) (q0 := 0) FX hK (c_g_holds l D cA g pa re ps rs sz bu sk nu) hP hP rfl rfl rfl kc_g_holds km_g_33 ki_g ks_g_holds ke_g_holds rfl ok_g_holds ⟨Nat.le_of_ble_eq_true rfl, Nat.le_of_ble_eq_true rfl⟩ ⟨Nat.zero_le _, Nat.zero_le _⟩ hl.1 rfl (Nat.le_of_ble_eq_true rfl) d_g_stepToward_2 ?_
  refine lv_if_ne (tgt := 10) hx hb d_g_stepToward_5 (by decide) (fun c1 => ?_) (fun c1 => ?_)
  · have c1 := bz_t c1
    obtain ⟨j, hj, hjs⟩ := holds_nI c1
    refine lv_iconst (v := 0) hx hb d_g_stepToward_10 (by decide) ?_
    refine lv_istore_n (lv' := [(3, .int 0), (0, .ref g), (1, .int nu), (2, .int cu)]) hx hb d_g_stepToward_11 rfl hl (by decide) rfl (fun ls hl => ?_)
    have loop : ∀ (n k : Nat) (xi : Int32) (ls : Array Slot), k + n = 41 → k ≤ 40 → xi = nI k → lv_has ls 4 [(0, .ref g), (1, .int nu), (2, .int cu), (3, .int xi)] → W p l e (rmd 2) s m args below meth c s.heap [] 0 0 (MQ below (Qro (.int (L_g_stepToward_12 ps rs sz nu cu n xi))) args s 0 0 nof) (F0 m 12 ls []) := by
      intro n
      induction n with
      | zero =>
        intro k xi ls h1 h2
        exact absurd h1 (by omega)
      | succ n ih =>
        intro k xi ls hkn hk hxi hl
        refine lv_iload_n hx hb d_g_stepToward_12 rfl (lv_at hl 3 rfl) ?_
        refine lv_iload_n hx hb d_g_stepToward_13 rfl (lv_at hl 1 rfl) ?_
        refine lv_icmp_ge (tgt := 51) hx hb d_g_stepToward_14 (by decide) (fun c2 => ?_) (fun c2 => ?_)
        · have c2 := c2
          refine lv_iconst (v := (-1)) hx hb d_g_stepToward_51 (by decide) ?_
          exact ro_iret FX (by rw [L_g_stepToward_12_s, if_pos c2]) d_g_stepToward_52
        · have c2 := c2
          have hk1 : k < j := k_lt hxi hjs c2 (by omega)
          refine lv_aload_n hx hb d_g_stepToward_17 rfl (lv_at hl 0 rfl) ?_
          refine ro_get (v := .ref pa) FX hK hP 0 0 rfl rfl rfl i_g (by decide) kf_g_9 d_g_stepToward_18 ?_
          refine lv_iload_n hx hb d_g_stepToward_21 rfl (lv_at hl 1 rfl) ?_
          refine va_lald hx hb hK.1 hP 1 0 rfl rfl (vin hjs hj (by decide)) d_g_stepToward_22 ?_
          refine lv_iload_n hx hb d_g_stepToward_23 rfl (lv_at hl 3 rfl) ?_
          refine ro_SN (v := .int (bz (f_x_contains (ps nu.toNatClampNeg) xi))) (As := [.long (ps nu.toNatClampNeg), .int xi]) (rest := []) FX hK (c_x_contains l D cA (ps nu.toNatClampNeg) xi) trivial kc_x_contains km_g_40 ki_x ks_x_contains rfl ok_x_contains ⟨Nat.le_of_ble_eq_true rfl, Nat.le_of_ble_eq_true rfl⟩ ⟨Nat.zero_le _, Nat.zero_le _⟩ hl.1 rfl (Nat.le_of_ble_eq_true rfl) d_g_stepToward_24 ?_
          refine lv_if_eq (tgt := 45) hx hb d_g_stepToward_27 (by decide) (fun c3 => ?_) (fun c3 => ?_)
          · have c3 := bz_f c3
            refine lv_iinc (v := xi + 1) (lv' := [(3, .int (xi + 1)), (0, .ref g), (1, .int nu), (2, .int cu)]) hx hb d_g_stepToward_45 hl (k := 3) rfl rfl (by decide) rfl (fun ls hl => ?_)
            refine lv_goto (tgt := 12) hx hb d_g_stepToward_48 (by decide) ?_
            refine ro_to (by rw [L_g_stepToward_12_s, if_neg c2, if_neg c3]) ?_
            exact ih (k + 1) (xi + 1) ls (by omega) (by omega) (by rw [hxi]; exact nI_1 _)  (lv_sub hl [1, 2, 3, 0] rfl)
          · have c3 := bz_t c3
            refine lv_aload_n hx hb d_g_stepToward_30 rfl (lv_at hl 0 rfl) ?_
            refine ro_get (v := .ref re) FX hK hP 0 1 rfl rfl rfl i_g (by decide) kf_g_15 d_g_stepToward_31 ?_
            refine lv_iload_n hx hb d_g_stepToward_34 rfl (lv_at hl 3 rfl) ?_
            refine va_lald hx hb hK.1 hP 2 0 rfl rfl (vin hxi (Nat.lt_of_lt_of_le hk1 (by omega)) (by decide)) d_g_stepToward_35 ?_
            refine lv_iload_n hx hb d_g_stepToward_36 rfl (lv_at hl 2 rfl) ?_
            refine ro_SN (v := .int (bz (f_x_contains (rs xi.toNatClampNeg) cu))) (As := [.long (rs xi.toNatClampNeg), .int cu]) (rest := []) FX hK (c_x_contains l D cA (rs xi.toNatClampNeg) cu) trivial kc_x_contains km_g_40 ki_x ks_x_contains rfl ok_x_contains ⟨Nat.le_of_ble_eq_true rfl, Nat.le_of_ble_eq_true rfl⟩ ⟨Nat.zero_le _, Nat.zero_le _⟩ hl.1 rfl (Nat.le_of_ble_eq_true rfl) d_g_stepToward_37 ?_
            refine lv_if_eq (tgt := 45) hx hb d_g_stepToward_40 (by decide) (fun c4 => ?_) (fun c4 => ?_)
            · have c4 := bz_f c4
              refine lv_iinc (v := xi + 1) (lv' := [(3, .int (xi + 1)), (0, .ref g), (1, .int nu), (2, .int cu)]) hx hb d_g_stepToward_45 hl (k := 3) rfl rfl (by decide) rfl (fun ls hl => ?_)
              refine lv_goto (tgt := 12) hx hb d_g_stepToward_48 (by decide) ?_
              refine ro_to (by rw [L_g_stepToward_12_s, if_neg c2, if_pos c3, if_neg c4]) ?_
              exact ih (k + 1) (xi + 1) ls (by omega) (by omega) (by rw [hxi]; exact nI_1 _)  (lv_sub hl [1, 2, 3, 0] rfl)
            · have c4 := bz_t c4
              refine lv_iload_n hx hb d_g_stepToward_43 rfl (lv_at hl 3 rfl) ?_
              exact ro_iret FX (by rw [L_g_stepToward_12_s, if_neg c2, if_pos c3, if_pos c4]) d_g_stepToward_44
    refine ro_to (by rw [f_g_stepToward, if_pos c1]) ?_
    exact loop 41 0 0 ls rfl (Nat.zero_le _) rfl  (lv_sub hl [1, 2, 3, 0] rfl)
  · have c1 := bz_f c1
    refine lv_iconst (v := (-1)) hx hb d_g_stepToward_8 (by decide) ?_
    exact ro_iret FX (by rw [f_g_stepToward, if_neg c1]) d_g_stepToward_9
theorem d_g_markBuilt_0 : decode b_g_markBuilt 0 = .ok (.aload_n 0, 1) := by decide +kernel
theorem d_g_markBuilt_1 : decode b_g_markBuilt 1 = .ok (.dup, 1) := by decide +kernel
theorem d_g_markBuilt_2 : decode b_g_markBuilt 2 = .ok (.getfield 22, 3) := by decide +kernel
theorem d_g_markBuilt_5 : decode b_g_markBuilt 5 = .ok (.iload_n 1, 1) := by decide +kernel
theorem d_g_markBuilt_6 : decode b_g_markBuilt 6 = .ok (.invokestatic 36, 3) := by decide +kernel
theorem d_g_markBuilt_9 : decode b_g_markBuilt 9 = .ok (.lor, 1) := by decide +kernel
theorem d_g_markBuilt_10 : decode b_g_markBuilt 10 = .ok (.putfield 22, 3) := by decide +kernel
theorem d_g_markBuilt_13 : decode b_g_markBuilt 13 = .ok (.return_, 1) := by decide +kernel
def f_g_markBuilt (bu : Int64) (nu : Int32) : Int64 := bu ||| (f_x_only nu)
set_option maxHeartbeats 4000000 in
set_option maxRecDepth 100000 in
theorem c_g_markBuilt (l : Launch) (D : va_G) (cA : Nat → ClassId) (g pa re : Nat) (ps rs : Nat → Int64) (sz : Int32) (bu sk : Int64) (nu : Int32) : Met l y_g_markBuilt (.code y_g_markBuilt b_g_markBuilt 2 none :: tb) (rmd 2) (Pro D cA [.ref g, .int nu] (fun H0 => va_P D classes [(g, .inr (1, [.ref pa, .ref re, .int sz, .long bu, .long sk])), (pa, .inl (cA 0, 40, .inr (.inl ps))), (re, .inl (cA 0, 40, .inr (.inl rs)))] H0 ∧ va_D (fun _ => True) [(g, .inr (1, [.ref pa, .ref re, .int sz, .long bu, .long sk])), (pa, .inl (cA 0, 40, .inr (.inl ps))), (re, .inl (cA 0, 40, .inr (.inl rs)))])) (Qmu (aw [(g, .inr (1, [.ref pa, .ref re, .int sz, .long bu, .long sk])), (pa, .inl (cA 0, 40, .inr (.inl ps))), (re, .inl (cA 0, 40, .inr (.inl rs)))]) (fun v0 H0 => v0 = none ∧ va_P D classes [(g, .inr (1, [.ref pa, .ref re, .int sz, .long (f_g_markBuilt bu nu), .long sk])), (pa, .inl (cA 0, 40, .inr (.inl ps))), (re, .inl (cA 0, 40, .inr (.inl rs)))] H0 ∧ va_D (aw [(g, .inr (1, [.ref pa, .ref re, .int sz, .long bu, .long sk])), (pa, .inl (cA 0, 40, .inr (.inl ps))), (re, .inl (cA 0, 40, .inr (.inl rs)))]) [(g, .inr (1, [.ref pa, .ref re, .int sz, .long (f_g_markBuilt bu nu), .long sk])), (pa, .inl (cA 0, 40, .inr (.inl ps))), (re, .inl (cA 0, 40, .inr (.inl rs)))])) 0 0 (aw [(g, .inr (1, [.ref pa, .ref re, .int sz, .long bu, .long sk])), (pa, .inl (cA 0, 40, .inr (.inl ps))), (re, .inl (cA 0, 40, .inr (.inl rs)))]) := by
  refine ro_in (by decide) (Nat.le_of_ble_eq_true rfl) (fun p e s m below meth c ls FX hnm hK hP hl => ?_)
  have hl : lv_has ls 2 [(0, .ref g), (1, .int nu)] := hl
  obtain ⟨hP, hD0⟩ := hP
  have hP : va_P D classes [(g, .inr (1, [.ref pa, .ref re, .int sz, .long bu, .long sk])), (pa, .inl (cA 0, 40, .inr (.inl ps))), (re, .inl (cA 0, 40, .inr (.inl rs)))] s.heap := hP
  have hD : va_D (aw [(g, .inr (1, [.ref pa, .ref re, .int sz, .long bu, .long sk])), (pa, .inl (cA 0, 40, .inr (.inl ps))), (re, .inl (cA 0, 40, .inr (.inl rs)))]) [(g, .inr (1, [.ref pa, .ref re, .int sz, .long bu, .long sk])), (pa, .inl (cA 0, 40, .inr (.inl ps))), (re, .inl (cA 0, 40, .inr (.inl rs)))] := aw_self hD0
  generalize (aw [(g, .inr (1, [.ref pa, .ref re, .int sz, .long bu, .long sk])), (pa, .inl (cA 0, 40, .inr (.inl ps))), (re, .inl (cA 0, 40, .inr (.inl rs)))]) = A at hD ⊢
  have hS : va_S A s.heap s.heap [] := va_S.rf
  generalize ([.ref g, .int nu] : List Value).toArray = args at FX ⊢
  obtain ⟨hx, hb, hml, hown, hts, hr, hlk⟩ := id FX
  refine lv_aload_n hx hb d_g_markBuilt_0 rfl (lv_at hl 0 rfl) ?_
  refine lv_dup hx hb d_g_markBuilt_1 rfl ?_
  refine ro_get (v := .long bu) FX hK hP 0 3 rfl rfl rfl i_g (by decide) kf_g_22 d_g_markBuilt_2 ?_
  refine lv_iload_n hx hb d_g_markBuilt_5 rfl (lv_at hl 1 rfl) ?_
  refine ro_SN (v := .long (f_x_only nu)) (As := [.int nu]) (rest := [.long bu, .ref g]) FX hK (c_x_only l D cA nu) trivial kc_x_only km_g_36 ki_x ks_x_only rfl ok_x_only ⟨Nat.le_of_ble_eq_true rfl, Nat.le_of_ble_eq_true rfl⟩ ⟨Nat.zero_le _, Nat.zero_le _⟩ hl.1 rfl (Nat.le_of_ble_eq_true rfl) d_g_markBuilt_6 ?_
  refine lv_lor hx hb d_g_markBuilt_9 ?_
  refine va_put (D := D) (v := .long (bu ||| (f_x_only nu))) (ty := .long) hx hb hts i_g t_g t_g_ok n_g hown hK.1 hP hD hS 0 rfl rfl 3 (by decide) (hts _ kf_g_22) (fun _ h9 => h9) rfl (by decide +kernel) rfl rfl (Nat.le_of_ble_eq_true rfl) d_g_markBuilt_10 (fun H locs hP hD hS => ?_)
  have hP : va_P D classes [(g, .inr (1, [.ref pa, .ref re, .int sz, .long (bu ||| (f_x_only nu)), .long sk])), (pa, .inl (cA 0, 40, .inr (.inl ps))), (re, .inl (cA 0, 40, .inr (.inl rs)))] H := hP
  have hD : va_D A [(g, .inr (1, [.ref pa, .ref re, .int sz, .long (bu ||| (f_x_only nu)), .long sk])), (pa, .inl (cA 0, 40, .inr (.inl ps))), (re, .inl (cA 0, 40, .inr (.inl rs)))] := hD
  exact mu_vret FX hS (by rw [show (f_g_markBuilt bu nu) = bu ||| (f_x_only nu) from (by rw [f_g_markBuilt])]; exact ⟨rfl, hP, hD⟩) d_g_markBuilt_13
theorem d_g_markSkipped_0 : decode b_g_markSkipped 0 = .ok (.aload_n 0, 1) := by decide +kernel
theorem d_g_markSkipped_1 : decode b_g_markSkipped 1 = .ok (.dup, 1) := by decide +kernel
theorem d_g_markSkipped_2 : decode b_g_markSkipped 2 = .ok (.getfield 26, 3) := by decide +kernel
theorem d_g_markSkipped_5 : decode b_g_markSkipped 5 = .ok (.iload_n 1, 1) := by decide +kernel
theorem d_g_markSkipped_6 : decode b_g_markSkipped 6 = .ok (.invokestatic 36, 3) := by decide +kernel
theorem d_g_markSkipped_9 : decode b_g_markSkipped 9 = .ok (.lor, 1) := by decide +kernel
theorem d_g_markSkipped_10 : decode b_g_markSkipped 10 = .ok (.putfield 26, 3) := by decide +kernel
theorem d_g_markSkipped_13 : decode b_g_markSkipped 13 = .ok (.return_, 1) := by decide +kernel
def f_g_markSkipped (sk : Int64) (nu : Int32) : Int64 := sk ||| (f_x_only nu)
set_option maxHeartbeats 4000000 in
set_option maxRecDepth 100000 in
theorem c_g_markSkipped (l : Launch) (D : va_G) (cA : Nat → ClassId) (g pa re : Nat) (ps rs : Nat → Int64) (sz : Int32) (bu sk : Int64) (nu : Int32) : Met l y_g_markSkipped (.code y_g_markSkipped b_g_markSkipped 2 none :: tb) (rmd 2) (Pro D cA [.ref g, .int nu] (fun H0 => va_P D classes [(g, .inr (1, [.ref pa, .ref re, .int sz, .long bu, .long sk])), (pa, .inl (cA 0, 40, .inr (.inl ps))), (re, .inl (cA 0, 40, .inr (.inl rs)))] H0 ∧ va_D (fun _ => True) [(g, .inr (1, [.ref pa, .ref re, .int sz, .long bu, .long sk])), (pa, .inl (cA 0, 40, .inr (.inl ps))), (re, .inl (cA 0, 40, .inr (.inl rs)))])) (Qmu (aw [(g, .inr (1, [.ref pa, .ref re, .int sz, .long bu, .long sk])), (pa, .inl (cA 0, 40, .inr (.inl ps))), (re, .inl (cA 0, 40, .inr (.inl rs)))]) (fun v0 H0 => v0 = none ∧ va_P D classes [(g, .inr (1, [.ref pa, .ref re, .int sz, .long bu, .long (f_g_markSkipped sk nu)])), (pa, .inl (cA 0, 40, .inr (.inl ps))), (re, .inl (cA 0, 40, .inr (.inl rs)))] H0 ∧ va_D (aw [(g, .inr (1, [.ref pa, .ref re, .int sz, .long bu, .long sk])), (pa, .inl (cA 0, 40, .inr (.inl ps))), (re, .inl (cA 0, 40, .inr (.inl rs)))]) [(g, .inr (1, [.ref pa, .ref re, .int sz, .long bu, .long (f_g_markSkipped sk nu)])), (pa, .inl (cA 0, 40, .inr (.inl ps))), (re, .inl (cA 0, 40, .inr (.inl rs)))])) 0 0 (aw [(g, .inr (1, [.ref pa, .ref re, .int sz, .long bu, .long sk])), (pa, .inl (cA 0, 40, .inr (.inl ps))), (re, .inl (cA 0, 40, .inr (.inl rs)))]) := by
  refine ro_in (by decide) (Nat.le_of_ble_eq_true rfl) (fun p e s m below meth c ls FX hnm hK hP hl => ?_)
  have hl : lv_has ls 2 [(0, .ref g), (1, .int nu)] := hl
  obtain ⟨hP, hD0⟩ := hP
  have hP : va_P D classes [(g, .inr (1, [.ref pa, .ref re, .int sz, .long bu, .long sk])), (pa, .inl (cA 0, 40, .inr (.inl ps))), (re, .inl (cA 0, 40, .inr (.inl rs)))] s.heap := hP
  have hD : va_D (aw [(g, .inr (1, [.ref pa, .ref re, .int sz, .long bu, .long sk])), (pa, .inl (cA 0, 40, .inr (.inl ps))), (re, .inl (cA 0, 40, .inr (.inl rs)))]) [(g, .inr (1, [.ref pa, .ref re, .int sz, .long bu, .long sk])), (pa, .inl (cA 0, 40, .inr (.inl ps))), (re, .inl (cA 0, 40, .inr (.inl rs)))] := aw_self hD0
  generalize (aw [(g, .inr (1, [.ref pa, .ref re, .int sz, .long bu, .long sk])), (pa, .inl (cA 0, 40, .inr (.inl ps))), (re, .inl (cA 0, 40, .inr (.inl rs)))]) = A at hD ⊢
  have hS : va_S A s.heap s.heap [] := va_S.rf
  generalize ([.ref g, .int nu] : List Value).toArray = args at FX ⊢
  obtain ⟨hx, hb, hml, hown, hts, hr, hlk⟩ := id FX
  refine lv_aload_n hx hb d_g_markSkipped_0 rfl (lv_at hl 0 rfl) ?_
  refine lv_dup hx hb d_g_markSkipped_1 rfl ?_
  refine ro_get (v := .long sk) FX hK hP 0 4 rfl rfl rfl i_g (by decide) kf_g_26 d_g_markSkipped_2 ?_
  refine lv_iload_n hx hb d_g_markSkipped_5 rfl (lv_at hl 1 rfl) ?_
  refine ro_SN (v := .long (f_x_only nu)) (As := [.int nu]) (rest := [.long sk, .ref g]) FX hK (c_x_only l D cA nu) trivial kc_x_only km_g_36 ki_x ks_x_only rfl ok_x_only ⟨Nat.le_of_ble_eq_true rfl, Nat.le_of_ble_eq_true rfl⟩ ⟨Nat.zero_le _, Nat.zero_le _⟩ hl.1 rfl (Nat.le_of_ble_eq_true rfl) d_g_markSkipped_6 ?_
  refine lv_lor hx hb d_g_markSkipped_9 ?_
  refine va_put (D := D) (v := .long (sk ||| (f_x_only nu))) (ty := .long) hx hb hts i_g t_g t_g_ok n_g hown hK.1 hP hD hS 0 rfl rfl 4 (by decide) (hts _ kf_g_26) (fun _ h9 => h9) rfl (by decide +kernel) rfl rfl (Nat.le_of_ble_eq_true rfl) d_g_markSkipped_10 (fun H locs hP hD hS => ?_)
  have hP : va_P D classes [(g, .inr (1, [.ref pa, .ref re, .int sz, .long bu, .long (sk ||| (f_x_only nu))])), (pa, .inl (cA 0, 40, .inr (.inl ps))), (re, .inl (cA 0, 40, .inr (.inl rs)))] H := hP
  have hD : va_D A [(g, .inr (1, [.ref pa, .ref re, .int sz, .long bu, .long (sk ||| (f_x_only nu))])), (pa, .inl (cA 0, 40, .inr (.inl ps))), (re, .inl (cA 0, 40, .inr (.inl rs)))] := hD
  exact mu_vret FX hS (by rw [show (f_g_markSkipped sk nu) = sk ||| (f_x_only nu) from (by rw [f_g_markSkipped])]; exact ⟨rfl, hP, hD⟩) d_g_markSkipped_13
theorem d_g_add_0 : decode b_g_add 0 = .ok (.aload_n 0, 1) := by decide +kernel
theorem d_g_add_1 : decode b_g_add 1 = .ok (.getfield 18, 3) := by decide +kernel
theorem d_g_add_4 : decode b_g_add 4 = .ok (.invokestatic 29, 3) := by decide +kernel
theorem d_g_add_7 : decode b_g_add 7 = .ok (.ifCond .ne 5, 3) := by decide +kernel
theorem d_g_add_10 : decode b_g_add 10 = .ok (.iconst (-1), 1) := by decide +kernel
theorem d_g_add_11 : decode b_g_add 11 = .ok (.ireturn, 1) := by decide +kernel
theorem d_g_add_12 : decode b_g_add 12 = .ok (.aload_n 0, 1) := by decide +kernel
theorem d_g_add_13 : decode b_g_add 13 = .ok (.getfield 18, 3) := by decide +kernel
theorem d_g_add_16 : decode b_g_add 16 = .ok (.istore_n 3, 1) := by decide +kernel
theorem d_g_add_17 : decode b_g_add 17 = .ok (.iload_n 3, 1) := by decide +kernel
theorem d_g_add_18 : decode b_g_add 18 = .ok (.invokestatic 36, 3) := by decide +kernel
theorem d_g_add_21 : decode b_g_add 21 = .ok (.lstore 4, 2) := by decide +kernel
theorem d_g_add_23 : decode b_g_add 23 = .ok (.iconst 0, 1) := by decide +kernel
theorem d_g_add_24 : decode b_g_add 24 = .ok (.istore 6, 2) := by decide +kernel
theorem d_g_add_26 : decode b_g_add 26 = .ok (.iload 6, 2) := by decide +kernel
theorem d_g_add_28 : decode b_g_add 28 = .ok (.iload_n 3, 1) := by decide +kernel
theorem d_g_add_29 : decode b_g_add 29 = .ok (.if_icmp .ge 30, 3) := by decide +kernel
theorem d_g_add_32 : decode b_g_add 32 = .ok (.lload_n 1, 1) := by decide +kernel
theorem d_g_add_33 : decode b_g_add 33 = .ok (.iload 6, 2) := by decide +kernel
theorem d_g_add_35 : decode b_g_add 35 = .ok (.invokestatic 40, 3) := by decide +kernel
theorem d_g_add_38 : decode b_g_add 38 = .ok (.ifCond .eq 15, 3) := by decide +kernel
theorem d_g_add_41 : decode b_g_add 41 = .ok (.lload 4, 2) := by decide +kernel
theorem d_g_add_43 : decode b_g_add 43 = .ok (.aload_n 0, 1) := by decide +kernel
theorem d_g_add_44 : decode b_g_add 44 = .ok (.getfield 15, 3) := by decide +kernel
theorem d_g_add_47 : decode b_g_add 47 = .ok (.iload 6, 2) := by decide +kernel
theorem d_g_add_49 : decode b_g_add 49 = .ok (.laload, 1) := by decide +kernel
theorem d_g_add_50 : decode b_g_add 50 = .ok (.lor, 1) := by decide +kernel
theorem d_g_add_51 : decode b_g_add 51 = .ok (.lstore 4, 2) := by decide +kernel
theorem d_g_add_53 : decode b_g_add 53 = .ok (.iinc 6 1, 3) := by decide +kernel
theorem d_g_add_56 : decode b_g_add 56 = .ok (.goto (-30), 3) := by decide +kernel
theorem d_g_add_59 : decode b_g_add 59 = .ok (.aload_n 0, 1) := by decide +kernel
theorem d_g_add_60 : decode b_g_add 60 = .ok (.getfield 9, 3) := by decide +kernel
theorem d_g_add_63 : decode b_g_add 63 = .ok (.iload_n 3, 1) := by decide +kernel
theorem d_g_add_64 : decode b_g_add 64 = .ok (.lload_n 1, 1) := by decide +kernel
theorem d_g_add_65 : decode b_g_add 65 = .ok (.lastore, 1) := by decide +kernel
theorem d_g_add_66 : decode b_g_add 66 = .ok (.aload_n 0, 1) := by decide +kernel
theorem d_g_add_67 : decode b_g_add 67 = .ok (.getfield 15, 3) := by decide +kernel
theorem d_g_add_70 : decode b_g_add 70 = .ok (.iload_n 3, 1) := by decide +kernel
theorem d_g_add_71 : decode b_g_add 71 = .ok (.lload 4, 2) := by decide +kernel
theorem d_g_add_73 : decode b_g_add 73 = .ok (.lastore, 1) := by decide +kernel
theorem d_g_add_74 : decode b_g_add 74 = .ok (.aload_n 0, 1) := by decide +kernel
theorem d_g_add_75 : decode b_g_add 75 = .ok (.dup, 1) := by decide +kernel
theorem d_g_add_76 : decode b_g_add 76 = .ok (.getfield 18, 3) := by decide +kernel
theorem d_g_add_79 : decode b_g_add 79 = .ok (.iconst 1, 1) := by decide +kernel
theorem d_g_add_80 : decode b_g_add 80 = .ok (.iadd, 1) := by decide +kernel
theorem d_g_add_81 : decode b_g_add 81 = .ok (.putfield 18, 3) := by decide +kernel
theorem d_g_add_84 : decode b_g_add 84 = .ok (.iload_n 3, 1) := by decide +kernel
theorem d_g_add_85 : decode b_g_add 85 = .ok (.ireturn, 1) := by decide +kernel
def L_g_add_26 (ps : Nat → Int64) (rs : Nat → Int64) (sz : Int32) (zs : Int64) : Nat → Int64 → Int32 → Int32 × (Nat → Int64) × (Nat → Int64) × Int32
  | 0, _, _ => (0, ps, rs, 0)
  | n + 1, ac, xi => if sz ≤ xi then
    ((sz, vp_updL ps sz.toNatClampNeg zs, vp_updL rs sz.toNatClampNeg ac, sz + 1))
  else
    (if (f_x_contains zs xi) = true then
      (L_g_add_26 ps rs sz zs n (ac ||| (rs xi.toNatClampNeg)) (xi + 1))
    else
      (L_g_add_26 ps rs sz zs n ac (xi + 1)))
theorem L_g_add_26_s (ps : Nat → Int64) (rs : Nat → Int64) (sz : Int32) (zs : Int64) (n : Nat) (ac : Int64) (xi : Int32) : L_g_add_26 ps rs sz zs (n + 1) ac xi = if sz ≤ xi then
    ((sz, vp_updL ps sz.toNatClampNeg zs, vp_updL rs sz.toNatClampNeg ac, sz + 1))
  else
    (if (f_x_contains zs xi) = true then
      (L_g_add_26 ps rs sz zs n (ac ||| (rs xi.toNatClampNeg)) (xi + 1))
    else
      (L_g_add_26 ps rs sz zs n ac (xi + 1))) := rfl
def f_g_add (ps : Nat → Int64) (rs : Nat → Int64) (sz : Int32) (zs : Int64) : Int32 × (Nat → Int64) × (Nat → Int64) × Int32 := if (f_x_isNumber sz) = true then
    (L_g_add_26 ps rs sz zs 41 (f_x_only sz) 0)
  else
    (((-1), ps, rs, sz))
set_option maxHeartbeats 4000000 in
set_option maxRecDepth 100000 in
theorem c_g_add (l : Launch) (D : va_G) (cA : Nat → ClassId) (g pa re : Nat) (ps rs : Nat → Int64) (sz : Int32) (bu sk : Int64) (zs : Int64) : Met l y_g_add (.code y_g_add b_g_add 7 (some .int) :: tb) (rmd 2) (Pro D cA [.ref g, .long zs] (fun H0 => va_P D classes [(g, .inr (1, [.ref pa, .ref re, .int sz, .long bu, .long sk])), (pa, .inl (cA 0, 40, .inr (.inl ps))), (re, .inl (cA 0, 40, .inr (.inl rs)))] H0 ∧ va_D (fun _ => True) [(g, .inr (1, [.ref pa, .ref re, .int sz, .long bu, .long sk])), (pa, .inl (cA 0, 40, .inr (.inl ps))), (re, .inl (cA 0, 40, .inr (.inl rs)))])) (Qmu (aw [(g, .inr (1, [.ref pa, .ref re, .int sz, .long bu, .long sk])), (pa, .inl (cA 0, 40, .inr (.inl ps))), (re, .inl (cA 0, 40, .inr (.inl rs)))]) (fun v0 H0 => v0 = some (.int ((f_g_add ps rs sz zs).1)) ∧ va_P D classes [(g, .inr (1, [.ref pa, .ref re, .int ((f_g_add ps rs sz zs).2.2.2), .long bu, .long sk])), (pa, .inl (cA 0, 40, .inr (.inl ((f_g_add ps rs sz zs).2.1)))), (re, .inl (cA 0, 40, .inr (.inl ((f_g_add ps rs sz zs).2.2.1))))] H0 ∧ va_D (aw [(g, .inr (1, [.ref pa, .ref re, .int sz, .long bu, .long sk])), (pa, .inl (cA 0, 40, .inr (.inl ps))), (re, .inl (cA 0, 40, .inr (.inl rs)))]) [(g, .inr (1, [.ref pa, .ref re, .int ((f_g_add ps rs sz zs).2.2.2), .long bu, .long sk])), (pa, .inl (cA 0, 40, .inr (.inl ((f_g_add ps rs sz zs).2.1)))), (re, .inl (cA 0, 40, .inr (.inl ((f_g_add ps rs sz zs).2.2.1))))])) 0 0 (aw [(g, .inr (1, [.ref pa, .ref re, .int sz, .long bu, .long sk])), (pa, .inl (cA 0, 40, .inr (.inl ps))), (re, .inl (cA 0, 40, .inr (.inl rs)))]) := by
  refine ro_in (by decide) (Nat.le_of_ble_eq_true rfl) (fun p e s m below meth c ls FX hnm hK hP hl => ?_)
  have hl : lv_has ls 7 [(0, .ref g), (1, .long zs)] := hl
  obtain ⟨hP, hD0⟩ := hP
  have hP : va_P D classes [(g, .inr (1, [.ref pa, .ref re, .int sz, .long bu, .long sk])), (pa, .inl (cA 0, 40, .inr (.inl ps))), (re, .inl (cA 0, 40, .inr (.inl rs)))] s.heap := hP
  have hD : va_D (aw [(g, .inr (1, [.ref pa, .ref re, .int sz, .long bu, .long sk])), (pa, .inl (cA 0, 40, .inr (.inl ps))), (re, .inl (cA 0, 40, .inr (.inl rs)))]) [(g, .inr (1, [.ref pa, .ref re, .int sz, .long bu, .long sk])), (pa, .inl (cA 0, 40, .inr (.inl ps))), (re, .inl (cA 0, 40, .inr (.inl rs)))] := aw_self hD0
  generalize (aw [(g, .inr (1, [.ref pa, .ref re, .int sz, .long bu, .long sk])), (pa, .inl (cA 0, 40, .inr (.inl ps))), (re, .inl (cA 0, 40, .inr (.inl rs)))]) = A at hD ⊢
  have hS : va_S A s.heap s.heap [] := va_S.rf
  generalize ([.ref g, .long zs] : List Value).toArray = args at FX ⊢
  obtain ⟨hx, hb, hml, hown, hts, hr, hlk⟩ := id FX
  refine lv_aload_n hx hb d_g_add_0 rfl (lv_at hl 0 rfl) ?_
  refine ro_get (v := .int sz) FX hK hP 0 2 rfl rfl rfl i_g (by decide) kf_g_18 d_g_add_1 ?_
  refine ro_SN (v := .int (bz (f_x_isNumber sz))) (As := [.int sz]) (rest := []) FX hK (c_x_isNumber l D cA sz) trivial kc_x_isNumber km_g_29 ki_x ks_x_isNumber rfl ok_x_isNumber ⟨Nat.le_of_ble_eq_true rfl, Nat.le_of_ble_eq_true rfl⟩ ⟨Nat.zero_le _, Nat.zero_le _⟩ hl.1 rfl (Nat.le_of_ble_eq_true rfl) d_g_add_4 ?_
  refine lv_if_ne (tgt := 12) hx hb d_g_add_7 (by decide) (fun c1 => ?_) (fun c1 => ?_)
  · have c1 := bz_t c1
    obtain ⟨j, hj, hjs⟩ := num_nI c1
    refine lv_aload_n hx hb d_g_add_12 rfl (lv_at hl 0 rfl) ?_
    refine ro_get (v := .int sz) FX hK hP 0 2 rfl rfl rfl i_g (by decide) kf_g_18 d_g_add_13 ?_
    refine lv_istore_n (lv' := [(3, .int sz), (0, .ref g), (1, .long zs)]) hx hb d_g_add_16 rfl hl (by decide) rfl (fun ls hl => ?_)
    refine lv_iload_n hx hb d_g_add_17 rfl (lv_at hl 0 rfl) ?_
    refine ro_SN (v := .long (f_x_only sz)) (As := [.int sz]) (rest := []) FX hK (c_x_only l D cA sz) trivial kc_x_only km_g_36 ki_x ks_x_only rfl ok_x_only ⟨Nat.le_of_ble_eq_true rfl, Nat.le_of_ble_eq_true rfl⟩ ⟨Nat.zero_le _, Nat.zero_le _⟩ hl.1 rfl (Nat.le_of_ble_eq_true rfl) d_g_add_18 ?_
    refine lv_lstore (lv' := [(4, .long (f_x_only sz)), (3, .int sz), (0, .ref g), (1, .long zs)]) hx hb d_g_add_21 hl (by decide) rfl (fun ls hl => ?_)
    refine lv_iconst (v := 0) hx hb d_g_add_23 (by decide) ?_
    refine lv_istore (lv' := [(6, .int 0), (4, .long (f_x_only sz)), (3, .int sz), (0, .ref g), (1, .long zs)]) hx hb d_g_add_24 hl (by decide) rfl (fun ls hl => ?_)
    have loop : ∀ (n k : Nat) (ac : Int64) (xi : Int32) (ls : Array Slot), k + n = 41 → k ≤ 40 → xi = nI k → lv_has ls 7 [(0, .ref g), (1, .long zs), (3, .int sz), (4, .long ac), (6, .int xi)] → W p l e (rmd 2) s m args below meth c s.heap [] 0 0 (MQ below (Qmu A (fun v0 H0 => v0 = some (.int ((L_g_add_26 ps rs sz zs n ac xi).1)) ∧ va_P D classes [(g, .inr (1, [.ref pa, .ref re, .int ((L_g_add_26 ps rs sz zs n ac xi).2.2.2), .long bu, .long sk])), (pa, .inl (cA 0, 40, .inr (.inl ((L_g_add_26 ps rs sz zs n ac xi).2.1)))), (re, .inl (cA 0, 40, .inr (.inl ((L_g_add_26 ps rs sz zs n ac xi).2.2.1))))] H0 ∧ va_D A [(g, .inr (1, [.ref pa, .ref re, .int ((L_g_add_26 ps rs sz zs n ac xi).2.2.2), .long bu, .long sk])), (pa, .inl (cA 0, 40, .inr (.inl ((L_g_add_26 ps rs sz zs n ac xi).2.1)))), (re, .inl (cA 0, 40, .inr (.inl ((L_g_add_26 ps rs sz zs n ac xi).2.2.1))))])) args s 0 0 A) (F0 m 26 ls []) := by
      intro n
      induction n with
      | zero =>
        intro k ac xi ls h1 h2
        exact absurd h1 (by omega)
      | succ n ih =>
        intro k ac xi ls hkn hk hxi hl
        refine lv_iload hx hb d_g_add_26 (lv_at hl 4 rfl) ?_
        refine lv_iload_n hx hb d_g_add_28 rfl (lv_at hl 2 rfl) ?_
        refine lv_icmp_ge (tgt := 59) hx hb d_g_add_29 (by decide) (fun c2 => ?_) (fun c2 => ?_)
        · have c2 := c2
          refine lv_aload_n hx hb d_g_add_59 rfl (lv_at hl 0 rfl) ?_
          refine ro_get (v := .ref pa) FX hK hP 0 0 rfl rfl rfl i_g (by decide) kf_g_9 d_g_add_60 ?_
          refine lv_iload_n hx hb d_g_add_63 rfl (lv_at hl 2 rfl) ?_
          refine lv_lload_n hx hb d_g_add_64 rfl (lv_at hl 1 rfl) ?_
          refine va_last (x := zs) hx hb hK.1 hP hD hS 1 0 rfl rfl (vin hjs hj (by decide)) d_g_add_65 (fun H locs hP hD hS => ?_)
          have hP : va_P D classes [(g, .inr (1, [.ref pa, .ref re, .int sz, .long bu, .long sk])), (pa, .inl (cA 0, 40, .inr (.inl (vp_updL ps sz.toNatClampNeg zs)))), (re, .inl (cA 0, 40, .inr (.inl rs)))] H := hP
          have hD : va_D A [(g, .inr (1, [.ref pa, .ref re, .int sz, .long bu, .long sk])), (pa, .inl (cA 0, 40, .inr (.inl (vp_updL ps sz.toNatClampNeg zs)))), (re, .inl (cA 0, 40, .inr (.inl rs)))] := hD
          refine lv_aload_n hx hb d_g_add_66 rfl (lv_at hl 0 rfl) ?_
          refine ro_get (v := .ref re) FX hK hP 0 1 rfl rfl rfl i_g (by decide) kf_g_15 d_g_add_67 ?_
          refine lv_iload_n hx hb d_g_add_70 rfl (lv_at hl 2 rfl) ?_
          refine lv_lload hx hb d_g_add_71 (lv_at hl 3 rfl) ?_
          refine va_last (x := ac) hx hb hK.1 hP hD hS 2 0 rfl rfl (vin hjs hj (by decide)) d_g_add_73 (fun H locs hP hD hS => ?_)
          have hP : va_P D classes [(g, .inr (1, [.ref pa, .ref re, .int sz, .long bu, .long sk])), (pa, .inl (cA 0, 40, .inr (.inl (vp_updL ps sz.toNatClampNeg zs)))), (re, .inl (cA 0, 40, .inr (.inl (vp_updL rs sz.toNatClampNeg ac))))] H := hP
          have hD : va_D A [(g, .inr (1, [.ref pa, .ref re, .int sz, .long bu, .long sk])), (pa, .inl (cA 0, 40, .inr (.inl (vp_updL ps sz.toNatClampNeg zs)))), (re, .inl (cA 0, 40, .inr (.inl (vp_updL rs sz.toNatClampNeg ac))))] := hD
          refine lv_aload_n hx hb d_g_add_74 rfl (lv_at hl 0 rfl) ?_
          refine lv_dup hx hb d_g_add_75 rfl ?_
          refine ro_get (v := .int sz) FX hK hP 0 2 rfl rfl rfl i_g (by decide) kf_g_18 d_g_add_76 ?_
          refine lv_iconst (v := 1) hx hb d_g_add_79 (by decide) ?_
          refine lv_iadd hx hb d_g_add_80 ?_
          refine va_put (D := D) (v := .int (sz + 1)) (ty := .int) hx hb hts i_g t_g t_g_ok n_g hown hK.1 hP hD hS 0 rfl rfl 2 (by decide) (hts _ kf_g_18) (fun _ h9 => h9) rfl (by decide +kernel) rfl rfl (Nat.le_of_ble_eq_true rfl) d_g_add_81 (fun H locs hP hD hS => ?_)
          have hP : va_P D classes [(g, .inr (1, [.ref pa, .ref re, .int (sz + 1), .long bu, .long sk])), (pa, .inl (cA 0, 40, .inr (.inl (vp_updL ps sz.toNatClampNeg zs)))), (re, .inl (cA 0, 40, .inr (.inl (vp_updL rs sz.toNatClampNeg ac))))] H := hP
          have hD : va_D A [(g, .inr (1, [.ref pa, .ref re, .int (sz + 1), .long bu, .long sk])), (pa, .inl (cA 0, 40, .inr (.inl (vp_updL ps sz.toNatClampNeg zs)))), (re, .inl (cA 0, 40, .inr (.inl (vp_updL rs sz.toNatClampNeg ac))))] := hD
          refine lv_iload_n hx hb d_g_add_84 rfl (lv_at hl 2 rfl) ?_
          exact mu_iret FX hS (by rw [show (L_g_add_26 ps rs sz zs (n + 1) ac xi) = (sz, vp_updL ps sz.toNatClampNeg zs, vp_updL rs sz.toNatClampNeg ac, sz + 1) from (by rw [L_g_add_26_s, if_pos c2])]; exact ⟨rfl, hP, hD⟩) d_g_add_85
        · have c2 := c2
          have hk1 : k < j := k_lt hxi hjs c2 (by omega)
          refine lv_lload_n hx hb d_g_add_32 rfl (lv_at hl 1 rfl) ?_
          refine lv_iload hx hb d_g_add_33 (lv_at hl 4 rfl) ?_
          refine ro_SN (v := .int (bz (f_x_contains zs xi))) (As := [.long zs, .int xi]) (rest := []) FX hK (c_x_contains l D cA zs xi) trivial kc_x_contains km_g_40 ki_x ks_x_contains rfl ok_x_contains ⟨Nat.le_of_ble_eq_true rfl, Nat.le_of_ble_eq_true rfl⟩ ⟨Nat.zero_le _, Nat.zero_le _⟩ hl.1 rfl (Nat.le_of_ble_eq_true rfl) d_g_add_35 ?_
          refine lv_if_eq (tgt := 53) hx hb d_g_add_38 (by decide) (fun c3 => ?_) (fun c3 => ?_)
          · have c3 := bz_f c3
            refine lv_iinc (v := xi + 1) (lv' := [(6, .int (xi + 1)), (0, .ref g), (1, .long zs), (3, .int sz), (4, .long ac)]) hx hb d_g_add_53 hl (k := 4) rfl rfl (by decide) rfl (fun ls hl => ?_)
            refine lv_goto (tgt := 26) hx hb d_g_add_56 (by decide) ?_
            rw [show (L_g_add_26 ps rs sz zs (n + 1) ac xi) = L_g_add_26 ps rs sz zs n ac (xi + 1) from (by rw [L_g_add_26_s, if_neg c2, if_neg c3])]
            exact ih (k + 1) ac (xi + 1) ls (by omega) (by omega) (by rw [hxi]; exact nI_1 _)  (lv_sub hl [1, 2, 3, 4, 0] rfl)
          · have c3 := bz_t c3
            refine lv_lload hx hb d_g_add_41 (lv_at hl 3 rfl) ?_
            refine lv_aload_n hx hb d_g_add_43 rfl (lv_at hl 0 rfl) ?_
            refine ro_get (v := .ref re) FX hK hP 0 1 rfl rfl rfl i_g (by decide) kf_g_15 d_g_add_44 ?_
            refine lv_iload hx hb d_g_add_47 (lv_at hl 4 rfl) ?_
            refine va_lald hx hb hK.1 hP 2 0 rfl rfl (vin hxi (Nat.lt_of_lt_of_le hk1 (by omega)) (by decide)) d_g_add_49 ?_
            refine lv_lor hx hb d_g_add_50 ?_
            refine lv_lstore (lv' := [(4, .long (ac ||| (rs xi.toNatClampNeg))), (0, .ref g), (1, .long zs), (3, .int sz), (6, .int xi)]) hx hb d_g_add_51 hl (by decide) rfl (fun ls hl => ?_)
            refine lv_iinc (v := xi + 1) (lv' := [(6, .int (xi + 1)), (4, .long (ac ||| (rs xi.toNatClampNeg))), (0, .ref g), (1, .long zs), (3, .int sz)]) hx hb d_g_add_53 hl (k := 4) rfl rfl (by decide) rfl (fun ls hl => ?_)
            refine lv_goto (tgt := 26) hx hb d_g_add_56 (by decide) ?_
            rw [show (L_g_add_26 ps rs sz zs (n + 1) ac xi) = L_g_add_26 ps rs sz zs n (ac ||| (rs xi.toNatClampNeg)) (xi + 1) from (by rw [L_g_add_26_s, if_neg c2, if_pos c3])]
            exact ih (k + 1) (ac ||| (rs xi.toNatClampNeg)) (xi + 1) ls (by omega) (by omega) (by rw [hxi]; exact nI_1 _)  (lv_sub hl [2, 3, 4, 1, 0] rfl)
    rw [show (f_g_add ps rs sz zs) = L_g_add_26 ps rs sz zs 41 (f_x_only sz) 0 from (by rw [f_g_add, if_pos c1])]
    exact loop 41 0 (f_x_only sz) 0 ls rfl (Nat.zero_le _) rfl  (lv_sub hl [3, 4, 2, 1, 0] rfl)
  · have c1 := bz_f c1
    refine lv_iconst (v := (-1)) hx hb d_g_add_10 (by decide) ?_
    exact mu_iret FX hS (by rw [show (f_g_add ps rs sz zs) = ((-1), ps, rs, sz) from (by rw [f_g_add, if_neg c1])]; exact ⟨rfl, hP, hD⟩) d_g_add_11
end
section
theorem d_t_init_0 : decode b_t_init 0 = .ok (.aload_n 0, 1) := by decide +kernel
theorem d_t_init_1 : decode b_t_init 1 = .ok (.invokespecial 3, 3) := by decide +kernel
theorem d_t_init_4 : decode b_t_init 4 = .ok (.aload_n 0, 1) := by decide +kernel
theorem d_t_init_5 : decode b_t_init 5 = .ok (.aload_n 1, 1) := by decide +kernel
theorem d_t_init_6 : decode b_t_init 6 = .ok (.putfield 9, 3) := by decide +kernel
theorem d_t_init_9 : decode b_t_init 9 = .ok (.aload_n 0, 1) := by decide +kernel
theorem d_t_init_10 : decode b_t_init 10 = .ok (.bipush 40, 2) := by decide +kernel
theorem d_t_init_12 : decode b_t_init 12 = .ok (.newarray .long, 2) := by decide +kernel
theorem d_t_init_14 : decode b_t_init 14 = .ok (.putfield 15, 3) := by decide +kernel
theorem d_t_init_17 : decode b_t_init 17 = .ok (.aload_n 0, 1) := by decide +kernel
theorem d_t_init_18 : decode b_t_init 18 = .ok (.lconst 0, 1) := by decide +kernel
theorem d_t_init_19 : decode b_t_init 19 = .ok (.putfield 19, 3) := by decide +kernel
theorem d_t_init_22 : decode b_t_init 22 = .ok (.aload_n 0, 1) := by decide +kernel
theorem d_t_init_23 : decode b_t_init 23 = .ok (.lconst 0, 1) := by decide +kernel
theorem d_t_init_24 : decode b_t_init 24 = .ok (.putfield 23, 3) := by decide +kernel
theorem d_t_init_27 : decode b_t_init 27 = .ok (.aload_n 0, 1) := by decide +kernel
theorem d_t_init_28 : decode b_t_init 28 = .ok (.iconst 0, 1) := by decide +kernel
theorem d_t_init_29 : decode b_t_init 29 = .ok (.putfield 26, 3) := by decide +kernel
theorem d_t_init_32 : decode b_t_init 32 = .ok (.aload_n 0, 1) := by decide +kernel
theorem d_t_init_33 : decode b_t_init 33 = .ok (.iconst (-1), 1) := by decide +kernel
theorem d_t_init_34 : decode b_t_init 34 = .ok (.putfield 30, 3) := by decide +kernel
theorem d_t_init_37 : decode b_t_init 37 = .ok (.aload_n 0, 1) := by decide +kernel
theorem d_t_init_38 : decode b_t_init 38 = .ok (.iconst 0, 1) := by decide +kernel
theorem d_t_init_39 : decode b_t_init 39 = .ok (.putfield 34, 3) := by decide +kernel
theorem d_t_init_42 : decode b_t_init 42 = .ok (.aload_n 0, 1) := by decide +kernel
theorem d_t_init_43 : decode b_t_init 43 = .ok (.iconst 1, 1) := by decide +kernel
theorem d_t_init_44 : decode b_t_init 44 = .ok (.putfield 37, 3) := by decide +kernel
theorem d_t_init_47 : decode b_t_init 47 = .ok (.aload_n 0, 1) := by decide +kernel
theorem d_t_init_48 : decode b_t_init 48 = .ok (.bipush 100, 2) := by decide +kernel
theorem d_t_init_50 : decode b_t_init 50 = .ok (.putfield 40, 3) := by decide +kernel
theorem d_t_init_53 : decode b_t_init 53 = .ok (.aload_n 0, 1) := by decide +kernel
theorem d_t_init_54 : decode b_t_init 54 = .ok (.iconst 0, 1) := by decide +kernel
theorem d_t_init_55 : decode b_t_init 55 = .ok (.putfield 43, 3) := by decide +kernel
theorem d_t_init_58 : decode b_t_init 58 = .ok (.aload_n 0, 1) := by decide +kernel
theorem d_t_init_59 : decode b_t_init 59 = .ok (.iconst 0, 1) := by decide +kernel
theorem d_t_init_60 : decode b_t_init 60 = .ok (.putfield 46, 3) := by decide +kernel
theorem d_t_init_63 : decode b_t_init 63 = .ok (.return_, 1) := by decide +kernel
set_option maxHeartbeats 4000000 in
set_option maxRecDepth 100000 in
theorem c_t_init (l : Launch) (D : va_G) (cA : Nat → ClassId) (t : Nat) (gg : Nat) (sz : Nat) : Met l y_t_init (.code y_t_init b_t_init 2 none :: tb) (rma 1 1 40) (Pro D cA [.ref t, .ref gg] (fun H0 => H0.size = sz ∧ va_P D classes [(t, .inr (2, [.null, .null, .long 0, .long 0, .int (bz false), .int 0, .int 0, .int 0, .int 0, .int 0, .int 0]))] H0 ∧ va_D (fun _ => True) [(t, .inr (2, [.null, .null, .long 0, .long 0, .int (bz false), .int 0, .int 0, .int 0, .int 0, .int 0, .int 0]))])) (Qmu (va_A [(t, .inr (2, [.null, .null, .long 0, .long 0, .int (bz false), .int 0, .int 0, .int 0, .int 0, .int 0, .int 0]))] sz) (fun v0 H0 => v0 = none ∧ ∃ n0 : Nat, va_P D classes [(t, .inr (2, [.ref gg, .ref n0, .long 0, .long 0, .int (bz false), .int (-1), .int 0, .int 1, .int 100, .int 0, .int 0])), (n0, .inl (cA 0, 40, .inr (.inl (fun _ => 0))))] H0 ∧ va_D (va_A [(t, .inr (2, [.null, .null, .long 0, .long 0, .int (bz false), .int 0, .int 0, .int 0, .int 0, .int 0, .int 0]))] sz) [(t, .inr (2, [.ref gg, .ref n0, .long 0, .long 0, .int (bz false), .int (-1), .int 0, .int 1, .int 100, .int 0, .int 0])), (n0, .inl (cA 0, 40, .inr (.inl (fun _ => 0))))])) 1 40 (va_A [(t, .inr (2, [.null, .null, .long 0, .long 0, .int (bz false), .int 0, .int 0, .int 0, .int 0, .int 0, .int 0]))] sz) := by
  refine ro_in (by decide) (Nat.le_of_ble_eq_true rfl) (fun p e s m below meth c ls FX hnm hK hP hl => ?_)
  have hl : lv_has ls 2 [(0, .ref t), (1, .ref gg)] := hl
  obtain ⟨hsz, hP, hD0⟩ := hP
  subst hsz
  have hP : va_P D classes [(t, .inr (2, [.null, .null, .long 0, .long 0, .int (bz false), .int 0, .int 0, .int 0, .int 0, .int 0, .int 0]))] s.heap := hP
  have hD := hD0.self (sz := s.heap.size)
  generalize hAe : va_A [(t, .inr (2, [.null, .null, .long 0, .long 0, .int (bz false), .int 0, .int 0, .int 0, .int 0, .int 0, .int 0]))] s.heap.size = A at hD ⊢
  have hA : ∀ q : Nat, s.heap.size ≤ q → A q := fun q h => by rw [← hAe]; exact Or.inr h
  have hS : va_S A s.heap s.heap [] := va_S.rf
  generalize ([.ref t, .ref gg] : List Value).toArray = args at FX ⊢
  obtain ⟨hx, hb, hml, hown, hts, hr, hlk⟩ := id FX
  have hin : meth.name = "<init>" := hnm
  refine lv_aload_n hx hb d_t_init_0 rfl (lv_at hl 0 rfl) ?_
  refine W.objInit hx hb hown (hts _ km_t_3) (hts _ ks_objInit) (hts _ kc_objInit) rfl (by rw [hml]; exact hl.1) rfl d_t_init_1 (Nat.le_of_ble_eq_true rfl) (Nat.le_of_ble_eq_true rfl) ?_
  refine W.eq (g2 := F0 m 4 ls []) rfl ?_
  refine lv_aload_n hx hb d_t_init_4 rfl (lv_at hl 0 rfl) ?_
  refine lv_aload_n hx hb d_t_init_5 rfl (lv_at hl 1 rfl) ?_
  refine va_putF (D := D) (v := .ref gg) (ty := (.object "CulpritSearch$Graph")) hx hb hts i_t t_t t_t_ok n_t hown hK.1 hP hD hS 0 rfl rfl 0 (by decide) (hts _ kf_t_9) (fun _ h9 => h9) rfl hin rfl (by decide +kernel) rfl rfl (Nat.le_of_ble_eq_true rfl) d_t_init_6 (fun H locs hP hD hS => ?_)
  have hP : va_P D classes [(t, .inr (2, [.ref gg, .null, .long 0, .long 0, .int (bz false), .int 0, .int 0, .int 0, .int 0, .int 0, .int 0]))] H := hP
  have hD : va_D A [(t, .inr (2, [.ref gg, .null, .long 0, .long 0, .int (bz false), .int 0, .int 0, .int 0, .int 0, .int 0, .int 0]))] := hD
  refine lv_aload_n hx hb d_t_init_9 rfl (lv_at hl 0 rfl) ?_
  refine lv_bipush (v := 40) hx hb d_t_init_10 (by decide) ?_
  refine va_newa (atype := .long) (ty := .long) (a0 := (40, .inr (.inl (fun _ => 0)))) hx hb (hts _ ka_long) rfl hK.1 hP hD hS hA (fun _ => rfl) (by decide) rfl (by decide) (Nat.le_of_ble_eq_true rfl) (Nat.le_of_ble_eq_true rfl) d_t_init_12 (fun q1 cL H hKK hP hD hS => ?_)
  obtain rfl := arr_same 0 rfl hK hKK (fun _ _ => ra_prim (fun _ h => by cases h))
  have hP : va_P D classes [(t, .inr (2, [.ref gg, .null, .long 0, .long 0, .int (bz false), .int 0, .int 0, .int 0, .int 0, .int 0, .int 0])), (q1, .inl (cA 0, 40, .inr (.inl (fun _ => 0))))] H := hP
  have hD : va_D A [(t, .inr (2, [.ref gg, .null, .long 0, .long 0, .int (bz false), .int 0, .int 0, .int 0, .int 0, .int 0, .int 0])), (q1, .inl (cA 0, 40, .inr (.inl (fun _ => 0))))] := hD
  refine va_putF (D := D) (v := .ref q1) (ty := (.array .long)) hx hb hts i_t t_t t_t_ok n_t hown hK.1 hP hD hS 0 rfl rfl 1 (by decide) (hts _ kf_t_15) (fun _ h9 => h9) rfl hin rfl (by decide +kernel) rfl rfl (Nat.le_of_ble_eq_true rfl) d_t_init_14 (fun H locs hP hD hS => ?_)
  have hP : va_P D classes [(t, .inr (2, [.ref gg, .ref q1, .long 0, .long 0, .int (bz false), .int 0, .int 0, .int 0, .int 0, .int 0, .int 0])), (q1, .inl (cA 0, 40, .inr (.inl (fun _ => 0))))] H := hP
  have hD : va_D A [(t, .inr (2, [.ref gg, .ref q1, .long 0, .long 0, .int (bz false), .int 0, .int 0, .int 0, .int 0, .int 0, .int 0])), (q1, .inl (cA 0, 40, .inr (.inl (fun _ => 0))))] := hD
  refine lv_aload_n hx hb d_t_init_17 rfl (lv_at hl 0 rfl) ?_
  refine lv_lconst (v := 0) hx hb d_t_init_18 (by decide) ?_
  refine va_put (D := D) (v := .long 0) (ty := .long) hx hb hts i_t t_t t_t_ok n_t hown hK.1 hP hD hS 0 rfl rfl 2 (by decide) (hts _ kf_t_19) (fun _ h9 => h9) rfl (by decide +kernel) rfl rfl (Nat.le_of_ble_eq_true rfl) d_t_init_19 (fun H locs hP hD hS => ?_)
  have hP : va_P D classes [(t, .inr (2, [.ref gg, .ref q1, .long 0, .long 0, .int (bz false), .int 0, .int 0, .int 0, .int 0, .int 0, .int 0])), (q1, .inl (cA 0, 40, .inr (.inl (fun _ => 0))))] H := hP
  have hD : va_D A [(t, .inr (2, [.ref gg, .ref q1, .long 0, .long 0, .int (bz false), .int 0, .int 0, .int 0, .int 0, .int 0, .int 0])), (q1, .inl (cA 0, 40, .inr (.inl (fun _ => 0))))] := hD
  refine lv_aload_n hx hb d_t_init_22 rfl (lv_at hl 0 rfl) ?_
  refine lv_lconst (v := 0) hx hb d_t_init_23 (by decide) ?_
  refine va_put (D := D) (v := .long 0) (ty := .long) hx hb hts i_t t_t t_t_ok n_t hown hK.1 hP hD hS 0 rfl rfl 3 (by decide) (hts _ kf_t_23) (fun _ h9 => h9) rfl (by decide +kernel) rfl rfl (Nat.le_of_ble_eq_true rfl) d_t_init_24 (fun H locs hP hD hS => ?_)
  have hP : va_P D classes [(t, .inr (2, [.ref gg, .ref q1, .long 0, .long 0, .int (bz false), .int 0, .int 0, .int 0, .int 0, .int 0, .int 0])), (q1, .inl (cA 0, 40, .inr (.inl (fun _ => 0))))] H := hP
  have hD : va_D A [(t, .inr (2, [.ref gg, .ref q1, .long 0, .long 0, .int (bz false), .int 0, .int 0, .int 0, .int 0, .int 0, .int 0])), (q1, .inl (cA 0, 40, .inr (.inl (fun _ => 0))))] := hD
  refine lv_aload_n hx hb d_t_init_27 rfl (lv_at hl 0 rfl) ?_
  refine lv_iconst (v := 0) hx hb d_t_init_28 (by decide) ?_
  refine W.eq (g2 := F0 m 29 ls [.int (bz false), .ref t]) rfl ?_
  refine va_put (D := D) (v := .int (bz false)) (ty := .boolean) hx hb hts i_t t_t t_t_ok n_t hown hK.1 hP hD hS 0 rfl rfl 4 (by decide) (hts _ kf_t_26) (fun _ h9 => h9) rfl (by decide +kernel) (bz_n _) (bz_ft _) (Nat.le_of_ble_eq_true rfl) d_t_init_29 (fun H locs hP hD hS => ?_)
  have hP : va_P D classes [(t, .inr (2, [.ref gg, .ref q1, .long 0, .long 0, .int (bz false), .int 0, .int 0, .int 0, .int 0, .int 0, .int 0])), (q1, .inl (cA 0, 40, .inr (.inl (fun _ => 0))))] H := hP
  have hD : va_D A [(t, .inr (2, [.ref gg, .ref q1, .long 0, .long 0, .int (bz false), .int 0, .int 0, .int 0, .int 0, .int 0, .int 0])), (q1, .inl (cA 0, 40, .inr (.inl (fun _ => 0))))] := hD
  refine lv_aload_n hx hb d_t_init_32 rfl (lv_at hl 0 rfl) ?_
  refine lv_iconst (v := (-1)) hx hb d_t_init_33 (by decide) ?_
  refine va_put (D := D) (v := .int (-1)) (ty := .int) hx hb hts i_t t_t t_t_ok n_t hown hK.1 hP hD hS 0 rfl rfl 5 (by decide) (hts _ kf_t_30) (fun _ h9 => h9) rfl (by decide +kernel) rfl rfl (Nat.le_of_ble_eq_true rfl) d_t_init_34 (fun H locs hP hD hS => ?_)
  have hP : va_P D classes [(t, .inr (2, [.ref gg, .ref q1, .long 0, .long 0, .int (bz false), .int (-1), .int 0, .int 0, .int 0, .int 0, .int 0])), (q1, .inl (cA 0, 40, .inr (.inl (fun _ => 0))))] H := hP
  have hD : va_D A [(t, .inr (2, [.ref gg, .ref q1, .long 0, .long 0, .int (bz false), .int (-1), .int 0, .int 0, .int 0, .int 0, .int 0])), (q1, .inl (cA 0, 40, .inr (.inl (fun _ => 0))))] := hD
  refine lv_aload_n hx hb d_t_init_37 rfl (lv_at hl 0 rfl) ?_
  refine lv_iconst (v := 0) hx hb d_t_init_38 (by decide) ?_
  refine va_put (D := D) (v := .int 0) (ty := .int) hx hb hts i_t t_t t_t_ok n_t hown hK.1 hP hD hS 0 rfl rfl 6 (by decide) (hts _ kf_t_34) (fun _ h9 => h9) rfl (by decide +kernel) rfl rfl (Nat.le_of_ble_eq_true rfl) d_t_init_39 (fun H locs hP hD hS => ?_)
  have hP : va_P D classes [(t, .inr (2, [.ref gg, .ref q1, .long 0, .long 0, .int (bz false), .int (-1), .int 0, .int 0, .int 0, .int 0, .int 0])), (q1, .inl (cA 0, 40, .inr (.inl (fun _ => 0))))] H := hP
  have hD : va_D A [(t, .inr (2, [.ref gg, .ref q1, .long 0, .long 0, .int (bz false), .int (-1), .int 0, .int 0, .int 0, .int 0, .int 0])), (q1, .inl (cA 0, 40, .inr (.inl (fun _ => 0))))] := hD
  refine lv_aload_n hx hb d_t_init_42 rfl (lv_at hl 0 rfl) ?_
  refine lv_iconst (v := 1) hx hb d_t_init_43 (by decide) ?_
  refine va_put (D := D) (v := .int 1) (ty := .int) hx hb hts i_t t_t t_t_ok n_t hown hK.1 hP hD hS 0 rfl rfl 7 (by decide) (hts _ kf_t_37) (fun _ h9 => h9) rfl (by decide +kernel) rfl rfl (Nat.le_of_ble_eq_true rfl) d_t_init_44 (fun H locs hP hD hS => ?_)
  have hP : va_P D classes [(t, .inr (2, [.ref gg, .ref q1, .long 0, .long 0, .int (bz false), .int (-1), .int 0, .int 1, .int 0, .int 0, .int 0])), (q1, .inl (cA 0, 40, .inr (.inl (fun _ => 0))))] H := hP
  have hD : va_D A [(t, .inr (2, [.ref gg, .ref q1, .long 0, .long 0, .int (bz false), .int (-1), .int 0, .int 1, .int 0, .int 0, .int 0])), (q1, .inl (cA 0, 40, .inr (.inl (fun _ => 0))))] := hD
  refine lv_aload_n hx hb d_t_init_47 rfl (lv_at hl 0 rfl) ?_
  refine lv_bipush (v := 100) hx hb d_t_init_48 (by decide) ?_
  refine va_put (D := D) (v := .int 100) (ty := .int) hx hb hts i_t t_t t_t_ok n_t hown hK.1 hP hD hS 0 rfl rfl 8 (by decide) (hts _ kf_t_40) (fun _ h9 => h9) rfl (by decide +kernel) rfl rfl (Nat.le_of_ble_eq_true rfl) d_t_init_50 (fun H locs hP hD hS => ?_)
  have hP : va_P D classes [(t, .inr (2, [.ref gg, .ref q1, .long 0, .long 0, .int (bz false), .int (-1), .int 0, .int 1, .int 100, .int 0, .int 0])), (q1, .inl (cA 0, 40, .inr (.inl (fun _ => 0))))] H := hP
  have hD : va_D A [(t, .inr (2, [.ref gg, .ref q1, .long 0, .long 0, .int (bz false), .int (-1), .int 0, .int 1, .int 100, .int 0, .int 0])), (q1, .inl (cA 0, 40, .inr (.inl (fun _ => 0))))] := hD
  refine lv_aload_n hx hb d_t_init_53 rfl (lv_at hl 0 rfl) ?_
  refine lv_iconst (v := 0) hx hb d_t_init_54 (by decide) ?_
  refine va_put (D := D) (v := .int 0) (ty := .int) hx hb hts i_t t_t t_t_ok n_t hown hK.1 hP hD hS 0 rfl rfl 9 (by decide) (hts _ kf_t_43) (fun _ h9 => h9) rfl (by decide +kernel) rfl rfl (Nat.le_of_ble_eq_true rfl) d_t_init_55 (fun H locs hP hD hS => ?_)
  have hP : va_P D classes [(t, .inr (2, [.ref gg, .ref q1, .long 0, .long 0, .int (bz false), .int (-1), .int 0, .int 1, .int 100, .int 0, .int 0])), (q1, .inl (cA 0, 40, .inr (.inl (fun _ => 0))))] H := hP
  have hD : va_D A [(t, .inr (2, [.ref gg, .ref q1, .long 0, .long 0, .int (bz false), .int (-1), .int 0, .int 1, .int 100, .int 0, .int 0])), (q1, .inl (cA 0, 40, .inr (.inl (fun _ => 0))))] := hD
  refine lv_aload_n hx hb d_t_init_58 rfl (lv_at hl 0 rfl) ?_
  refine lv_iconst (v := 0) hx hb d_t_init_59 (by decide) ?_
  refine va_put (D := D) (v := .int 0) (ty := .int) hx hb hts i_t t_t t_t_ok n_t hown hK.1 hP hD hS 0 rfl rfl 10 (by decide) (hts _ kf_t_46) (fun _ h9 => h9) rfl (by decide +kernel) rfl rfl (Nat.le_of_ble_eq_true rfl) d_t_init_60 (fun H locs hP hD hS => ?_)
  have hP : va_P D classes [(t, .inr (2, [.ref gg, .ref q1, .long 0, .long 0, .int (bz false), .int (-1), .int 0, .int 1, .int 100, .int 0, .int 0])), (q1, .inl (cA 0, 40, .inr (.inl (fun _ => 0))))] H := hP
  have hD : va_D A [(t, .inr (2, [.ref gg, .ref q1, .long 0, .long 0, .int (bz false), .int (-1), .int 0, .int 1, .int 100, .int 0, .int 0])), (q1, .inl (cA 0, 40, .inr (.inl (fun _ => 0))))] := hD
  have hP : va_P D classes [(t, .inr (2, [.ref gg, .ref q1, .long 0, .long 0, .int (bz false), .int (-1), .int 0, .int 1, .int 100, .int 0, .int 0])), (q1, .inl (cA 0, 40, .inr (.inl (fun _ => 0))))] H := hP.sub [0, 1] rfl
  have hD : va_D A [(t, .inr (2, [.ref gg, .ref q1, .long 0, .long 0, .int (bz false), .int (-1), .int 0, .int 1, .int 100, .int 0, .int 0])), (q1, .inl (cA 0, 40, .inr (.inl (fun _ => 0))))] := hD.sub [0, 1] (by decide) rfl
  exact mu_vret FX hS ⟨rfl, q1, hP, hD⟩ d_t_init_63
theorem d_t_isSearched_0 : decode b_t_isSearched 0 = .ok (.aload_n 0, 1) := by decide +kernel
theorem d_t_isSearched_1 : decode b_t_isSearched 1 = .ok (.getfield 26, 3) := by decide +kernel
theorem d_t_isSearched_4 : decode b_t_isSearched 4 = .ok (.ireturn, 1) := by decide +kernel
def f_t_isSearched (se : Bool) : Bool := se
set_option maxHeartbeats 4000000 in
set_option maxRecDepth 100000 in
theorem c_t_isSearched (l : Launch) (D : va_G) (cA : Nat → ClassId) (t wa : Nat) (go cl : Int64) (se : Bool) (bad fp fq su an sks : Int32) (wt : Nat → Int64) (g pa re : Nat) (ps rs : Nat → Int64) (sz : Int32) (bu sk : Int64) : Met l y_t_isSearched (.code y_t_isSearched b_t_isSearched 1 (some .boolean) :: tb) (rmd 0) (Pro D cA [.ref t] (va_P D classes [(t, .inr (2, [.ref g, .ref wa, .long go, .long cl, .int (bz se), .int bad, .int fp, .int fq, .int su, .int an, .int sks])), (wa, .inl (cA 0, 40, .inr (.inl wt))), (g, .inr (1, [.ref pa, .ref re, .int sz, .long bu, .long sk])), (pa, .inl (cA 0, 40, .inr (.inl ps))), (re, .inl (cA 0, 40, .inr (.inl rs)))])) (Qro (.int (bz (f_t_isSearched se)))) 0 0 nof := by
  refine ro_in (by decide) (Nat.le_of_ble_eq_true rfl) (fun p e s m below meth c ls FX hnm hK hP hl => ?_)
  have hl : lv_has ls 1 [(0, .ref t)] := hl
  have hP : va_P D classes [(t, .inr (2, [.ref g, .ref wa, .long go, .long cl, .int (bz se), .int bad, .int fp, .int fq, .int su, .int an, .int sks])), (wa, .inl (cA 0, 40, .inr (.inl wt))), (g, .inr (1, [.ref pa, .ref re, .int sz, .long bu, .long sk])), (pa, .inl (cA 0, 40, .inr (.inl ps))), (re, .inl (cA 0, 40, .inr (.inl rs)))] s.heap := hP
  generalize ([.ref t] : List Value).toArray = args at FX ⊢
  obtain ⟨hx, hb, hml, hown, hts, hr, hlk⟩ := id FX
  refine lv_aload_n hx hb d_t_isSearched_0 rfl (lv_at hl 0 rfl) ?_
  refine ro_get (v := .int (bz se)) FX hK hP 0 4 rfl rfl rfl i_t (by decide) kf_t_26 d_t_isSearched_1 ?_
  exact ro_zret FX (by rw [f_t_isSearched] <;> rfl) d_t_isSearched_4
theorem d_t_isCleared_0 : decode b_t_isCleared 0 = .ok (.aload_n 0, 1) := by decide +kernel
theorem d_t_isCleared_1 : decode b_t_isCleared 1 = .ok (.getfield 23, 3) := by decide +kernel
theorem d_t_isCleared_4 : decode b_t_isCleared 4 = .ok (.iload_n 1, 1) := by decide +kernel
theorem d_t_isCleared_5 : decode b_t_isCleared 5 = .ok (.invokestatic 49, 3) := by decide +kernel
theorem d_t_isCleared_8 : decode b_t_isCleared 8 = .ok (.ireturn, 1) := by decide +kernel
def f_t_isCleared (cl : Int64) (nu : Int32) : Bool := (f_x_contains cl nu)
set_option maxHeartbeats 4000000 in
set_option maxRecDepth 100000 in
theorem c_t_isCleared (l : Launch) (D : va_G) (cA : Nat → ClassId) (t wa : Nat) (go cl : Int64) (se : Bool) (bad fp fq su an sks : Int32) (wt : Nat → Int64) (g pa re : Nat) (ps rs : Nat → Int64) (sz : Int32) (bu sk : Int64) (nu : Int32) : Met l y_t_isCleared (.code y_t_isCleared b_t_isCleared 2 (some .boolean) :: tb) (rmd 2) (Pro D cA [.ref t, .int nu] (va_P D classes [(t, .inr (2, [.ref g, .ref wa, .long go, .long cl, .int (bz se), .int bad, .int fp, .int fq, .int su, .int an, .int sks])), (wa, .inl (cA 0, 40, .inr (.inl wt))), (g, .inr (1, [.ref pa, .ref re, .int sz, .long bu, .long sk])), (pa, .inl (cA 0, 40, .inr (.inl ps))), (re, .inl (cA 0, 40, .inr (.inl rs)))])) (Qro (.int (bz (f_t_isCleared cl nu)))) 0 0 nof := by
  refine ro_in (by decide) (Nat.le_of_ble_eq_true rfl) (fun p e s m below meth c ls FX hnm hK hP hl => ?_)
  have hl : lv_has ls 2 [(0, .ref t), (1, .int nu)] := hl
  have hP : va_P D classes [(t, .inr (2, [.ref g, .ref wa, .long go, .long cl, .int (bz se), .int bad, .int fp, .int fq, .int su, .int an, .int sks])), (wa, .inl (cA 0, 40, .inr (.inl wt))), (g, .inr (1, [.ref pa, .ref re, .int sz, .long bu, .long sk])), (pa, .inl (cA 0, 40, .inr (.inl ps))), (re, .inl (cA 0, 40, .inr (.inl rs)))] s.heap := hP
  generalize ([.ref t, .int nu] : List Value).toArray = args at FX ⊢
  obtain ⟨hx, hb, hml, hown, hts, hr, hlk⟩ := id FX
  refine lv_aload_n hx hb d_t_isCleared_0 rfl (lv_at hl 0 rfl) ?_
  refine ro_get (v := .long cl) FX hK hP 0 3 rfl rfl rfl i_t (by decide) kf_t_23 d_t_isCleared_1 ?_
  refine lv_iload_n hx hb d_t_isCleared_4 rfl (lv_at hl 1 rfl) ?_
  refine ro_SN (v := .int (bz (f_x_contains cl nu))) (As := [.long cl, .int nu]) (rest := []) FX hK (c_x_contains l D cA cl nu) trivial kc_x_contains km_t_49 ki_x ks_x_contains rfl ok_x_contains ⟨Nat.le_of_ble_eq_true rfl, Nat.le_of_ble_eq_true rfl⟩ ⟨Nat.zero_le _, Nat.zero_le _⟩ hl.1 rfl (Nat.le_of_ble_eq_true rfl) d_t_isCleared_5 ?_
  exact ro_zret FX (by rw [f_t_isCleared] <;> rfl) d_t_isCleared_8
theorem d_t_weightOf_0 : decode b_t_weightOf 0 = .ok (.iload_n 1, 1) := by decide +kernel
theorem d_t_weightOf_1 : decode b_t_weightOf 1 = .ok (.ifCond .lt 21, 3) := by decide +kernel
theorem d_t_weightOf_4 : decode b_t_weightOf 4 = .ok (.iload_n 1, 1) := by decide +kernel
theorem d_t_weightOf_5 : decode b_t_weightOf 5 = .ok (.aload_n 0, 1) := by decide +kernel
theorem d_t_weightOf_6 : decode b_t_weightOf 6 = .ok (.getfield 15, 3) := by decide +kernel
theorem d_t_weightOf_9 : decode b_t_weightOf 9 = .ok (.arraylength, 1) := by decide +kernel
theorem d_t_weightOf_10 : decode b_t_weightOf 10 = .ok (.if_icmp .ge 12, 3) := by decide +kernel
theorem d_t_weightOf_13 : decode b_t_weightOf 13 = .ok (.aload_n 0, 1) := by decide +kernel
theorem d_t_weightOf_14 : decode b_t_weightOf 14 = .ok (.getfield 15, 3) := by decide +kernel
theorem d_t_weightOf_17 : decode b_t_weightOf 17 = .ok (.iload_n 1, 1) := by decide +kernel
theorem d_t_weightOf_18 : decode b_t_weightOf 18 = .ok (.laload, 1) := by decide +kernel
theorem d_t_weightOf_19 : decode b_t_weightOf 19 = .ok (.goto 4, 3) := by decide +kernel
theorem d_t_weightOf_22 : decode b_t_weightOf 22 = .ok (.lconst 0, 1) := by decide +kernel
theorem d_t_weightOf_23 : decode b_t_weightOf 23 = .ok (.lreturn, 1) := by decide +kernel
def f_t_weightOf (wt : Nat → Int64) (nu : Int32) : Int64 := if nu < 0 then
    (0)
  else
    (if 40 ≤ nu then
      (0)
    else
      (wt nu.toNatClampNeg))
set_option maxHeartbeats 4000000 in
set_option maxRecDepth 100000 in
theorem c_t_weightOf (l : Launch) (D : va_G) (cA : Nat → ClassId) (t wa : Nat) (go cl : Int64) (se : Bool) (bad fp fq su an sks : Int32) (wt : Nat → Int64) (g pa re : Nat) (ps rs : Nat → Int64) (sz : Int32) (bu sk : Int64) (nu : Int32) : Met l y_t_weightOf (.code y_t_weightOf b_t_weightOf 2 (some .long) :: tb) (rmd 0) (Pro D cA [.ref t, .int nu] (va_P D classes [(t, .inr (2, [.ref g, .ref wa, .long go, .long cl, .int (bz se), .int bad, .int fp, .int fq, .int su, .int an, .int sks])), (wa, .inl (cA 0, 40, .inr (.inl wt))), (g, .inr (1, [.ref pa, .ref re, .int sz, .long bu, .long sk])), (pa, .inl (cA 0, 40, .inr (.inl ps))), (re, .inl (cA 0, 40, .inr (.inl rs)))])) (Qro (.long (f_t_weightOf wt nu))) 0 0 nof := by
  refine ro_in (by decide) (Nat.le_of_ble_eq_true rfl) (fun p e s m below meth c ls FX hnm hK hP hl => ?_)
  have hl : lv_has ls 2 [(0, .ref t), (1, .int nu)] := hl
  have hP : va_P D classes [(t, .inr (2, [.ref g, .ref wa, .long go, .long cl, .int (bz se), .int bad, .int fp, .int fq, .int su, .int an, .int sks])), (wa, .inl (cA 0, 40, .inr (.inl wt))), (g, .inr (1, [.ref pa, .ref re, .int sz, .long bu, .long sk])), (pa, .inl (cA 0, 40, .inr (.inl ps))), (re, .inl (cA 0, 40, .inr (.inl rs)))] s.heap := hP
  generalize ([.ref t, .int nu] : List Value).toArray = args at FX ⊢
  obtain ⟨hx, hb, hml, hown, hts, hr, hlk⟩ := id FX
  refine lv_iload_n hx hb d_t_weightOf_0 rfl (lv_at hl 1 rfl) ?_
  refine lv_if_lt (tgt := 22) hx hb d_t_weightOf_1 (by decide) (fun c1 => ?_) (fun c1 => ?_)
  · have c1 := c1
    refine lv_lconst (v := 0) hx hb d_t_weightOf_22 (by decide) ?_
    exact ro_lret FX (by rw [f_t_weightOf, if_pos c1]) d_t_weightOf_23
  · have c1 := c1
    refine lv_iload_n hx hb d_t_weightOf_4 rfl (lv_at hl 1 rfl) ?_
    refine lv_aload_n hx hb d_t_weightOf_5 rfl (lv_at hl 0 rfl) ?_
    refine ro_get (v := .ref wa) FX hK hP 0 1 rfl rfl rfl i_t (by decide) kf_t_15 d_t_weightOf_6 ?_
    refine va_alen (v := 40) hx hb hK.1 hP 1 0 rfl rfl rfl d_t_weightOf_9 ?_
    refine lv_icmp_ge (tgt := 22) hx hb d_t_weightOf_10 (by decide) (fun c2 => ?_) (fun c2 => ?_)
    · have c2 := c2
      refine lv_lconst (v := 0) hx hb d_t_weightOf_22 (by decide) ?_
      exact ro_lret FX (by rw [f_t_weightOf, if_neg c1, if_pos c2]) d_t_weightOf_23
    · have c2 := c2
      refine lv_aload_n hx hb d_t_weightOf_13 rfl (lv_at hl 0 rfl) ?_
      refine ro_get (v := .ref wa) FX hK hP 0 1 rfl rfl rfl i_t (by decide) kf_t_15 d_t_weightOf_14 ?_
      refine lv_iload_n hx hb d_t_weightOf_17 rfl (lv_at hl 1 rfl) ?_
      refine va_lald hx hb hK.1 hP 1 0 rfl rfl (vin2 c1 c2) d_t_weightOf_18 ?_
      refine lv_goto (tgt := 23) hx hb d_t_weightOf_19 (by decide) ?_
      exact ro_lret FX (by rw [f_t_weightOf, if_neg c1, if_neg c2]) d_t_weightOf_23
theorem d_t_weightWithin_0 : decode b_t_weightWithin 0 = .ok (.lconst 0, 1) := by decide +kernel
theorem d_t_weightWithin_1 : decode b_t_weightWithin 1 = .ok (.lstore_n 3, 1) := by decide +kernel
theorem d_t_weightWithin_2 : decode b_t_weightWithin 2 = .ok (.iconst 0, 1) := by decide +kernel
theorem d_t_weightWithin_3 : decode b_t_weightWithin 3 = .ok (.istore 5, 2) := by decide +kernel
theorem d_t_weightWithin_5 : decode b_t_weightWithin 5 = .ok (.iload 5, 2) := by decide +kernel
theorem d_t_weightWithin_7 : decode b_t_weightWithin 7 = .ok (.aload_n 0, 1) := by decide +kernel
theorem d_t_weightWithin_8 : decode b_t_weightWithin 8 = .ok (.getfield 15, 3) := by decide +kernel
theorem d_t_weightWithin_11 : decode b_t_weightWithin 11 = .ok (.arraylength, 1) := by decide +kernel
theorem d_t_weightWithin_12 : decode b_t_weightWithin 12 = .ok (.if_icmp .ge 28, 3) := by decide +kernel
theorem d_t_weightWithin_15 : decode b_t_weightWithin 15 = .ok (.lload_n 1, 1) := by decide +kernel
theorem d_t_weightWithin_16 : decode b_t_weightWithin 16 = .ok (.iload 5, 2) := by decide +kernel
theorem d_t_weightWithin_18 : decode b_t_weightWithin 18 = .ok (.invokestatic 49, 3) := by decide +kernel
theorem d_t_weightWithin_21 : decode b_t_weightWithin 21 = .ok (.ifCond .eq 13, 3) := by decide +kernel
theorem d_t_weightWithin_24 : decode b_t_weightWithin 24 = .ok (.lload_n 3, 1) := by decide +kernel
theorem d_t_weightWithin_25 : decode b_t_weightWithin 25 = .ok (.aload_n 0, 1) := by decide +kernel
theorem d_t_weightWithin_26 : decode b_t_weightWithin 26 = .ok (.getfield 15, 3) := by decide +kernel
theorem d_t_weightWithin_29 : decode b_t_weightWithin 29 = .ok (.iload 5, 2) := by decide +kernel
theorem d_t_weightWithin_31 : decode b_t_weightWithin 31 = .ok (.laload, 1) := by decide +kernel
theorem d_t_weightWithin_32 : decode b_t_weightWithin 32 = .ok (.ladd, 1) := by decide +kernel
theorem d_t_weightWithin_33 : decode b_t_weightWithin 33 = .ok (.lstore_n 3, 1) := by decide +kernel
theorem d_t_weightWithin_34 : decode b_t_weightWithin 34 = .ok (.iinc 5 1, 3) := by decide +kernel
theorem d_t_weightWithin_37 : decode b_t_weightWithin 37 = .ok (.goto (-32), 3) := by decide +kernel
theorem d_t_weightWithin_40 : decode b_t_weightWithin 40 = .ok (.lload_n 3, 1) := by decide +kernel
theorem d_t_weightWithin_41 : decode b_t_weightWithin 41 = .ok (.lreturn, 1) := by decide +kernel
def L_t_weightWithin_5 (wt : Nat → Int64) (zs : Int64) : Nat → Int64 → Int32 → Int64
  | 0, _, _ => 0
  | n + 1, ac, xi => if 40 ≤ xi then
    (ac)
  else
    (if (f_x_contains zs xi) = true then
      (L_t_weightWithin_5 wt zs n (ac + (wt xi.toNatClampNeg)) (xi + 1))
    else
      (L_t_weightWithin_5 wt zs n ac (xi + 1)))
theorem L_t_weightWithin_5_s (wt : Nat → Int64) (zs : Int64) (n : Nat) (ac : Int64) (xi : Int32) : L_t_weightWithin_5 wt zs (n + 1) ac xi = if 40 ≤ xi then
    (ac)
  else
    (if (f_x_contains zs xi) = true then
      (L_t_weightWithin_5 wt zs n (ac + (wt xi.toNatClampNeg)) (xi + 1))
    else
      (L_t_weightWithin_5 wt zs n ac (xi + 1))) := rfl
def f_t_weightWithin (wt : Nat → Int64) (zs : Int64) : Int64 := L_t_weightWithin_5 wt zs 41 0 0
set_option maxHeartbeats 4000000 in
set_option maxRecDepth 100000 in
theorem c_t_weightWithin (l : Launch) (D : va_G) (cA : Nat → ClassId) (t wa : Nat) (go cl : Int64) (se : Bool) (bad fp fq su an sks : Int32) (wt : Nat → Int64) (g pa re : Nat) (ps rs : Nat → Int64) (sz : Int32) (bu sk : Int64) (zs : Int64) : Met l y_t_weightWithin (.code y_t_weightWithin b_t_weightWithin 6 (some .long) :: tb) (rmd 2) (Pro D cA [.ref t, .long zs] (va_P D classes [(t, .inr (2, [.ref g, .ref wa, .long go, .long cl, .int (bz se), .int bad, .int fp, .int fq, .int su, .int an, .int sks])), (wa, .inl (cA 0, 40, .inr (.inl wt))), (g, .inr (1, [.ref pa, .ref re, .int sz, .long bu, .long sk])), (pa, .inl (cA 0, 40, .inr (.inl ps))), (re, .inl (cA 0, 40, .inr (.inl rs)))])) (Qro (.long (f_t_weightWithin wt zs))) 0 0 nof := by
  refine ro_in (by decide) (Nat.le_of_ble_eq_true rfl) (fun p e s m below meth c ls FX hnm hK hP hl => ?_)
  have hl : lv_has ls 6 [(0, .ref t), (1, .long zs)] := hl
  have hP : va_P D classes [(t, .inr (2, [.ref g, .ref wa, .long go, .long cl, .int (bz se), .int bad, .int fp, .int fq, .int su, .int an, .int sks])), (wa, .inl (cA 0, 40, .inr (.inl wt))), (g, .inr (1, [.ref pa, .ref re, .int sz, .long bu, .long sk])), (pa, .inl (cA 0, 40, .inr (.inl ps))), (re, .inl (cA 0, 40, .inr (.inl rs)))] s.heap := hP
  generalize ([.ref t, .long zs] : List Value).toArray = args at FX ⊢
  obtain ⟨hx, hb, hml, hown, hts, hr, hlk⟩ := id FX
  refine lv_lconst (v := 0) hx hb d_t_weightWithin_0 (by decide) ?_
  refine lv_lstore_n (lv' := [(3, .long 0), (0, .ref t), (1, .long zs)]) hx hb d_t_weightWithin_1 rfl hl (by decide) rfl (fun ls hl => ?_)
  refine lv_iconst (v := 0) hx hb d_t_weightWithin_2 (by decide) ?_
  refine lv_istore (lv' := [(5, .int 0), (3, .long 0), (0, .ref t), (1, .long zs)]) hx hb d_t_weightWithin_3 hl (by decide) rfl (fun ls hl => ?_)
  have loop : ∀ (n k : Nat) (ac : Int64) (xi : Int32) (ls : Array Slot), k + n = 41 → k ≤ 40 → xi = nI k → lv_has ls 6 [(0, .ref t), (1, .long zs), (3, .long ac), (5, .int xi)] → W p l e (rmd 2) s m args below meth c s.heap [] 0 0 (MQ below (Qro (.long (L_t_weightWithin_5 wt zs n ac xi))) args s 0 0 nof) (F0 m 5 ls []) := by
    intro n
    induction n with
    | zero =>
      intro k ac xi ls h1 h2
      exact absurd h1 (by omega)
    | succ n ih =>
      intro k ac xi ls hkn hk hxi hl
      refine lv_iload hx hb d_t_weightWithin_5 (lv_at hl 3 rfl) ?_
      refine lv_aload_n hx hb d_t_weightWithin_7 rfl (lv_at hl 0 rfl) ?_
      refine ro_get (v := .ref wa) FX hK hP 0 1 rfl rfl rfl i_t (by decide) kf_t_15 d_t_weightWithin_8 ?_
      refine va_alen (v := 40) hx hb hK.1 hP 1 0 rfl rfl rfl d_t_weightWithin_11 ?_
      refine lv_icmp_ge (tgt := 40) hx hb d_t_weightWithin_12 (by decide) (fun c1 => ?_) (fun c1 => ?_)
      · have c1 := c1
        refine lv_lload_n hx hb d_t_weightWithin_40 rfl (lv_at hl 2 rfl) ?_
        exact ro_lret FX (by rw [L_t_weightWithin_5_s, if_pos c1]) d_t_weightWithin_41
      · have c1 := c1
        have hk1 : k < 40 := k_lt hxi rfl c1 (by omega)
        refine lv_lload_n hx hb d_t_weightWithin_15 rfl (lv_at hl 1 rfl) ?_
        refine lv_iload hx hb d_t_weightWithin_16 (lv_at hl 3 rfl) ?_
        refine ro_SN (v := .int (bz (f_x_contains zs xi))) (As := [.long zs, .int xi]) (rest := []) FX hK (c_x_contains l D cA zs xi) trivial kc_x_contains km_t_49 ki_x ks_x_contains rfl ok_x_contains ⟨Nat.le_of_ble_eq_true rfl, Nat.le_of_ble_eq_true rfl⟩ ⟨Nat.zero_le _, Nat.zero_le _⟩ hl.1 rfl (Nat.le_of_ble_eq_true rfl) d_t_weightWithin_18 ?_
        refine lv_if_eq (tgt := 34) hx hb d_t_weightWithin_21 (by decide) (fun c2 => ?_) (fun c2 => ?_)
        · have c2 := bz_f c2
          refine lv_iinc (v := xi + 1) (lv' := [(5, .int (xi + 1)), (0, .ref t), (1, .long zs), (3, .long ac)]) hx hb d_t_weightWithin_34 hl (k := 3) rfl rfl (by decide) rfl (fun ls hl => ?_)
          refine lv_goto (tgt := 5) hx hb d_t_weightWithin_37 (by decide) ?_
          refine ro_to (by rw [L_t_weightWithin_5_s, if_neg c1, if_neg c2]) ?_
          exact ih (k + 1) ac (xi + 1) ls (by omega) (by omega) (by rw [hxi]; exact nI_1 _)  (lv_sub hl [1, 2, 3, 0] rfl)
        · have c2 := bz_t c2
          refine lv_lload_n hx hb d_t_weightWithin_24 rfl (lv_at hl 2 rfl) ?_
          refine lv_aload_n hx hb d_t_weightWithin_25 rfl (lv_at hl 0 rfl) ?_
          refine ro_get (v := .ref wa) FX hK hP 0 1 rfl rfl rfl i_t (by decide) kf_t_15 d_t_weightWithin_26 ?_
          refine lv_iload hx hb d_t_weightWithin_29 (lv_at hl 3 rfl) ?_
          refine va_lald hx hb hK.1 hP 1 0 rfl rfl (vin hxi hk1 (by decide)) d_t_weightWithin_31 ?_
          refine lv_ladd hx hb d_t_weightWithin_32 ?_
          refine lv_lstore_n (lv' := [(3, .long (ac + (wt xi.toNatClampNeg))), (0, .ref t), (1, .long zs), (5, .int xi)]) hx hb d_t_weightWithin_33 rfl hl (by decide) rfl (fun ls hl => ?_)
          refine lv_iinc (v := xi + 1) (lv' := [(5, .int (xi + 1)), (3, .long (ac + (wt xi.toNatClampNeg))), (0, .ref t), (1, .long zs)]) hx hb d_t_weightWithin_34 hl (k := 3) rfl rfl (by decide) rfl (fun ls hl => ?_)
          refine lv_goto (tgt := 5) hx hb d_t_weightWithin_37 (by decide) ?_
          refine ro_to (by rw [L_t_weightWithin_5_s, if_neg c1, if_pos c2]) ?_
          exact ih (k + 1) (ac + (wt xi.toNatClampNeg)) (xi + 1) ls (by omega) (by omega) (by rw [hxi]; exact nI_1 _)  (lv_sub hl [2, 3, 1, 0] rfl)
  refine ro_to (by rw [f_t_weightWithin]) ?_
  exact loop 41 0 0 0 ls rfl (Nat.zero_le _) rfl  (lv_sub hl [2, 3, 1, 0] rfl)
theorem d_t_weightOfAll_0 : decode b_t_weightOfAll 0 = .ok (.lconst 0, 1) := by decide +kernel
theorem d_t_weightOfAll_1 : decode b_t_weightOfAll 1 = .ok (.lstore_n 1, 1) := by decide +kernel
theorem d_t_weightOfAll_2 : decode b_t_weightOfAll 2 = .ok (.iconst 0, 1) := by decide +kernel
theorem d_t_weightOfAll_3 : decode b_t_weightOfAll 3 = .ok (.istore_n 3, 1) := by decide +kernel
theorem d_t_weightOfAll_4 : decode b_t_weightOfAll 4 = .ok (.iload_n 3, 1) := by decide +kernel
theorem d_t_weightOfAll_5 : decode b_t_weightOfAll 5 = .ok (.aload_n 0, 1) := by decide +kernel
theorem d_t_weightOfAll_6 : decode b_t_weightOfAll 6 = .ok (.getfield 15, 3) := by decide +kernel
theorem d_t_weightOfAll_9 : decode b_t_weightOfAll 9 = .ok (.arraylength, 1) := by decide +kernel
theorem d_t_weightOfAll_10 : decode b_t_weightOfAll 10 = .ok (.if_icmp .ge 18, 3) := by decide +kernel
theorem d_t_weightOfAll_13 : decode b_t_weightOfAll 13 = .ok (.lload_n 1, 1) := by decide +kernel
theorem d_t_weightOfAll_14 : decode b_t_weightOfAll 14 = .ok (.aload_n 0, 1) := by decide +kernel
theorem d_t_weightOfAll_15 : decode b_t_weightOfAll 15 = .ok (.getfield 15, 3) := by decide +kernel
theorem d_t_weightOfAll_18 : decode b_t_weightOfAll 18 = .ok (.iload_n 3, 1) := by decide +kernel
theorem d_t_weightOfAll_19 : decode b_t_weightOfAll 19 = .ok (.laload, 1) := by decide +kernel
theorem d_t_weightOfAll_20 : decode b_t_weightOfAll 20 = .ok (.ladd, 1) := by decide +kernel
theorem d_t_weightOfAll_21 : decode b_t_weightOfAll 21 = .ok (.lstore_n 1, 1) := by decide +kernel
theorem d_t_weightOfAll_22 : decode b_t_weightOfAll 22 = .ok (.iinc 3 1, 3) := by decide +kernel
theorem d_t_weightOfAll_25 : decode b_t_weightOfAll 25 = .ok (.goto (-21), 3) := by decide +kernel
theorem d_t_weightOfAll_28 : decode b_t_weightOfAll 28 = .ok (.lload_n 1, 1) := by decide +kernel
theorem d_t_weightOfAll_29 : decode b_t_weightOfAll 29 = .ok (.lreturn, 1) := by decide +kernel
def L_t_weightOfAll_4 (wt : Nat → Int64) : Nat → Int64 → Int32 → Int64
  | 0, _, _ => 0
  | n + 1, ac, xi => if 40 ≤ xi then
    (ac)
  else
    (L_t_weightOfAll_4 wt n (ac + (wt xi.toNatClampNeg)) (xi + 1))
theorem L_t_weightOfAll_4_s (wt : Nat → Int64) (n : Nat) (ac : Int64) (xi : Int32) : L_t_weightOfAll_4 wt (n + 1) ac xi = if 40 ≤ xi then
    (ac)
  else
    (L_t_weightOfAll_4 wt n (ac + (wt xi.toNatClampNeg)) (xi + 1)) := rfl
def f_t_weightOfAll (wt : Nat → Int64) : Int64 := L_t_weightOfAll_4 wt 41 0 0
set_option maxHeartbeats 4000000 in
set_option maxRecDepth 100000 in
theorem c_t_weightOfAll (l : Launch) (D : va_G) (cA : Nat → ClassId) (t wa : Nat) (go cl : Int64) (se : Bool) (bad fp fq su an sks : Int32) (wt : Nat → Int64) (g pa re : Nat) (ps rs : Nat → Int64) (sz : Int32) (bu sk : Int64) : Met l y_t_weightOfAll (.code y_t_weightOfAll b_t_weightOfAll 4 (some .long) :: tb) (rmd 0) (Pro D cA [.ref t] (va_P D classes [(t, .inr (2, [.ref g, .ref wa, .long go, .long cl, .int (bz se), .int bad, .int fp, .int fq, .int su, .int an, .int sks])), (wa, .inl (cA 0, 40, .inr (.inl wt))), (g, .inr (1, [.ref pa, .ref re, .int sz, .long bu, .long sk])), (pa, .inl (cA 0, 40, .inr (.inl ps))), (re, .inl (cA 0, 40, .inr (.inl rs)))])) (Qro (.long (f_t_weightOfAll wt))) 0 0 nof := by
  refine ro_in (by decide) (Nat.le_of_ble_eq_true rfl) (fun p e s m below meth c ls FX hnm hK hP hl => ?_)
  have hl : lv_has ls 4 [(0, .ref t)] := hl
  have hP : va_P D classes [(t, .inr (2, [.ref g, .ref wa, .long go, .long cl, .int (bz se), .int bad, .int fp, .int fq, .int su, .int an, .int sks])), (wa, .inl (cA 0, 40, .inr (.inl wt))), (g, .inr (1, [.ref pa, .ref re, .int sz, .long bu, .long sk])), (pa, .inl (cA 0, 40, .inr (.inl ps))), (re, .inl (cA 0, 40, .inr (.inl rs)))] s.heap := hP
  generalize ([.ref t] : List Value).toArray = args at FX ⊢
  obtain ⟨hx, hb, hml, hown, hts, hr, hlk⟩ := id FX
  refine lv_lconst (v := 0) hx hb d_t_weightOfAll_0 (by decide) ?_
  refine lv_lstore_n (lv' := [(1, .long 0), (0, .ref t)]) hx hb d_t_weightOfAll_1 rfl hl (by decide) rfl (fun ls hl => ?_)
  refine lv_iconst (v := 0) hx hb d_t_weightOfAll_2 (by decide) ?_
  refine lv_istore_n (lv' := [(3, .int 0), (1, .long 0), (0, .ref t)]) hx hb d_t_weightOfAll_3 rfl hl (by decide) rfl (fun ls hl => ?_)
  have loop : ∀ (n k : Nat) (ac : Int64) (xi : Int32) (ls : Array Slot), k + n = 41 → k ≤ 40 → xi = nI k → lv_has ls 4 [(0, .ref t), (1, .long ac), (3, .int xi)] → W p l e (rmd 0) s m args below meth c s.heap [] 0 0 (MQ below (Qro (.long (L_t_weightOfAll_4 wt n ac xi))) args s 0 0 nof) (F0 m 4 ls []) := by
    intro n
    induction n with
    | zero =>
      intro k ac xi ls h1 h2
      exact absurd h1 (by omega)
    | succ n ih =>
      intro k ac xi ls hkn hk hxi hl
      refine lv_iload_n hx hb d_t_weightOfAll_4 rfl (lv_at hl 2 rfl) ?_
      refine lv_aload_n hx hb d_t_weightOfAll_5 rfl (lv_at hl 0 rfl) ?_
      refine ro_get (v := .ref wa) FX hK hP 0 1 rfl rfl rfl i_t (by decide) kf_t_15 d_t_weightOfAll_6 ?_
      refine va_alen (v := 40) hx hb hK.1 hP 1 0 rfl rfl rfl d_t_weightOfAll_9 ?_
      refine lv_icmp_ge (tgt := 28) hx hb d_t_weightOfAll_10 (by decide) (fun c1 => ?_) (fun c1 => ?_)
      · have c1 := c1
        refine lv_lload_n hx hb d_t_weightOfAll_28 rfl (lv_at hl 1 rfl) ?_
        exact ro_lret FX (by rw [L_t_weightOfAll_4_s, if_pos c1]) d_t_weightOfAll_29
      · have c1 := c1
        have hk1 : k < 40 := k_lt hxi rfl c1 (by omega)
        refine lv_lload_n hx hb d_t_weightOfAll_13 rfl (lv_at hl 1 rfl) ?_
        refine lv_aload_n hx hb d_t_weightOfAll_14 rfl (lv_at hl 0 rfl) ?_
        refine ro_get (v := .ref wa) FX hK hP 0 1 rfl rfl rfl i_t (by decide) kf_t_15 d_t_weightOfAll_15 ?_
        refine lv_iload_n hx hb d_t_weightOfAll_18 rfl (lv_at hl 2 rfl) ?_
        refine va_lald hx hb hK.1 hP 1 0 rfl rfl (vin hxi hk1 (by decide)) d_t_weightOfAll_19 ?_
        refine lv_ladd hx hb d_t_weightOfAll_20 ?_
        refine lv_lstore_n (lv' := [(1, .long (ac + (wt xi.toNatClampNeg))), (0, .ref t), (3, .int xi)]) hx hb d_t_weightOfAll_21 rfl hl (by decide) rfl (fun ls hl => ?_)
        refine lv_iinc (v := xi + 1) (lv' := [(3, .int (xi + 1)), (1, .long (ac + (wt xi.toNatClampNeg))), (0, .ref t)]) hx hb d_t_weightOfAll_22 hl (k := 2) rfl rfl (by decide) rfl (fun ls hl => ?_)
        refine lv_goto (tgt := 4) hx hb d_t_weightOfAll_25 (by decide) ?_
        refine ro_to (by rw [L_t_weightOfAll_4_s, if_neg c1]) ?_
        exact ih (k + 1) (ac + (wt xi.toNatClampNeg)) (xi + 1) ls (by omega) (by omega) (by rw [hxi]; exact nI_1 _)  (lv_sub hl [2, 1, 0] rfl)
  refine ro_to (by rw [f_t_weightOfAll]) ?_
  exact loop 41 0 0 0 ls rfl (Nat.zero_le _) rfl  (lv_sub hl [2, 1, 0] rfl)
theorem d_t_culprit_0 : decode b_t_culprit 0 = .ok (.aload_n 0, 1) := by decide +kernel
theorem d_t_culprit_1 : decode b_t_culprit 1 = .ok (.getfield 40, 3) := by decide +kernel
theorem d_t_culprit_4 : decode b_t_culprit 4 = .ok (.i2l, 1) := by decide +kernel
theorem d_t_culprit_5 : decode b_t_culprit 5 = .ok (.aload_n 0, 1) := by decide +kernel
theorem d_t_culprit_6 : decode b_t_culprit 6 = .ok (.invokevirtual 70, 3) := by decide +kernel
theorem d_t_culprit_9 : decode b_t_culprit 9 = .ok (.lmul, 1) := by decide +kernel
theorem d_t_culprit_10 : decode b_t_culprit 10 = .ok (.lstore_n 1, 1) := by decide +kernel
theorem d_t_culprit_11 : decode b_t_culprit 11 = .ok (.iconst 0, 1) := by decide +kernel
theorem d_t_culprit_12 : decode b_t_culprit 12 = .ok (.istore_n 3, 1) := by decide +kernel
theorem d_t_culprit_13 : decode b_t_culprit 13 = .ok (.iload_n 3, 1) := by decide +kernel
theorem d_t_culprit_14 : decode b_t_culprit 14 = .ok (.aload_n 0, 1) := by decide +kernel
theorem d_t_culprit_15 : decode b_t_culprit 15 = .ok (.getfield 15, 3) := by decide +kernel
theorem d_t_culprit_18 : decode b_t_culprit 18 = .ok (.arraylength, 1) := by decide +kernel
theorem d_t_culprit_19 : decode b_t_culprit 19 = .ok (.if_icmp .ge 37, 3) := by decide +kernel
theorem d_t_culprit_22 : decode b_t_culprit 22 = .ok (.aload_n 0, 1) := by decide +kernel
theorem d_t_culprit_23 : decode b_t_culprit 23 = .ok (.getfield 15, 3) := by decide +kernel
theorem d_t_culprit_26 : decode b_t_culprit 26 = .ok (.iload_n 3, 1) := by decide +kernel
theorem d_t_culprit_27 : decode b_t_culprit 27 = .ok (.laload, 1) := by decide +kernel
theorem d_t_culprit_28 : decode b_t_culprit 28 = .ok (.lconst 0, 1) := by decide +kernel
theorem d_t_culprit_29 : decode b_t_culprit 29 = .ok (.lcmp, 1) := by decide +kernel
theorem d_t_culprit_30 : decode b_t_culprit 30 = .ok (.ifCond .le 20, 3) := by decide +kernel
theorem d_t_culprit_33 : decode b_t_culprit 33 = .ok (.aload_n 0, 1) := by decide +kernel
theorem d_t_culprit_34 : decode b_t_culprit 34 = .ok (.getfield 15, 3) := by decide +kernel
theorem d_t_culprit_37 : decode b_t_culprit 37 = .ok (.iload_n 3, 1) := by decide +kernel
theorem d_t_culprit_38 : decode b_t_culprit 38 = .ok (.laload, 1) := by decide +kernel
theorem d_t_culprit_39 : decode b_t_culprit 39 = .ok (.ldc2_w 74, 3) := by decide +kernel
theorem d_t_culprit_42 : decode b_t_culprit 42 = .ok (.lmul, 1) := by decide +kernel
theorem d_t_culprit_43 : decode b_t_culprit 43 = .ok (.lload_n 1, 1) := by decide +kernel
theorem d_t_culprit_44 : decode b_t_culprit 44 = .ok (.lcmp, 1) := by decide +kernel
theorem d_t_culprit_45 : decode b_t_culprit 45 = .ok (.ifCond .lt 5, 3) := by decide +kernel
theorem d_t_culprit_48 : decode b_t_culprit 48 = .ok (.iload_n 3, 1) := by decide +kernel
theorem d_t_culprit_49 : decode b_t_culprit 49 = .ok (.ireturn, 1) := by decide +kernel
theorem d_t_culprit_50 : decode b_t_culprit 50 = .ok (.iinc 3 1, 3) := by decide +kernel
theorem d_t_culprit_53 : decode b_t_culprit 53 = .ok (.goto (-40), 3) := by decide +kernel
theorem d_t_culprit_56 : decode b_t_culprit 56 = .ok (.iconst (-1), 1) := by decide +kernel
theorem d_t_culprit_57 : decode b_t_culprit 57 = .ok (.ireturn, 1) := by decide +kernel
def L_t_culprit_13 (su : Int32) (wt : Nat → Int64) : Nat → Int32 → Int32
  | 0, _ => 0
  | n + 1, xi => if 40 ≤ xi then
    ((-1))
  else
    (if 0 < (wt xi.toNatClampNeg) then
      (if ((wt xi.toNatClampNeg) * 100) < (su.toInt64 * (f_t_weightOfAll wt)) then
        (L_t_culprit_13 su wt n (xi + 1))
      else
        (xi))
    else
      (L_t_culprit_13 su wt n (xi + 1)))
theorem L_t_culprit_13_s (su : Int32) (wt : Nat → Int64) (n : Nat) (xi : Int32) : L_t_culprit_13 su wt (n + 1) xi = if 40 ≤ xi then
    ((-1))
  else
    (if 0 < (wt xi.toNatClampNeg) then
      (if ((wt xi.toNatClampNeg) * 100) < (su.toInt64 * (f_t_weightOfAll wt)) then
        (L_t_culprit_13 su wt n (xi + 1))
      else
        (xi))
    else
      (L_t_culprit_13 su wt n (xi + 1))) := rfl
def f_t_culprit (su : Int32) (wt : Nat → Int64) : Int32 := L_t_culprit_13 su wt 41 0
set_option maxHeartbeats 4000000 in
set_option maxRecDepth 100000 in
theorem c_t_culprit (l : Launch) (D : va_G) (cA : Nat → ClassId) (t wa : Nat) (go cl : Int64) (se : Bool) (bad fp fq su an sks : Int32) (wt : Nat → Int64) (g pa re : Nat) (ps rs : Nat → Int64) (sz : Int32) (bu sk : Int64) : Met l y_t_culprit (.code y_t_culprit b_t_culprit 4 (some .int) :: tb) (rmd 1) (Pro D cA [.ref t] (va_P D classes [(t, .inr (2, [.ref g, .ref wa, .long go, .long cl, .int (bz se), .int bad, .int fp, .int fq, .int su, .int an, .int sks])), (wa, .inl (cA 0, 40, .inr (.inl wt))), (g, .inr (1, [.ref pa, .ref re, .int sz, .long bu, .long sk])), (pa, .inl (cA 0, 40, .inr (.inl ps))), (re, .inl (cA 0, 40, .inr (.inl rs)))])) (Qro (.int (f_t_culprit su wt))) 0 0 nof := by
  refine ro_in (by decide) (Nat.le_of_ble_eq_true rfl) (fun p e s m below meth c ls FX hnm hK hP hl => ?_)
  have hl : lv_has ls 4 [(0, .ref t)] := hl
  have hP : va_P D classes [(t, .inr (2, [.ref g, .ref wa, .long go, .long cl, .int (bz se), .int bad, .int fp, .int fq, .int su, .int an, .int sks])), (wa, .inl (cA 0, 40, .inr (.inl wt))), (g, .inr (1, [.ref pa, .ref re, .int sz, .long bu, .long sk])), (pa, .inl (cA 0, 40, .inr (.inl ps))), (re, .inl (cA 0, 40, .inr (.inl rs)))] s.heap := hP
  generalize ([.ref t] : List Value).toArray = args at FX ⊢
  obtain ⟨hx, hb, hml, hown, hts, hr, hlk⟩ := id FX
  refine lv_aload_n hx hb d_t_culprit_0 rfl (lv_at hl 0 rfl) ?_
  refine ro_get (v := .int su) FX hK hP 0 8 rfl rfl rfl i_t (by decide) kf_t_40 d_t_culprit_1 ?_
  refine lv_i2l (v := su.toInt64) hx hb d_t_culprit_4 rfl ?_
  refine lv_aload_n hx hb d_t_culprit_5 rfl (lv_at hl 0 rfl) ?_
  refine ro_V (v := .long (f_t_weightOfAll wt)) (As := []) (rest := [.long su.toInt64]) (q0 := 0) FX hK (c_t_weightOfAll l D cA t wa go cl se bad fp fq su an sks wt g pa re ps rs sz bu sk) hP hP rfl rfl rfl kc_t_weightOfAll km_t_70 ki_t ks_t_weightOfAll ke_t_weightOfAll rfl ok_t_weightOfAll ⟨Nat.le_of_ble_eq_true rfl, Nat.le_of_ble_eq_true rfl⟩ ⟨Nat.zero_le _, Nat.zero_le _⟩ hl.1 rfl (Nat.le_of_ble_eq_true rfl) d_t_culprit_6 ?_
  refine lv_lmul hx hb d_t_culprit_9 ?_
  refine lv_lstore_n (lv' := [(1, .long (su.toInt64 * (f_t_weightOfAll wt))), (0, .ref t)]) hx hb d_t_culprit_10 rfl hl (by decide) rfl (fun ls hl => ?_)
  refine lv_iconst (v := 0) hx hb d_t_culprit_11 (by decide) ?_
  refine lv_istore_n (lv' := [(3, .int 0), (1, .long (su.toInt64 * (f_t_weightOfAll wt))), (0, .ref t)]) hx hb d_t_culprit_12 rfl hl (by decide) rfl (fun ls hl => ?_)
  have loop : ∀ (n k : Nat) (xi : Int32) (ls : Array Slot), k + n = 41 → k ≤ 40 → xi = nI k → lv_has ls 4 [(0, .ref t), (1, .long (su.toInt64 * (f_t_weightOfAll wt))), (3, .int xi)] → W p l e (rmd 1) s m args below meth c s.heap [] 0 0 (MQ below (Qro (.int (L_t_culprit_13 su wt n xi))) args s 0 0 nof) (F0 m 13 ls []) := by
    intro n
    induction n with
    | zero =>
      intro k xi ls h1 h2
      exact absurd h1 (by omega)
    | succ n ih =>
      intro k xi ls hkn hk hxi hl
      refine lv_iload_n hx hb d_t_culprit_13 rfl (lv_at hl 2 rfl) ?_
      refine lv_aload_n hx hb d_t_culprit_14 rfl (lv_at hl 0 rfl) ?_
      refine ro_get (v := .ref wa) FX hK hP 0 1 rfl rfl rfl i_t (by decide) kf_t_15 d_t_culprit_15 ?_
      refine va_alen (v := 40) hx hb hK.1 hP 1 0 rfl rfl rfl d_t_culprit_18 ?_
      refine lv_icmp_ge (tgt := 56) hx hb d_t_culprit_19 (by decide) (fun c1 => ?_) (fun c1 => ?_)
      · have c1 := c1
        refine lv_iconst (v := (-1)) hx hb d_t_culprit_56 (by decide) ?_
        exact ro_iret FX (by rw [L_t_culprit_13_s, if_pos c1]) d_t_culprit_57
      · have c1 := c1
        have hk1 : k < 40 := k_lt hxi rfl c1 (by omega)
        refine lv_aload_n hx hb d_t_culprit_22 rfl (lv_at hl 0 rfl) ?_
        refine ro_get (v := .ref wa) FX hK hP 0 1 rfl rfl rfl i_t (by decide) kf_t_15 d_t_culprit_23 ?_
        refine lv_iload_n hx hb d_t_culprit_26 rfl (lv_at hl 2 rfl) ?_
        refine va_lald hx hb hK.1 hP 1 0 rfl rfl (vin hxi hk1 (by decide)) d_t_culprit_27 ?_
        refine lv_lconst (v := 0) hx hb d_t_culprit_28 (by decide) ?_
        refine W.lcmp hx hb d_t_culprit_29 ?_
        refine lv_if_le (tgt := 50) hx hb d_t_culprit_30 (by decide) (fun c2 => ?_) (fun c2 => ?_)
        · have c2 := cp_le c2
          refine lv_iinc (v := xi + 1) (lv' := [(3, .int (xi + 1)), (0, .ref t), (1, .long (su.toInt64 * (f_t_weightOfAll wt)))]) hx hb d_t_culprit_50 hl (k := 2) rfl rfl (by decide) rfl (fun ls hl => ?_)
          refine lv_goto (tgt := 13) hx hb d_t_culprit_53 (by decide) ?_
          refine ro_to (by rw [L_t_culprit_13_s, if_neg c1, if_neg c2]) ?_
          exact ih (k + 1) (xi + 1) ls (by omega) (by omega) (by rw [hxi]; exact nI_1 _)  (lv_sub hl [1, 2, 0] rfl)
        · have c2 := cp_nle c2
          refine lv_aload_n hx hb d_t_culprit_33 rfl (lv_at hl 0 rfl) ?_
          refine ro_get (v := .ref wa) FX hK hP 0 1 rfl rfl rfl i_t (by decide) kf_t_15 d_t_culprit_34 ?_
          refine lv_iload_n hx hb d_t_culprit_37 rfl (lv_at hl 2 rfl) ?_
          refine va_lald hx hb hK.1 hP 1 0 rfl rfl (vin hxi hk1 (by decide)) d_t_culprit_38 ?_
          refine lv_ldc2 (v := 100) hx hb hown (hts _ kl_t_74) d_t_culprit_39 ?_
          refine lv_lmul hx hb d_t_culprit_42 ?_
          refine lv_lload_n hx hb d_t_culprit_43 rfl (lv_at hl 1 rfl) ?_
          refine W.lcmp hx hb d_t_culprit_44 ?_
          refine lv_if_lt (tgt := 50) hx hb d_t_culprit_45 (by decide) (fun c3 => ?_) (fun c3 => ?_)
          · have c3 := cp_lt c3
            refine lv_iinc (v := xi + 1) (lv' := [(3, .int (xi + 1)), (0, .ref t), (1, .long (su.toInt64 * (f_t_weightOfAll wt)))]) hx hb d_t_culprit_50 hl (k := 2) rfl rfl (by decide) rfl (fun ls hl => ?_)
            refine lv_goto (tgt := 13) hx hb d_t_culprit_53 (by decide) ?_
            refine ro_to (by rw [L_t_culprit_13_s, if_neg c1, if_pos c2, if_pos c3]) ?_
            exact ih (k + 1) (xi + 1) ls (by omega) (by omega) (by rw [hxi]; exact nI_1 _)  (lv_sub hl [1, 2, 0] rfl)
          · have c3 := cp_nlt c3
            refine lv_iload_n hx hb d_t_culprit_48 rfl (lv_at hl 2 rfl) ?_
            exact ro_iret FX (by rw [L_t_culprit_13_s, if_neg c1, if_pos c2, if_neg c3]) d_t_culprit_49
  refine ro_to (by rw [f_t_culprit]) ?_
  exact loop 41 0 0 ls rfl (Nat.zero_le _) rfl  (lv_sub hl [2, 1, 0] rfl)
theorem d_t_mostEven_0 : decode b_t_mostEven 0 = .ok (.aload_n 0, 1) := by decide +kernel
theorem d_t_mostEven_1 : decode b_t_mostEven 1 = .ok (.invokevirtual 70, 3) := by decide +kernel
theorem d_t_mostEven_4 : decode b_t_mostEven 4 = .ok (.lstore_n 1, 1) := by decide +kernel
theorem d_t_mostEven_5 : decode b_t_mostEven 5 = .ok (.iconst (-1), 1) := by decide +kernel
theorem d_t_mostEven_6 : decode b_t_mostEven 6 = .ok (.istore_n 3, 1) := by decide +kernel
theorem d_t_mostEven_7 : decode b_t_mostEven 7 = .ok (.lconst 0, 1) := by decide +kernel
theorem d_t_mostEven_8 : decode b_t_mostEven 8 = .ok (.lstore 4, 2) := by decide +kernel
theorem d_t_mostEven_10 : decode b_t_mostEven 10 = .ok (.iconst 0, 1) := by decide +kernel
theorem d_t_mostEven_11 : decode b_t_mostEven 11 = .ok (.istore 6, 2) := by decide +kernel
theorem d_t_mostEven_13 : decode b_t_mostEven 13 = .ok (.iload 6, 2) := by decide +kernel
theorem d_t_mostEven_15 : decode b_t_mostEven 15 = .ok (.aload_n 0, 1) := by decide +kernel
theorem d_t_mostEven_16 : decode b_t_mostEven 16 = .ok (.getfield 9, 3) := by decide +kernel
theorem d_t_mostEven_19 : decode b_t_mostEven 19 = .ok (.getfield 86, 3) := by decide +kernel
theorem d_t_mostEven_22 : decode b_t_mostEven 22 = .ok (.if_icmp .ge 132, 3) := by decide +kernel
theorem d_t_mostEven_25 : decode b_t_mostEven 25 = .ok (.aload_n 0, 1) := by decide +kernel
theorem d_t_mostEven_26 : decode b_t_mostEven 26 = .ok (.getfield 9, 3) := by decide +kernel
theorem d_t_mostEven_29 : decode b_t_mostEven 29 = .ok (.iload 6, 2) := by decide +kernel
theorem d_t_mostEven_31 : decode b_t_mostEven 31 = .ok (.invokevirtual 89, 3) := by decide +kernel
theorem d_t_mostEven_34 : decode b_t_mostEven 34 = .ok (.ifCond .eq 7, 3) := by decide +kernel
theorem d_t_mostEven_37 : decode b_t_mostEven 37 = .ok (.lconst 0, 1) := by decide +kernel
theorem d_t_mostEven_38 : decode b_t_mostEven 38 = .ok (.goto 16, 3) := by decide +kernel
theorem d_t_mostEven_41 : decode b_t_mostEven 41 = .ok (.aload_n 0, 1) := by decide +kernel
theorem d_t_mostEven_42 : decode b_t_mostEven 42 = .ok (.aload_n 0, 1) := by decide +kernel
theorem d_t_mostEven_43 : decode b_t_mostEven 43 = .ok (.getfield 9, 3) := by decide +kernel
theorem d_t_mostEven_46 : decode b_t_mostEven 46 = .ok (.iload 6, 2) := by decide +kernel
theorem d_t_mostEven_48 : decode b_t_mostEven 48 = .ok (.invokevirtual 57, 3) := by decide +kernel
theorem d_t_mostEven_51 : decode b_t_mostEven 51 = .ok (.invokevirtual 93, 3) := by decide +kernel
theorem d_t_mostEven_54 : decode b_t_mostEven 54 = .ok (.lstore 7, 2) := by decide +kernel
theorem d_t_mostEven_56 : decode b_t_mostEven 56 = .ok (.lload 7, 2) := by decide +kernel
theorem d_t_mostEven_58 : decode b_t_mostEven 58 = .ok (.lconst 0, 1) := by decide +kernel
theorem d_t_mostEven_59 : decode b_t_mostEven 59 = .ok (.lcmp, 1) := by decide +kernel
theorem d_t_mostEven_60 : decode b_t_mostEven 60 = .ok (.ifCond .le 88, 3) := by decide +kernel
theorem d_t_mostEven_63 : decode b_t_mostEven 63 = .ok (.lload 7, 2) := by decide +kernel
theorem d_t_mostEven_65 : decode b_t_mostEven 65 = .ok (.lload_n 1, 1) := by decide +kernel
theorem d_t_mostEven_66 : decode b_t_mostEven 66 = .ok (.lcmp, 1) := by decide +kernel
theorem d_t_mostEven_67 : decode b_t_mostEven 67 = .ok (.ifCond .lt 6, 3) := by decide +kernel
theorem d_t_mostEven_70 : decode b_t_mostEven 70 = .ok (.goto 78, 3) := by decide +kernel
theorem d_t_mostEven_73 : decode b_t_mostEven 73 = .ok (.lload 7, 2) := by decide +kernel
theorem d_t_mostEven_75 : decode b_t_mostEven 75 = .ok (.lload_n 1, 1) := by decide +kernel
theorem d_t_mostEven_76 : decode b_t_mostEven 76 = .ok (.lload 7, 2) := by decide +kernel
theorem d_t_mostEven_78 : decode b_t_mostEven 78 = .ok (.lsub, 1) := by decide +kernel
theorem d_t_mostEven_79 : decode b_t_mostEven 79 = .ok (.lsub, 1) := by decide +kernel
theorem d_t_mostEven_80 : decode b_t_mostEven 80 = .ok (.invokestatic 97, 3) := by decide +kernel
theorem d_t_mostEven_83 : decode b_t_mostEven 83 = .ok (.lstore 9, 2) := by decide +kernel
theorem d_t_mostEven_85 : decode b_t_mostEven 85 = .ok (.lload 9, 2) := by decide +kernel
theorem d_t_mostEven_87 : decode b_t_mostEven 87 = .ok (.lload 4, 2) := by decide +kernel
theorem d_t_mostEven_89 : decode b_t_mostEven 89 = .ok (.lcmp, 1) := by decide +kernel
theorem d_t_mostEven_90 : decode b_t_mostEven 90 = .ok (.ifCond .ne 30, 3) := by decide +kernel
theorem d_t_mostEven_93 : decode b_t_mostEven 93 = .ok (.aload_n 0, 1) := by decide +kernel
theorem d_t_mostEven_94 : decode b_t_mostEven 94 = .ok (.getfield 9, 3) := by decide +kernel
theorem d_t_mostEven_97 : decode b_t_mostEven 97 = .ok (.iload 6, 2) := by decide +kernel
theorem d_t_mostEven_99 : decode b_t_mostEven 99 = .ok (.invokevirtual 102, 3) := by decide +kernel
theorem d_t_mostEven_102 : decode b_t_mostEven 102 = .ok (.ifCond .eq 18, 3) := by decide +kernel
theorem d_t_mostEven_105 : decode b_t_mostEven 105 = .ok (.aload_n 0, 1) := by decide +kernel
theorem d_t_mostEven_106 : decode b_t_mostEven 106 = .ok (.getfield 9, 3) := by decide +kernel
theorem d_t_mostEven_109 : decode b_t_mostEven 109 = .ok (.iload_n 3, 1) := by decide +kernel
theorem d_t_mostEven_110 : decode b_t_mostEven 110 = .ok (.invokevirtual 102, 3) := by decide +kernel
theorem d_t_mostEven_113 : decode b_t_mostEven 113 = .ok (.ifCond .ne 7, 3) := by decide +kernel
theorem d_t_mostEven_116 : decode b_t_mostEven 116 = .ok (.iconst 1, 1) := by decide +kernel
theorem d_t_mostEven_117 : decode b_t_mostEven 117 = .ok (.goto 4, 3) := by decide +kernel
theorem d_t_mostEven_120 : decode b_t_mostEven 120 = .ok (.iconst 0, 1) := by decide +kernel
theorem d_t_mostEven_121 : decode b_t_mostEven 121 = .ok (.istore 11, 2) := by decide +kernel
theorem d_t_mostEven_123 : decode b_t_mostEven 123 = .ok (.iload_n 3, 1) := by decide +kernel
theorem d_t_mostEven_124 : decode b_t_mostEven 124 = .ok (.iconst (-1), 1) := by decide +kernel
theorem d_t_mostEven_125 : decode b_t_mostEven 125 = .ok (.if_icmp .eq 16, 3) := by decide +kernel
theorem d_t_mostEven_128 : decode b_t_mostEven 128 = .ok (.lload 9, 2) := by decide +kernel
theorem d_t_mostEven_130 : decode b_t_mostEven 130 = .ok (.lload 4, 2) := by decide +kernel
theorem d_t_mostEven_132 : decode b_t_mostEven 132 = .ok (.lcmp, 1) := by decide +kernel
theorem d_t_mostEven_133 : decode b_t_mostEven 133 = .ok (.ifCond .lt 8, 3) := by decide +kernel
theorem d_t_mostEven_136 : decode b_t_mostEven 136 = .ok (.iload 11, 2) := by decide +kernel
theorem d_t_mostEven_138 : decode b_t_mostEven 138 = .ok (.ifCond .eq 10, 3) := by decide +kernel
theorem d_t_mostEven_141 : decode b_t_mostEven 141 = .ok (.iload 6, 2) := by decide +kernel
theorem d_t_mostEven_143 : decode b_t_mostEven 143 = .ok (.istore_n 3, 1) := by decide +kernel
theorem d_t_mostEven_144 : decode b_t_mostEven 144 = .ok (.lload 9, 2) := by decide +kernel
theorem d_t_mostEven_146 : decode b_t_mostEven 146 = .ok (.lstore 4, 2) := by decide +kernel
theorem d_t_mostEven_148 : decode b_t_mostEven 148 = .ok (.iinc 6 1, 3) := by decide +kernel
theorem d_t_mostEven_151 : decode b_t_mostEven 151 = .ok (.goto (-138), 3) := by decide +kernel
theorem d_t_mostEven_154 : decode b_t_mostEven 154 = .ok (.iload_n 3, 1) := by decide +kernel
theorem d_t_mostEven_155 : decode b_t_mostEven 155 = .ok (.ireturn, 1) := by decide +kernel
def L_t_mostEven_13 (wt : Nat → Int64) (rs : Nat → Int64) (sz : Int32) (bu : Int64) (sk : Int64) : Nat → Int32 → Int64 → Int32 → Int32
  | 0, _, _, _ => 0
  | n + 1, be, bg, xi => if sz ≤ xi then
    (be)
  else
    (if (f_g_isSkipped sk xi) = true then
      (if 0 < 0 then
        (if 0 < (f_t_weightOfAll wt) then
          (if (if 0 < (0 - ((f_t_weightOfAll wt) - 0)) then (0 - ((f_t_weightOfAll wt) - 0)) else -(0 - ((f_t_weightOfAll wt) - 0))) = bg then
            (if (f_g_isBuilt bu xi) = true then
              (if (f_g_isBuilt bu be) = true then
                (if be = (-1) then
                  (L_t_mostEven_13 wt rs sz bu sk n xi (if 0 < (0 - ((f_t_weightOfAll wt) - 0)) then (0 - ((f_t_weightOfAll wt) - 0)) else -(0 - ((f_t_weightOfAll wt) - 0))) (xi + 1))
                else
                  (if (if 0 < (0 - ((f_t_weightOfAll wt) - 0)) then (0 - ((f_t_weightOfAll wt) - 0)) else -(0 - ((f_t_weightOfAll wt) - 0))) < bg then
                    (L_t_mostEven_13 wt rs sz bu sk n xi (if 0 < (0 - ((f_t_weightOfAll wt) - 0)) then (0 - ((f_t_weightOfAll wt) - 0)) else -(0 - ((f_t_weightOfAll wt) - 0))) (xi + 1))
                  else
                    (L_t_mostEven_13 wt rs sz bu sk n be bg (xi + 1))))
              else
                (if be = (-1) then
                  (L_t_mostEven_13 wt rs sz bu sk n xi (if 0 < (0 - ((f_t_weightOfAll wt) - 0)) then (0 - ((f_t_weightOfAll wt) - 0)) else -(0 - ((f_t_weightOfAll wt) - 0))) (xi + 1))
                else
                  (if (if 0 < (0 - ((f_t_weightOfAll wt) - 0)) then (0 - ((f_t_weightOfAll wt) - 0)) else -(0 - ((f_t_weightOfAll wt) - 0))) < bg then
                    (L_t_mostEven_13 wt rs sz bu sk n xi (if 0 < (0 - ((f_t_weightOfAll wt) - 0)) then (0 - ((f_t_weightOfAll wt) - 0)) else -(0 - ((f_t_weightOfAll wt) - 0))) (xi + 1))
                  else
                    (L_t_mostEven_13 wt rs sz bu sk n xi (if 0 < (0 - ((f_t_weightOfAll wt) - 0)) then (0 - ((f_t_weightOfAll wt) - 0)) else -(0 - ((f_t_weightOfAll wt) - 0))) (xi + 1)))))
            else
              (if be = (-1) then
                (L_t_mostEven_13 wt rs sz bu sk n xi (if 0 < (0 - ((f_t_weightOfAll wt) - 0)) then (0 - ((f_t_weightOfAll wt) - 0)) else -(0 - ((f_t_weightOfAll wt) - 0))) (xi + 1))
              else
                (if (if 0 < (0 - ((f_t_weightOfAll wt) - 0)) then (0 - ((f_t_weightOfAll wt) - 0)) else -(0 - ((f_t_weightOfAll wt) - 0))) < bg then
                  (L_t_mostEven_13 wt rs sz bu sk n xi (if 0 < (0 - ((f_t_weightOfAll wt) - 0)) then (0 - ((f_t_weightOfAll wt) - 0)) else -(0 - ((f_t_weightOfAll wt) - 0))) (xi + 1))
                else
                  (L_t_mostEven_13 wt rs sz bu sk n be bg (xi + 1)))))
          else
            (if be = (-1) then
              (L_t_mostEven_13 wt rs sz bu sk n xi (if 0 < (0 - ((f_t_weightOfAll wt) - 0)) then (0 - ((f_t_weightOfAll wt) - 0)) else -(0 - ((f_t_weightOfAll wt) - 0))) (xi + 1))
            else
              (if (if 0 < (0 - ((f_t_weightOfAll wt) - 0)) then (0 - ((f_t_weightOfAll wt) - 0)) else -(0 - ((f_t_weightOfAll wt) - 0))) < bg then
                (L_t_mostEven_13 wt rs sz bu sk n xi (if 0 < (0 - ((f_t_weightOfAll wt) - 0)) then (0 - ((f_t_weightOfAll wt) - 0)) else -(0 - ((f_t_weightOfAll wt) - 0))) (xi + 1))
              else
                (L_t_mostEven_13 wt rs sz bu sk n be bg (xi + 1)))))
        else
          (L_t_mostEven_13 wt rs sz bu sk n be bg (xi + 1)))
      else
        (L_t_mostEven_13 wt rs sz bu sk n be bg (xi + 1)))
    else
      (if 0 < (f_t_weightWithin wt (f_g_reach rs sz xi)) then
        (if (f_t_weightWithin wt (f_g_reach rs sz xi)) < (f_t_weightOfAll wt) then
          (if (if 0 < ((f_t_weightWithin wt (f_g_reach rs sz xi)) - ((f_t_weightOfAll wt) - (f_t_weightWithin wt (f_g_reach rs sz xi)))) then ((f_t_weightWithin wt (f_g_reach rs sz xi)) - ((f_t_weightOfAll wt) - (f_t_weightWithin wt (f_g_reach rs sz xi)))) else -((f_t_weightWithin wt (f_g_reach rs sz xi)) - ((f_t_weightOfAll wt) - (f_t_weightWithin wt (f_g_reach rs sz xi))))) = bg then
            (if (f_g_isBuilt bu xi) = true then
              (if (f_g_isBuilt bu be) = true then
                (if be = (-1) then
                  (L_t_mostEven_13 wt rs sz bu sk n xi (if 0 < ((f_t_weightWithin wt (f_g_reach rs sz xi)) - ((f_t_weightOfAll wt) - (f_t_weightWithin wt (f_g_reach rs sz xi)))) then ((f_t_weightWithin wt (f_g_reach rs sz xi)) - ((f_t_weightOfAll wt) - (f_t_weightWithin wt (f_g_reach rs sz xi)))) else -((f_t_weightWithin wt (f_g_reach rs sz xi)) - ((f_t_weightOfAll wt) - (f_t_weightWithin wt (f_g_reach rs sz xi))))) (xi + 1))
                else
                  (if (if 0 < ((f_t_weightWithin wt (f_g_reach rs sz xi)) - ((f_t_weightOfAll wt) - (f_t_weightWithin wt (f_g_reach rs sz xi)))) then ((f_t_weightWithin wt (f_g_reach rs sz xi)) - ((f_t_weightOfAll wt) - (f_t_weightWithin wt (f_g_reach rs sz xi)))) else -((f_t_weightWithin wt (f_g_reach rs sz xi)) - ((f_t_weightOfAll wt) - (f_t_weightWithin wt (f_g_reach rs sz xi))))) < bg then
                    (L_t_mostEven_13 wt rs sz bu sk n xi (if 0 < ((f_t_weightWithin wt (f_g_reach rs sz xi)) - ((f_t_weightOfAll wt) - (f_t_weightWithin wt (f_g_reach rs sz xi)))) then ((f_t_weightWithin wt (f_g_reach rs sz xi)) - ((f_t_weightOfAll wt) - (f_t_weightWithin wt (f_g_reach rs sz xi)))) else -((f_t_weightWithin wt (f_g_reach rs sz xi)) - ((f_t_weightOfAll wt) - (f_t_weightWithin wt (f_g_reach rs sz xi))))) (xi + 1))
                  else
                    (L_t_mostEven_13 wt rs sz bu sk n be bg (xi + 1))))
              else
                (if be = (-1) then
                  (L_t_mostEven_13 wt rs sz bu sk n xi (if 0 < ((f_t_weightWithin wt (f_g_reach rs sz xi)) - ((f_t_weightOfAll wt) - (f_t_weightWithin wt (f_g_reach rs sz xi)))) then ((f_t_weightWithin wt (f_g_reach rs sz xi)) - ((f_t_weightOfAll wt) - (f_t_weightWithin wt (f_g_reach rs sz xi)))) else -((f_t_weightWithin wt (f_g_reach rs sz xi)) - ((f_t_weightOfAll wt) - (f_t_weightWithin wt (f_g_reach rs sz xi))))) (xi + 1))
                else
                  (if (if 0 < ((f_t_weightWithin wt (f_g_reach rs sz xi)) - ((f_t_weightOfAll wt) - (f_t_weightWithin wt (f_g_reach rs sz xi)))) then ((f_t_weightWithin wt (f_g_reach rs sz xi)) - ((f_t_weightOfAll wt) - (f_t_weightWithin wt (f_g_reach rs sz xi)))) else -((f_t_weightWithin wt (f_g_reach rs sz xi)) - ((f_t_weightOfAll wt) - (f_t_weightWithin wt (f_g_reach rs sz xi))))) < bg then
                    (L_t_mostEven_13 wt rs sz bu sk n xi (if 0 < ((f_t_weightWithin wt (f_g_reach rs sz xi)) - ((f_t_weightOfAll wt) - (f_t_weightWithin wt (f_g_reach rs sz xi)))) then ((f_t_weightWithin wt (f_g_reach rs sz xi)) - ((f_t_weightOfAll wt) - (f_t_weightWithin wt (f_g_reach rs sz xi)))) else -((f_t_weightWithin wt (f_g_reach rs sz xi)) - ((f_t_weightOfAll wt) - (f_t_weightWithin wt (f_g_reach rs sz xi))))) (xi + 1))
                  else
                    (L_t_mostEven_13 wt rs sz bu sk n xi (if 0 < ((f_t_weightWithin wt (f_g_reach rs sz xi)) - ((f_t_weightOfAll wt) - (f_t_weightWithin wt (f_g_reach rs sz xi)))) then ((f_t_weightWithin wt (f_g_reach rs sz xi)) - ((f_t_weightOfAll wt) - (f_t_weightWithin wt (f_g_reach rs sz xi)))) else -((f_t_weightWithin wt (f_g_reach rs sz xi)) - ((f_t_weightOfAll wt) - (f_t_weightWithin wt (f_g_reach rs sz xi))))) (xi + 1)))))
            else
              (if be = (-1) then
                (L_t_mostEven_13 wt rs sz bu sk n xi (if 0 < ((f_t_weightWithin wt (f_g_reach rs sz xi)) - ((f_t_weightOfAll wt) - (f_t_weightWithin wt (f_g_reach rs sz xi)))) then ((f_t_weightWithin wt (f_g_reach rs sz xi)) - ((f_t_weightOfAll wt) - (f_t_weightWithin wt (f_g_reach rs sz xi)))) else -((f_t_weightWithin wt (f_g_reach rs sz xi)) - ((f_t_weightOfAll wt) - (f_t_weightWithin wt (f_g_reach rs sz xi))))) (xi + 1))
              else
                (if (if 0 < ((f_t_weightWithin wt (f_g_reach rs sz xi)) - ((f_t_weightOfAll wt) - (f_t_weightWithin wt (f_g_reach rs sz xi)))) then ((f_t_weightWithin wt (f_g_reach rs sz xi)) - ((f_t_weightOfAll wt) - (f_t_weightWithin wt (f_g_reach rs sz xi)))) else -((f_t_weightWithin wt (f_g_reach rs sz xi)) - ((f_t_weightOfAll wt) - (f_t_weightWithin wt (f_g_reach rs sz xi))))) < bg then
                  (L_t_mostEven_13 wt rs sz bu sk n xi (if 0 < ((f_t_weightWithin wt (f_g_reach rs sz xi)) - ((f_t_weightOfAll wt) - (f_t_weightWithin wt (f_g_reach rs sz xi)))) then ((f_t_weightWithin wt (f_g_reach rs sz xi)) - ((f_t_weightOfAll wt) - (f_t_weightWithin wt (f_g_reach rs sz xi)))) else -((f_t_weightWithin wt (f_g_reach rs sz xi)) - ((f_t_weightOfAll wt) - (f_t_weightWithin wt (f_g_reach rs sz xi))))) (xi + 1))
                else
                  (L_t_mostEven_13 wt rs sz bu sk n be bg (xi + 1)))))
          else
            (if be = (-1) then
              (L_t_mostEven_13 wt rs sz bu sk n xi (if 0 < ((f_t_weightWithin wt (f_g_reach rs sz xi)) - ((f_t_weightOfAll wt) - (f_t_weightWithin wt (f_g_reach rs sz xi)))) then ((f_t_weightWithin wt (f_g_reach rs sz xi)) - ((f_t_weightOfAll wt) - (f_t_weightWithin wt (f_g_reach rs sz xi)))) else -((f_t_weightWithin wt (f_g_reach rs sz xi)) - ((f_t_weightOfAll wt) - (f_t_weightWithin wt (f_g_reach rs sz xi))))) (xi + 1))
            else
              (if (if 0 < ((f_t_weightWithin wt (f_g_reach rs sz xi)) - ((f_t_weightOfAll wt) - (f_t_weightWithin wt (f_g_reach rs sz xi)))) then ((f_t_weightWithin wt (f_g_reach rs sz xi)) - ((f_t_weightOfAll wt) - (f_t_weightWithin wt (f_g_reach rs sz xi)))) else -((f_t_weightWithin wt (f_g_reach rs sz xi)) - ((f_t_weightOfAll wt) - (f_t_weightWithin wt (f_g_reach rs sz xi))))) < bg then
                (L_t_mostEven_13 wt rs sz bu sk n xi (if 0 < ((f_t_weightWithin wt (f_g_reach rs sz xi)) - ((f_t_weightOfAll wt) - (f_t_weightWithin wt (f_g_reach rs sz xi)))) then ((f_t_weightWithin wt (f_g_reach rs sz xi)) - ((f_t_weightOfAll wt) - (f_t_weightWithin wt (f_g_reach rs sz xi)))) else -((f_t_weightWithin wt (f_g_reach rs sz xi)) - ((f_t_weightOfAll wt) - (f_t_weightWithin wt (f_g_reach rs sz xi))))) (xi + 1))
              else
                (L_t_mostEven_13 wt rs sz bu sk n be bg (xi + 1)))))
        else
          (L_t_mostEven_13 wt rs sz bu sk n be bg (xi + 1)))
      else
        (L_t_mostEven_13 wt rs sz bu sk n be bg (xi + 1))))
theorem L_t_mostEven_13_s (wt : Nat → Int64) (rs : Nat → Int64) (sz : Int32) (bu : Int64) (sk : Int64) (n : Nat) (be : Int32) (bg : Int64) (xi : Int32) : L_t_mostEven_13 wt rs sz bu sk (n + 1) be bg xi = if sz ≤ xi then
    (be)
  else
    (if (f_g_isSkipped sk xi) = true then
      (if 0 < 0 then
        (if 0 < (f_t_weightOfAll wt) then
          (if (if 0 < (0 - ((f_t_weightOfAll wt) - 0)) then (0 - ((f_t_weightOfAll wt) - 0)) else -(0 - ((f_t_weightOfAll wt) - 0))) = bg then
            (if (f_g_isBuilt bu xi) = true then
              (if (f_g_isBuilt bu be) = true then
                (if be = (-1) then
                  (L_t_mostEven_13 wt rs sz bu sk n xi (if 0 < (0 - ((f_t_weightOfAll wt) - 0)) then (0 - ((f_t_weightOfAll wt) - 0)) else -(0 - ((f_t_weightOfAll wt) - 0))) (xi + 1))
                else
                  (if (if 0 < (0 - ((f_t_weightOfAll wt) - 0)) then (0 - ((f_t_weightOfAll wt) - 0)) else -(0 - ((f_t_weightOfAll wt) - 0))) < bg then
                    (L_t_mostEven_13 wt rs sz bu sk n xi (if 0 < (0 - ((f_t_weightOfAll wt) - 0)) then (0 - ((f_t_weightOfAll wt) - 0)) else -(0 - ((f_t_weightOfAll wt) - 0))) (xi + 1))
                  else
                    (L_t_mostEven_13 wt rs sz bu sk n be bg (xi + 1))))
              else
                (if be = (-1) then
                  (L_t_mostEven_13 wt rs sz bu sk n xi (if 0 < (0 - ((f_t_weightOfAll wt) - 0)) then (0 - ((f_t_weightOfAll wt) - 0)) else -(0 - ((f_t_weightOfAll wt) - 0))) (xi + 1))
                else
                  (if (if 0 < (0 - ((f_t_weightOfAll wt) - 0)) then (0 - ((f_t_weightOfAll wt) - 0)) else -(0 - ((f_t_weightOfAll wt) - 0))) < bg then
                    (L_t_mostEven_13 wt rs sz bu sk n xi (if 0 < (0 - ((f_t_weightOfAll wt) - 0)) then (0 - ((f_t_weightOfAll wt) - 0)) else -(0 - ((f_t_weightOfAll wt) - 0))) (xi + 1))
                  else
                    (L_t_mostEven_13 wt rs sz bu sk n xi (if 0 < (0 - ((f_t_weightOfAll wt) - 0)) then (0 - ((f_t_weightOfAll wt) - 0)) else -(0 - ((f_t_weightOfAll wt) - 0))) (xi + 1)))))
            else
              (if be = (-1) then
                (L_t_mostEven_13 wt rs sz bu sk n xi (if 0 < (0 - ((f_t_weightOfAll wt) - 0)) then (0 - ((f_t_weightOfAll wt) - 0)) else -(0 - ((f_t_weightOfAll wt) - 0))) (xi + 1))
              else
                (if (if 0 < (0 - ((f_t_weightOfAll wt) - 0)) then (0 - ((f_t_weightOfAll wt) - 0)) else -(0 - ((f_t_weightOfAll wt) - 0))) < bg then
                  (L_t_mostEven_13 wt rs sz bu sk n xi (if 0 < (0 - ((f_t_weightOfAll wt) - 0)) then (0 - ((f_t_weightOfAll wt) - 0)) else -(0 - ((f_t_weightOfAll wt) - 0))) (xi + 1))
                else
                  (L_t_mostEven_13 wt rs sz bu sk n be bg (xi + 1)))))
          else
            (if be = (-1) then
              (L_t_mostEven_13 wt rs sz bu sk n xi (if 0 < (0 - ((f_t_weightOfAll wt) - 0)) then (0 - ((f_t_weightOfAll wt) - 0)) else -(0 - ((f_t_weightOfAll wt) - 0))) (xi + 1))
            else
              (if (if 0 < (0 - ((f_t_weightOfAll wt) - 0)) then (0 - ((f_t_weightOfAll wt) - 0)) else -(0 - ((f_t_weightOfAll wt) - 0))) < bg then
                (L_t_mostEven_13 wt rs sz bu sk n xi (if 0 < (0 - ((f_t_weightOfAll wt) - 0)) then (0 - ((f_t_weightOfAll wt) - 0)) else -(0 - ((f_t_weightOfAll wt) - 0))) (xi + 1))
              else
                (L_t_mostEven_13 wt rs sz bu sk n be bg (xi + 1)))))
        else
          (L_t_mostEven_13 wt rs sz bu sk n be bg (xi + 1)))
      else
        (L_t_mostEven_13 wt rs sz bu sk n be bg (xi + 1)))
    else
      (if 0 < (f_t_weightWithin wt (f_g_reach rs sz xi)) then
        (if (f_t_weightWithin wt (f_g_reach rs sz xi)) < (f_t_weightOfAll wt) then
          (if (if 0 < ((f_t_weightWithin wt (f_g_reach rs sz xi)) - ((f_t_weightOfAll wt) - (f_t_weightWithin wt (f_g_reach rs sz xi)))) then ((f_t_weightWithin wt (f_g_reach rs sz xi)) - ((f_t_weightOfAll wt) - (f_t_weightWithin wt (f_g_reach rs sz xi)))) else -((f_t_weightWithin wt (f_g_reach rs sz xi)) - ((f_t_weightOfAll wt) - (f_t_weightWithin wt (f_g_reach rs sz xi))))) = bg then
            (if (f_g_isBuilt bu xi) = true then
              (if (f_g_isBuilt bu be) = true then
                (if be = (-1) then
                  (L_t_mostEven_13 wt rs sz bu sk n xi (if 0 < ((f_t_weightWithin wt (f_g_reach rs sz xi)) - ((f_t_weightOfAll wt) - (f_t_weightWithin wt (f_g_reach rs sz xi)))) then ((f_t_weightWithin wt (f_g_reach rs sz xi)) - ((f_t_weightOfAll wt) - (f_t_weightWithin wt (f_g_reach rs sz xi)))) else -((f_t_weightWithin wt (f_g_reach rs sz xi)) - ((f_t_weightOfAll wt) - (f_t_weightWithin wt (f_g_reach rs sz xi))))) (xi + 1))
                else
                  (if (if 0 < ((f_t_weightWithin wt (f_g_reach rs sz xi)) - ((f_t_weightOfAll wt) - (f_t_weightWithin wt (f_g_reach rs sz xi)))) then ((f_t_weightWithin wt (f_g_reach rs sz xi)) - ((f_t_weightOfAll wt) - (f_t_weightWithin wt (f_g_reach rs sz xi)))) else -((f_t_weightWithin wt (f_g_reach rs sz xi)) - ((f_t_weightOfAll wt) - (f_t_weightWithin wt (f_g_reach rs sz xi))))) < bg then
                    (L_t_mostEven_13 wt rs sz bu sk n xi (if 0 < ((f_t_weightWithin wt (f_g_reach rs sz xi)) - ((f_t_weightOfAll wt) - (f_t_weightWithin wt (f_g_reach rs sz xi)))) then ((f_t_weightWithin wt (f_g_reach rs sz xi)) - ((f_t_weightOfAll wt) - (f_t_weightWithin wt (f_g_reach rs sz xi)))) else -((f_t_weightWithin wt (f_g_reach rs sz xi)) - ((f_t_weightOfAll wt) - (f_t_weightWithin wt (f_g_reach rs sz xi))))) (xi + 1))
                  else
                    (L_t_mostEven_13 wt rs sz bu sk n be bg (xi + 1))))
              else
                (if be = (-1) then
                  (L_t_mostEven_13 wt rs sz bu sk n xi (if 0 < ((f_t_weightWithin wt (f_g_reach rs sz xi)) - ((f_t_weightOfAll wt) - (f_t_weightWithin wt (f_g_reach rs sz xi)))) then ((f_t_weightWithin wt (f_g_reach rs sz xi)) - ((f_t_weightOfAll wt) - (f_t_weightWithin wt (f_g_reach rs sz xi)))) else -((f_t_weightWithin wt (f_g_reach rs sz xi)) - ((f_t_weightOfAll wt) - (f_t_weightWithin wt (f_g_reach rs sz xi))))) (xi + 1))
                else
                  (if (if 0 < ((f_t_weightWithin wt (f_g_reach rs sz xi)) - ((f_t_weightOfAll wt) - (f_t_weightWithin wt (f_g_reach rs sz xi)))) then ((f_t_weightWithin wt (f_g_reach rs sz xi)) - ((f_t_weightOfAll wt) - (f_t_weightWithin wt (f_g_reach rs sz xi)))) else -((f_t_weightWithin wt (f_g_reach rs sz xi)) - ((f_t_weightOfAll wt) - (f_t_weightWithin wt (f_g_reach rs sz xi))))) < bg then
                    (L_t_mostEven_13 wt rs sz bu sk n xi (if 0 < ((f_t_weightWithin wt (f_g_reach rs sz xi)) - ((f_t_weightOfAll wt) - (f_t_weightWithin wt (f_g_reach rs sz xi)))) then ((f_t_weightWithin wt (f_g_reach rs sz xi)) - ((f_t_weightOfAll wt) - (f_t_weightWithin wt (f_g_reach rs sz xi)))) else -((f_t_weightWithin wt (f_g_reach rs sz xi)) - ((f_t_weightOfAll wt) - (f_t_weightWithin wt (f_g_reach rs sz xi))))) (xi + 1))
                  else
                    (L_t_mostEven_13 wt rs sz bu sk n xi (if 0 < ((f_t_weightWithin wt (f_g_reach rs sz xi)) - ((f_t_weightOfAll wt) - (f_t_weightWithin wt (f_g_reach rs sz xi)))) then ((f_t_weightWithin wt (f_g_reach rs sz xi)) - ((f_t_weightOfAll wt) - (f_t_weightWithin wt (f_g_reach rs sz xi)))) else -((f_t_weightWithin wt (f_g_reach rs sz xi)) - ((f_t_weightOfAll wt) - (f_t_weightWithin wt (f_g_reach rs sz xi))))) (xi + 1)))))
            else
              (if be = (-1) then
                (L_t_mostEven_13 wt rs sz bu sk n xi (if 0 < ((f_t_weightWithin wt (f_g_reach rs sz xi)) - ((f_t_weightOfAll wt) - (f_t_weightWithin wt (f_g_reach rs sz xi)))) then ((f_t_weightWithin wt (f_g_reach rs sz xi)) - ((f_t_weightOfAll wt) - (f_t_weightWithin wt (f_g_reach rs sz xi)))) else -((f_t_weightWithin wt (f_g_reach rs sz xi)) - ((f_t_weightOfAll wt) - (f_t_weightWithin wt (f_g_reach rs sz xi))))) (xi + 1))
              else
                (if (if 0 < ((f_t_weightWithin wt (f_g_reach rs sz xi)) - ((f_t_weightOfAll wt) - (f_t_weightWithin wt (f_g_reach rs sz xi)))) then ((f_t_weightWithin wt (f_g_reach rs sz xi)) - ((f_t_weightOfAll wt) - (f_t_weightWithin wt (f_g_reach rs sz xi)))) else -((f_t_weightWithin wt (f_g_reach rs sz xi)) - ((f_t_weightOfAll wt) - (f_t_weightWithin wt (f_g_reach rs sz xi))))) < bg then
                  (L_t_mostEven_13 wt rs sz bu sk n xi (if 0 < ((f_t_weightWithin wt (f_g_reach rs sz xi)) - ((f_t_weightOfAll wt) - (f_t_weightWithin wt (f_g_reach rs sz xi)))) then ((f_t_weightWithin wt (f_g_reach rs sz xi)) - ((f_t_weightOfAll wt) - (f_t_weightWithin wt (f_g_reach rs sz xi)))) else -((f_t_weightWithin wt (f_g_reach rs sz xi)) - ((f_t_weightOfAll wt) - (f_t_weightWithin wt (f_g_reach rs sz xi))))) (xi + 1))
                else
                  (L_t_mostEven_13 wt rs sz bu sk n be bg (xi + 1)))))
          else
            (if be = (-1) then
              (L_t_mostEven_13 wt rs sz bu sk n xi (if 0 < ((f_t_weightWithin wt (f_g_reach rs sz xi)) - ((f_t_weightOfAll wt) - (f_t_weightWithin wt (f_g_reach rs sz xi)))) then ((f_t_weightWithin wt (f_g_reach rs sz xi)) - ((f_t_weightOfAll wt) - (f_t_weightWithin wt (f_g_reach rs sz xi)))) else -((f_t_weightWithin wt (f_g_reach rs sz xi)) - ((f_t_weightOfAll wt) - (f_t_weightWithin wt (f_g_reach rs sz xi))))) (xi + 1))
            else
              (if (if 0 < ((f_t_weightWithin wt (f_g_reach rs sz xi)) - ((f_t_weightOfAll wt) - (f_t_weightWithin wt (f_g_reach rs sz xi)))) then ((f_t_weightWithin wt (f_g_reach rs sz xi)) - ((f_t_weightOfAll wt) - (f_t_weightWithin wt (f_g_reach rs sz xi)))) else -((f_t_weightWithin wt (f_g_reach rs sz xi)) - ((f_t_weightOfAll wt) - (f_t_weightWithin wt (f_g_reach rs sz xi))))) < bg then
                (L_t_mostEven_13 wt rs sz bu sk n xi (if 0 < ((f_t_weightWithin wt (f_g_reach rs sz xi)) - ((f_t_weightOfAll wt) - (f_t_weightWithin wt (f_g_reach rs sz xi)))) then ((f_t_weightWithin wt (f_g_reach rs sz xi)) - ((f_t_weightOfAll wt) - (f_t_weightWithin wt (f_g_reach rs sz xi)))) else -((f_t_weightWithin wt (f_g_reach rs sz xi)) - ((f_t_weightOfAll wt) - (f_t_weightWithin wt (f_g_reach rs sz xi))))) (xi + 1))
              else
                (L_t_mostEven_13 wt rs sz bu sk n be bg (xi + 1)))))
        else
          (L_t_mostEven_13 wt rs sz bu sk n be bg (xi + 1)))
      else
        (L_t_mostEven_13 wt rs sz bu sk n be bg (xi + 1)))) := rfl
def f_t_mostEven (wt : Nat → Int64) (rs : Nat → Int64) (sz : Int32) (bu : Int64) (sk : Int64) : Int32 := L_t_mostEven_13 wt rs sz bu sk 41 (-1) 0 0
set_option maxHeartbeats 4000000 in
set_option maxRecDepth 100000 in
theorem c_t_mostEven (l : Launch) (D : va_G) (cA : Nat → ClassId) (t wa : Nat) (go cl : Int64) (se : Bool) (bad fp fq su an sks : Int32) (wt : Nat → Int64) (g pa re : Nat) (ps rs : Nat → Int64) (sz : Int32) (bu sk : Int64) (S : Nat) (hS40 : S ≤ 40) (hsz : sz = nI S) : Met l y_t_mostEven (.code y_t_mostEven b_t_mostEven 12 (some .int) :: tb) (rmd 3) (Pro D cA [.ref t] (va_P D classes [(t, .inr (2, [.ref g, .ref wa, .long go, .long cl, .int (bz se), .int bad, .int fp, .int fq, .int su, .int an, .int sks])), (wa, .inl (cA 0, 40, .inr (.inl wt))), (g, .inr (1, [.ref pa, .ref re, .int sz, .long bu, .long sk])), (pa, .inl (cA 0, 40, .inr (.inl ps))), (re, .inl (cA 0, 40, .inr (.inl rs)))])) (Qro (.int (f_t_mostEven wt rs sz bu sk))) 0 0 nof := by
  refine ro_in (by decide) (Nat.le_of_ble_eq_true rfl) (fun p e s m below meth c ls FX hnm hK hP hl => ?_)
  have hl : lv_has ls 12 [(0, .ref t)] := hl
  have hP : va_P D classes [(t, .inr (2, [.ref g, .ref wa, .long go, .long cl, .int (bz se), .int bad, .int fp, .int fq, .int su, .int an, .int sks])), (wa, .inl (cA 0, 40, .inr (.inl wt))), (g, .inr (1, [.ref pa, .ref re, .int sz, .long bu, .long sk])), (pa, .inl (cA 0, 40, .inr (.inl ps))), (re, .inl (cA 0, 40, .inr (.inl rs)))] s.heap := hP
  generalize ([.ref t] : List Value).toArray = args at FX ⊢
  obtain ⟨hx, hb, hml, hown, hts, hr, hlk⟩ := id FX
  refine lv_aload_n hx hb d_t_mostEven_0 rfl (lv_at hl 0 rfl) ?_
  refine ro_V (v := .long (f_t_weightOfAll wt)) (As := []) (rest := []) (q0 := 0) FX hK (c_t_weightOfAll l D cA t wa go cl se bad fp fq su an sks wt g pa re ps rs sz bu sk) hP hP rfl rfl rfl kc_t_weightOfAll km_t_70 ki_t ks_t_weightOfAll ke_t_weightOfAll rfl ok_t_weightOfAll ⟨Nat.le_of_ble_eq_true rfl, Nat.le_of_ble_eq_true rfl⟩ ⟨Nat.zero_le _, Nat.zero_le _⟩ hl.1 rfl (Nat.le_of_ble_eq_true rfl) d_t_mostEven_1 ?_
  refine lv_lstore_n (lv' := [(1, .long (f_t_weightOfAll wt)), (0, .ref t)]) hx hb d_t_mostEven_4 rfl hl (by decide) rfl (fun ls hl => ?_)
  refine lv_iconst (v := (-1)) hx hb d_t_mostEven_5 (by decide) ?_
  refine lv_istore_n (lv' := [(3, .int (-1)), (1, .long (f_t_weightOfAll wt)), (0, .ref t)]) hx hb d_t_mostEven_6 rfl hl (by decide) rfl (fun ls hl => ?_)
  refine lv_lconst (v := 0) hx hb d_t_mostEven_7 (by decide) ?_
  refine lv_lstore (lv' := [(4, .long 0), (3, .int (-1)), (1, .long (f_t_weightOfAll wt)), (0, .ref t)]) hx hb d_t_mostEven_8 hl (by decide) rfl (fun ls hl => ?_)
  refine lv_iconst (v := 0) hx hb d_t_mostEven_10 (by decide) ?_
  refine lv_istore (lv' := [(6, .int 0), (4, .long 0), (3, .int (-1)), (1, .long (f_t_weightOfAll wt)), (0, .ref t)]) hx hb d_t_mostEven_11 hl (by decide) rfl (fun ls hl => ?_)
  have loop : ∀ (n k : Nat) (be : Int32) (bg : Int64) (xi : Int32) (ls : Array Slot), k + n = 41 → k ≤ 40 → xi = nI k → lv_has ls 12 [(0, .ref t), (1, .long (f_t_weightOfAll wt)), (3, .int be), (4, .long bg), (6, .int xi)] → W p l e (rmd 3) s m args below meth c s.heap [] 0 0 (MQ below (Qro (.int (L_t_mostEven_13 wt rs sz bu sk n be bg xi))) args s 0 0 nof) (F0 m 13 ls []) := by
    intro n
    induction n with
    | zero =>
      intro k be bg xi ls h1 h2
      exact absurd h1 (by omega)
    | succ n ih =>
      intro k be bg xi ls hkn hk hxi hl
      refine lv_iload hx hb d_t_mostEven_13 (lv_at hl 4 rfl) ?_
      refine lv_aload_n hx hb d_t_mostEven_15 rfl (lv_at hl 0 rfl) ?_
      refine ro_get (v := .ref g) FX hK hP 0 0 rfl rfl rfl i_t (by decide) kf_t_9 d_t_mostEven_16 ?_
      refine ro_getN (v := .int sz) FX hK hP 2 2 rfl rfl rfl i_g (by decide) kf_t_86 d_t_mostEven_19 ?_
      refine lv_icmp_ge (tgt := 154) hx hb d_t_mostEven_22 (by decide) (fun c1 => ?_) (fun c1 => ?_)
      · have c1 := c1
        refine lv_iload_n hx hb d_t_mostEven_154 rfl (lv_at hl 2 rfl) ?_
        exact ro_iret FX (by rw [L_t_mostEven_13_s, if_pos c1]) d_t_mostEven_155
      · have c1 := c1
        have hk1 : k < S := k_lt hxi hsz c1 (by omega)
        refine lv_aload_n hx hb d_t_mostEven_25 rfl (lv_at hl 0 rfl) ?_
        refine ro_get (v := .ref g) FX hK hP 0 0 rfl rfl rfl i_t (by decide) kf_t_9 d_t_mostEven_26 ?_
        refine lv_iload hx hb d_t_mostEven_29 (lv_at hl 4 rfl) ?_
        refine ro_V (v := .int (bz (f_g_isSkipped sk xi))) (As := [.int xi]) (rest := []) (q0 := 2) FX hK (c_g_isSkipped l D cA g pa re ps rs sz bu sk xi) (hP.sub [2, 3, 4] rfl) hP rfl rfl rfl kc_g_isSkipped km_t_89 ki_g ks_g_isSkipped ke_g_isSkipped rfl ok_g_isSkipped ⟨Nat.le_of_ble_eq_true rfl, Nat.le_of_ble_eq_true rfl⟩ ⟨Nat.zero_le _, Nat.zero_le _⟩ hl.1 rfl (Nat.le_of_ble_eq_true rfl) d_t_mostEven_31 ?_
        refine lv_if_eq (tgt := 41) hx hb d_t_mostEven_34 (by decide) (fun c2 => ?_) (fun c2 => ?_)
        · have c2 := bz_f c2
          refine lv_aload_n hx hb d_t_mostEven_41 rfl (lv_at hl 0 rfl) ?_
          refine lv_aload_n hx hb d_t_mostEven_42 rfl (lv_at hl 0 rfl) ?_
          refine ro_get (v := .ref g) FX hK hP 0 0 rfl rfl rfl i_t (by decide) kf_t_9 d_t_mostEven_43 ?_
          refine lv_iload hx hb d_t_mostEven_46 (lv_at hl 4 rfl) ?_
          refine ro_V (v := .long (f_g_reach rs sz xi)) (As := [.int xi]) (rest := [.ref t]) (q0 := 2) FX hK (c_g_reach l D cA g pa re ps rs sz bu sk xi) (hP.sub [2, 3, 4] rfl) hP rfl rfl rfl kc_g_reach km_t_57 ki_g ks_g_reach ke_g_reach rfl ok_g_reach ⟨Nat.le_of_ble_eq_true rfl, Nat.le_of_ble_eq_true rfl⟩ ⟨Nat.zero_le _, Nat.zero_le _⟩ hl.1 rfl (Nat.le_of_ble_eq_true rfl) d_t_mostEven_48 ?_
          refine ro_V (v := .long (f_t_weightWithin wt (f_g_reach rs sz xi))) (As := [.long (f_g_reach rs sz xi)]) (rest := []) (q0 := 0) FX hK (c_t_weightWithin l D cA t wa go cl se bad fp fq su an sks wt g pa re ps rs sz bu sk (f_g_reach rs sz xi)) hP hP rfl rfl rfl kc_t_weightWithin km_t_93 ki_t ks_t_weightWithin ke_t_weightWithin rfl ok_t_weightWithin ⟨Nat.le_of_ble_eq_true rfl, Nat.le_of_ble_eq_true rfl⟩ ⟨Nat.zero_le _, Nat.zero_le _⟩ hl.1 rfl (Nat.le_of_ble_eq_true rfl) d_t_mostEven_51 ?_
          refine lv_lstore (lv' := [(7, .long (f_t_weightWithin wt (f_g_reach rs sz xi))), (0, .ref t), (1, .long (f_t_weightOfAll wt)), (3, .int be), (4, .long bg), (6, .int xi)]) hx hb d_t_mostEven_54 hl (by decide) rfl (fun ls hl => ?_)
          refine lv_lload hx hb d_t_mostEven_56 (lv_at hl 0 rfl) ?_
          refine lv_lconst (v := 0) hx hb d_t_mostEven_58 (by decide) ?_
          refine W.lcmp hx hb d_t_mostEven_59 ?_
          refine lv_if_le (tgt := 148) hx hb d_t_mostEven_60 (by decide) (fun c3 => ?_) (fun c3 => ?_)
          · have c3 := cp_le c3
            refine lv_iinc (v := xi + 1) (lv' := [(6, .int (xi + 1)), (7, .long (f_t_weightWithin wt (f_g_reach rs sz xi))), (0, .ref t), (1, .long (f_t_weightOfAll wt)), (3, .int be), (4, .long bg)]) hx hb d_t_mostEven_148 hl (k := 5) rfl rfl (by decide) rfl (fun ls hl => ?_)
            refine lv_goto (tgt := 13) hx hb d_t_mostEven_151 (by decide) ?_
            refine ro_to (by rw [L_t_mostEven_13_s, if_neg c1, if_neg c2, if_neg c3]) ?_
            exact ih (k + 1) be bg (xi + 1) ls (by omega) (by omega) (by rw [hxi]; exact nI_1 _)  (lv_sub hl [2, 3, 4, 5, 0] rfl)
          · have c3 := cp_nle c3
            refine lv_lload hx hb d_t_mostEven_63 (lv_at hl 0 rfl) ?_
            refine lv_lload_n hx hb d_t_mostEven_65 rfl (lv_at hl 2 rfl) ?_
            refine W.lcmp hx hb d_t_mostEven_66 ?_
            refine lv_if_lt (tgt := 73) hx hb d_t_mostEven_67 (by decide) (fun c4 => ?_) (fun c4 => ?_)
            · have c4 := cp_lt c4
              refine lv_lload hx hb d_t_mostEven_73 (lv_at hl 0 rfl) ?_
              refine lv_lload_n hx hb d_t_mostEven_75 rfl (lv_at hl 2 rfl) ?_
              refine lv_lload hx hb d_t_mostEven_76 (lv_at hl 0 rfl) ?_
              refine lv_lsub hx hb d_t_mostEven_78 ?_
              refine lv_lsub hx hb d_t_mostEven_79 ?_
              refine va_mabs_long hx hb (hml.trans hl.1.symm) hown (hts _ km_t_97) (hts _ ks_abs_long) (hts _ ki_ma) (hts _ kc_abs_long) (Nat.le_of_ble_eq_true rfl) (Nat.le_of_ble_eq_true rfl) (Nat.zero_le _) (Nat.zero_le _) d_t_mostEven_80 ?_
              refine lv_lstore (lv' := [(9, .long (if 0 < ((f_t_weightWithin wt (f_g_reach rs sz xi)) - ((f_t_weightOfAll wt) - (f_t_weightWithin wt (f_g_reach rs sz xi)))) then ((f_t_weightWithin wt (f_g_reach rs sz xi)) - ((f_t_weightOfAll wt) - (f_t_weightWithin wt (f_g_reach rs sz xi)))) else -((f_t_weightWithin wt (f_g_reach rs sz xi)) - ((f_t_weightOfAll wt) - (f_t_weightWithin wt (f_g_reach rs sz xi)))))), (7, .long (f_t_weightWithin wt (f_g_reach rs sz xi))), (0, .ref t), (1, .long (f_t_weightOfAll wt)), (3, .int be), (4, .long bg), (6, .int xi)]) hx hb d_t_mostEven_83 hl (by decide) rfl (fun ls hl => ?_)
              refine lv_lload hx hb d_t_mostEven_85 (lv_at hl 0 rfl) ?_
              refine lv_lload hx hb d_t_mostEven_87 (lv_at hl 5 rfl) ?_
              refine W.lcmp hx hb d_t_mostEven_89 ?_
              refine lv_if_ne (tgt := 120) hx hb d_t_mostEven_90 (by decide) (fun c5 => ?_) (fun c5 => ?_)
              · have c5 := cp_ne c5
                refine lv_iconst (v := 0) hx hb d_t_mostEven_120 (by decide) ?_
                refine lv_istore (lv' := [(11, .int 0), (9, .long (if 0 < ((f_t_weightWithin wt (f_g_reach rs sz xi)) - ((f_t_weightOfAll wt) - (f_t_weightWithin wt (f_g_reach rs sz xi)))) then ((f_t_weightWithin wt (f_g_reach rs sz xi)) - ((f_t_weightOfAll wt) - (f_t_weightWithin wt (f_g_reach rs sz xi)))) else -((f_t_weightWithin wt (f_g_reach rs sz xi)) - ((f_t_weightOfAll wt) - (f_t_weightWithin wt (f_g_reach rs sz xi)))))), (7, .long (f_t_weightWithin wt (f_g_reach rs sz xi))), (0, .ref t), (1, .long (f_t_weightOfAll wt)), (3, .int be), (4, .long bg), (6, .int xi)]) hx hb d_t_mostEven_121 hl (by decide) rfl (fun ls hl => ?_)
                refine lv_iload_n hx hb d_t_mostEven_123 rfl (lv_at hl 5 rfl) ?_
                refine lv_iconst (v := (-1)) hx hb d_t_mostEven_124 (by decide) ?_
                refine lv_icmp_eq (tgt := 141) hx hb d_t_mostEven_125 (by decide) (fun c6 => ?_) (fun c6 => ?_)
                · have c6 := c6
                  refine lv_iload hx hb d_t_mostEven_141 (lv_at hl 7 rfl) ?_
                  refine lv_istore_n (lv' := [(3, .int xi), (11, .int 0), (9, .long (if 0 < ((f_t_weightWithin wt (f_g_reach rs sz xi)) - ((f_t_weightOfAll wt) - (f_t_weightWithin wt (f_g_reach rs sz xi)))) then ((f_t_weightWithin wt (f_g_reach rs sz xi)) - ((f_t_weightOfAll wt) - (f_t_weightWithin wt (f_g_reach rs sz xi)))) else -((f_t_weightWithin wt (f_g_reach rs sz xi)) - ((f_t_weightOfAll wt) - (f_t_weightWithin wt (f_g_reach rs sz xi)))))), (7, .long (f_t_weightWithin wt (f_g_reach rs sz xi))), (0, .ref t), (1, .long (f_t_weightOfAll wt)), (4, .long bg), (6, .int xi)]) hx hb d_t_mostEven_143 rfl hl (by decide) rfl (fun ls hl => ?_)
                  refine lv_lload hx hb d_t_mostEven_144 (lv_at hl 2 rfl) ?_
                  refine lv_lstore (lv' := [(4, .long (if 0 < ((f_t_weightWithin wt (f_g_reach rs sz xi)) - ((f_t_weightOfAll wt) - (f_t_weightWithin wt (f_g_reach rs sz xi)))) then ((f_t_weightWithin wt (f_g_reach rs sz xi)) - ((f_t_weightOfAll wt) - (f_t_weightWithin wt (f_g_reach rs sz xi)))) else -((f_t_weightWithin wt (f_g_reach rs sz xi)) - ((f_t_weightOfAll wt) - (f_t_weightWithin wt (f_g_reach rs sz xi)))))), (3, .int xi), (11, .int 0), (9, .long (if 0 < ((f_t_weightWithin wt (f_g_reach rs sz xi)) - ((f_t_weightOfAll wt) - (f_t_weightWithin wt (f_g_reach rs sz xi)))) then ((f_t_weightWithin wt (f_g_reach rs sz xi)) - ((f_t_weightOfAll wt) - (f_t_weightWithin wt (f_g_reach rs sz xi)))) else -((f_t_weightWithin wt (f_g_reach rs sz xi)) - ((f_t_weightOfAll wt) - (f_t_weightWithin wt (f_g_reach rs sz xi)))))), (7, .long (f_t_weightWithin wt (f_g_reach rs sz xi))), (0, .ref t), (1, .long (f_t_weightOfAll wt)), (6, .int xi)]) hx hb d_t_mostEven_146 hl (by decide) rfl (fun ls hl => ?_)
                  refine lv_iinc (v := xi + 1) (lv' := [(6, .int (xi + 1)), (4, .long (if 0 < ((f_t_weightWithin wt (f_g_reach rs sz xi)) - ((f_t_weightOfAll wt) - (f_t_weightWithin wt (f_g_reach rs sz xi)))) then ((f_t_weightWithin wt (f_g_reach rs sz xi)) - ((f_t_weightOfAll wt) - (f_t_weightWithin wt (f_g_reach rs sz xi)))) else -((f_t_weightWithin wt (f_g_reach rs sz xi)) - ((f_t_weightOfAll wt) - (f_t_weightWithin wt (f_g_reach rs sz xi)))))), (3, .int xi), (11, .int 0), (9, .long (if 0 < ((f_t_weightWithin wt (f_g_reach rs sz xi)) - ((f_t_weightOfAll wt) - (f_t_weightWithin wt (f_g_reach rs sz xi)))) then ((f_t_weightWithin wt (f_g_reach rs sz xi)) - ((f_t_weightOfAll wt) - (f_t_weightWithin wt (f_g_reach rs sz xi)))) else -((f_t_weightWithin wt (f_g_reach rs sz xi)) - ((f_t_weightOfAll wt) - (f_t_weightWithin wt (f_g_reach rs sz xi)))))), (7, .long (f_t_weightWithin wt (f_g_reach rs sz xi))), (0, .ref t), (1, .long (f_t_weightOfAll wt))]) hx hb d_t_mostEven_148 hl (k := 7) rfl rfl (by decide) rfl (fun ls hl => ?_)
                  refine lv_goto (tgt := 13) hx hb d_t_mostEven_151 (by decide) ?_
                  refine ro_to (by rw [L_t_mostEven_13_s, if_neg c1, if_neg c2, if_pos c3, if_pos c4, if_neg c5, if_pos c6]) ?_
                  exact ih (k + 1) xi (if 0 < ((f_t_weightWithin wt (f_g_reach rs sz xi)) - ((f_t_weightOfAll wt) - (f_t_weightWithin wt (f_g_reach rs sz xi)))) then ((f_t_weightWithin wt (f_g_reach rs sz xi)) - ((f_t_weightOfAll wt) - (f_t_weightWithin wt (f_g_reach rs sz xi)))) else -((f_t_weightWithin wt (f_g_reach rs sz xi)) - ((f_t_weightOfAll wt) - (f_t_weightWithin wt (f_g_reach rs sz xi))))) (xi + 1) ls (by omega) (by omega) (by rw [hxi]; exact nI_1 _)  (lv_sub hl [6, 7, 2, 1, 0] rfl)
                · have c6 := c6
                  refine lv_lload hx hb d_t_mostEven_128 (lv_at hl 1 rfl) ?_
                  refine lv_lload hx hb d_t_mostEven_130 (lv_at hl 6 rfl) ?_
                  refine W.lcmp hx hb d_t_mostEven_132 ?_
                  refine lv_if_lt (tgt := 141) hx hb d_t_mostEven_133 (by decide) (fun c7 => ?_) (fun c7 => ?_)
                  · have c7 := cp_lt c7
                    refine lv_iload hx hb d_t_mostEven_141 (lv_at hl 7 rfl) ?_
                    refine lv_istore_n (lv' := [(3, .int xi), (11, .int 0), (9, .long (if 0 < ((f_t_weightWithin wt (f_g_reach rs sz xi)) - ((f_t_weightOfAll wt) - (f_t_weightWithin wt (f_g_reach rs sz xi)))) then ((f_t_weightWithin wt (f_g_reach rs sz xi)) - ((f_t_weightOfAll wt) - (f_t_weightWithin wt (f_g_reach rs sz xi)))) else -((f_t_weightWithin wt (f_g_reach rs sz xi)) - ((f_t_weightOfAll wt) - (f_t_weightWithin wt (f_g_reach rs sz xi)))))), (7, .long (f_t_weightWithin wt (f_g_reach rs sz xi))), (0, .ref t), (1, .long (f_t_weightOfAll wt)), (4, .long bg), (6, .int xi)]) hx hb d_t_mostEven_143 rfl hl (by decide) rfl (fun ls hl => ?_)
                    refine lv_lload hx hb d_t_mostEven_144 (lv_at hl 2 rfl) ?_
                    refine lv_lstore (lv' := [(4, .long (if 0 < ((f_t_weightWithin wt (f_g_reach rs sz xi)) - ((f_t_weightOfAll wt) - (f_t_weightWithin wt (f_g_reach rs sz xi)))) then ((f_t_weightWithin wt (f_g_reach rs sz xi)) - ((f_t_weightOfAll wt) - (f_t_weightWithin wt (f_g_reach rs sz xi)))) else -((f_t_weightWithin wt (f_g_reach rs sz xi)) - ((f_t_weightOfAll wt) - (f_t_weightWithin wt (f_g_reach rs sz xi)))))), (3, .int xi), (11, .int 0), (9, .long (if 0 < ((f_t_weightWithin wt (f_g_reach rs sz xi)) - ((f_t_weightOfAll wt) - (f_t_weightWithin wt (f_g_reach rs sz xi)))) then ((f_t_weightWithin wt (f_g_reach rs sz xi)) - ((f_t_weightOfAll wt) - (f_t_weightWithin wt (f_g_reach rs sz xi)))) else -((f_t_weightWithin wt (f_g_reach rs sz xi)) - ((f_t_weightOfAll wt) - (f_t_weightWithin wt (f_g_reach rs sz xi)))))), (7, .long (f_t_weightWithin wt (f_g_reach rs sz xi))), (0, .ref t), (1, .long (f_t_weightOfAll wt)), (6, .int xi)]) hx hb d_t_mostEven_146 hl (by decide) rfl (fun ls hl => ?_)
                    refine lv_iinc (v := xi + 1) (lv' := [(6, .int (xi + 1)), (4, .long (if 0 < ((f_t_weightWithin wt (f_g_reach rs sz xi)) - ((f_t_weightOfAll wt) - (f_t_weightWithin wt (f_g_reach rs sz xi)))) then ((f_t_weightWithin wt (f_g_reach rs sz xi)) - ((f_t_weightOfAll wt) - (f_t_weightWithin wt (f_g_reach rs sz xi)))) else -((f_t_weightWithin wt (f_g_reach rs sz xi)) - ((f_t_weightOfAll wt) - (f_t_weightWithin wt (f_g_reach rs sz xi)))))), (3, .int xi), (11, .int 0), (9, .long (if 0 < ((f_t_weightWithin wt (f_g_reach rs sz xi)) - ((f_t_weightOfAll wt) - (f_t_weightWithin wt (f_g_reach rs sz xi)))) then ((f_t_weightWithin wt (f_g_reach rs sz xi)) - ((f_t_weightOfAll wt) - (f_t_weightWithin wt (f_g_reach rs sz xi)))) else -((f_t_weightWithin wt (f_g_reach rs sz xi)) - ((f_t_weightOfAll wt) - (f_t_weightWithin wt (f_g_reach rs sz xi)))))), (7, .long (f_t_weightWithin wt (f_g_reach rs sz xi))), (0, .ref t), (1, .long (f_t_weightOfAll wt))]) hx hb d_t_mostEven_148 hl (k := 7) rfl rfl (by decide) rfl (fun ls hl => ?_)
                    refine lv_goto (tgt := 13) hx hb d_t_mostEven_151 (by decide) ?_
                    refine ro_to (by rw [L_t_mostEven_13_s, if_neg c1, if_neg c2, if_pos c3, if_pos c4, if_neg c5, if_neg c6, if_pos c7]) ?_
                    exact ih (k + 1) xi (if 0 < ((f_t_weightWithin wt (f_g_reach rs sz xi)) - ((f_t_weightOfAll wt) - (f_t_weightWithin wt (f_g_reach rs sz xi)))) then ((f_t_weightWithin wt (f_g_reach rs sz xi)) - ((f_t_weightOfAll wt) - (f_t_weightWithin wt (f_g_reach rs sz xi)))) else -((f_t_weightWithin wt (f_g_reach rs sz xi)) - ((f_t_weightOfAll wt) - (f_t_weightWithin wt (f_g_reach rs sz xi))))) (xi + 1) ls (by omega) (by omega) (by rw [hxi]; exact nI_1 _)  (lv_sub hl [6, 7, 2, 1, 0] rfl)
                  · have c7 := cp_nlt c7
                    refine lv_iload hx hb d_t_mostEven_136 (lv_at hl 0 rfl) ?_
                    refine lv_if_eq (tgt := 148) hx hb d_t_mostEven_138 (by decide) (fun c8 => ?_) (fun c8 => absurd c8 (by decide))
                    refine lv_iinc (v := xi + 1) (lv' := [(6, .int (xi + 1)), (11, .int 0), (9, .long (if 0 < ((f_t_weightWithin wt (f_g_reach rs sz xi)) - ((f_t_weightOfAll wt) - (f_t_weightWithin wt (f_g_reach rs sz xi)))) then ((f_t_weightWithin wt (f_g_reach rs sz xi)) - ((f_t_weightOfAll wt) - (f_t_weightWithin wt (f_g_reach rs sz xi)))) else -((f_t_weightWithin wt (f_g_reach rs sz xi)) - ((f_t_weightOfAll wt) - (f_t_weightWithin wt (f_g_reach rs sz xi)))))), (7, .long (f_t_weightWithin wt (f_g_reach rs sz xi))), (0, .ref t), (1, .long (f_t_weightOfAll wt)), (3, .int be), (4, .long bg)]) hx hb d_t_mostEven_148 hl (k := 7) rfl rfl (by decide) rfl (fun ls hl => ?_)
                    refine lv_goto (tgt := 13) hx hb d_t_mostEven_151 (by decide) ?_
                    refine ro_to (by rw [L_t_mostEven_13_s, if_neg c1, if_neg c2, if_pos c3, if_pos c4, if_neg c5, if_neg c6, if_neg c7]) ?_
                    exact ih (k + 1) be bg (xi + 1) ls (by omega) (by omega) (by rw [hxi]; exact nI_1 _)  (lv_sub hl [4, 5, 6, 7, 0] rfl)
              · have c5 := cp_eq c5
                refine lv_aload_n hx hb d_t_mostEven_93 rfl (lv_at hl 2 rfl) ?_
                refine ro_get (v := .ref g) FX hK hP 0 0 rfl rfl rfl i_t (by decide) kf_t_9 d_t_mostEven_94 ?_
                refine lv_iload hx hb d_t_mostEven_97 (lv_at hl 6 rfl) ?_
                refine ro_V (v := .int (bz (f_g_isBuilt bu xi))) (As := [.int xi]) (rest := []) (q0 := 2) FX hK (c_g_isBuilt l D cA g pa re ps rs sz bu sk xi) (hP.sub [2, 3, 4] rfl) hP rfl rfl rfl kc_g_isBuilt km_t_102 ki_g ks_g_isBuilt ke_g_isBuilt rfl ok_g_isBuilt ⟨Nat.le_of_ble_eq_true rfl, Nat.le_of_ble_eq_true rfl⟩ ⟨Nat.zero_le _, Nat.zero_le _⟩ hl.1 rfl (Nat.le_of_ble_eq_true rfl) d_t_mostEven_99 ?_
                refine lv_if_eq (tgt := 120) hx hb d_t_mostEven_102 (by decide) (fun c9 => ?_) (fun c9 => ?_)
                · have c9 := bz_f c9
                  refine lv_iconst (v := 0) hx hb d_t_mostEven_120 (by decide) ?_
                  refine lv_istore (lv' := [(11, .int 0), (9, .long (if 0 < ((f_t_weightWithin wt (f_g_reach rs sz xi)) - ((f_t_weightOfAll wt) - (f_t_weightWithin wt (f_g_reach rs sz xi)))) then ((f_t_weightWithin wt (f_g_reach rs sz xi)) - ((f_t_weightOfAll wt) - (f_t_weightWithin wt (f_g_reach rs sz xi)))) else -((f_t_weightWithin wt (f_g_reach rs sz xi)) - ((f_t_weightOfAll wt) - (f_t_weightWithin wt (f_g_reach rs sz xi)))))), (7, .long (f_t_weightWithin wt (f_g_reach rs sz xi))), (0, .ref t), (1, .long (f_t_weightOfAll wt)), (3, .int be), (4, .long bg), (6, .int xi)]) hx hb d_t_mostEven_121 hl (by decide) rfl (fun ls hl => ?_)
                  refine lv_iload_n hx hb d_t_mostEven_123 rfl (lv_at hl 5 rfl) ?_
                  refine lv_iconst (v := (-1)) hx hb d_t_mostEven_124 (by decide) ?_
                  refine lv_icmp_eq (tgt := 141) hx hb d_t_mostEven_125 (by decide) (fun c10 => ?_) (fun c10 => ?_)
                  · have c10 := c10
                    refine lv_iload hx hb d_t_mostEven_141 (lv_at hl 7 rfl) ?_
                    refine lv_istore_n (lv' := [(3, .int xi), (11, .int 0), (9, .long (if 0 < ((f_t_weightWithin wt (f_g_reach rs sz xi)) - ((f_t_weightOfAll wt) - (f_t_weightWithin wt (f_g_reach rs sz xi)))) then ((f_t_weightWithin wt (f_g_reach rs sz xi)) - ((f_t_weightOfAll wt) - (f_t_weightWithin wt (f_g_reach rs sz xi)))) else -((f_t_weightWithin wt (f_g_reach rs sz xi)) - ((f_t_weightOfAll wt) - (f_t_weightWithin wt (f_g_reach rs sz xi)))))), (7, .long (f_t_weightWithin wt (f_g_reach rs sz xi))), (0, .ref t), (1, .long (f_t_weightOfAll wt)), (4, .long bg), (6, .int xi)]) hx hb d_t_mostEven_143 rfl hl (by decide) rfl (fun ls hl => ?_)
                    refine lv_lload hx hb d_t_mostEven_144 (lv_at hl 2 rfl) ?_
                    refine lv_lstore (lv' := [(4, .long (if 0 < ((f_t_weightWithin wt (f_g_reach rs sz xi)) - ((f_t_weightOfAll wt) - (f_t_weightWithin wt (f_g_reach rs sz xi)))) then ((f_t_weightWithin wt (f_g_reach rs sz xi)) - ((f_t_weightOfAll wt) - (f_t_weightWithin wt (f_g_reach rs sz xi)))) else -((f_t_weightWithin wt (f_g_reach rs sz xi)) - ((f_t_weightOfAll wt) - (f_t_weightWithin wt (f_g_reach rs sz xi)))))), (3, .int xi), (11, .int 0), (9, .long (if 0 < ((f_t_weightWithin wt (f_g_reach rs sz xi)) - ((f_t_weightOfAll wt) - (f_t_weightWithin wt (f_g_reach rs sz xi)))) then ((f_t_weightWithin wt (f_g_reach rs sz xi)) - ((f_t_weightOfAll wt) - (f_t_weightWithin wt (f_g_reach rs sz xi)))) else -((f_t_weightWithin wt (f_g_reach rs sz xi)) - ((f_t_weightOfAll wt) - (f_t_weightWithin wt (f_g_reach rs sz xi)))))), (7, .long (f_t_weightWithin wt (f_g_reach rs sz xi))), (0, .ref t), (1, .long (f_t_weightOfAll wt)), (6, .int xi)]) hx hb d_t_mostEven_146 hl (by decide) rfl (fun ls hl => ?_)
                    refine lv_iinc (v := xi + 1) (lv' := [(6, .int (xi + 1)), (4, .long (if 0 < ((f_t_weightWithin wt (f_g_reach rs sz xi)) - ((f_t_weightOfAll wt) - (f_t_weightWithin wt (f_g_reach rs sz xi)))) then ((f_t_weightWithin wt (f_g_reach rs sz xi)) - ((f_t_weightOfAll wt) - (f_t_weightWithin wt (f_g_reach rs sz xi)))) else -((f_t_weightWithin wt (f_g_reach rs sz xi)) - ((f_t_weightOfAll wt) - (f_t_weightWithin wt (f_g_reach rs sz xi)))))), (3, .int xi), (11, .int 0), (9, .long (if 0 < ((f_t_weightWithin wt (f_g_reach rs sz xi)) - ((f_t_weightOfAll wt) - (f_t_weightWithin wt (f_g_reach rs sz xi)))) then ((f_t_weightWithin wt (f_g_reach rs sz xi)) - ((f_t_weightOfAll wt) - (f_t_weightWithin wt (f_g_reach rs sz xi)))) else -((f_t_weightWithin wt (f_g_reach rs sz xi)) - ((f_t_weightOfAll wt) - (f_t_weightWithin wt (f_g_reach rs sz xi)))))), (7, .long (f_t_weightWithin wt (f_g_reach rs sz xi))), (0, .ref t), (1, .long (f_t_weightOfAll wt))]) hx hb d_t_mostEven_148 hl (k := 7) rfl rfl (by decide) rfl (fun ls hl => ?_)
                    refine lv_goto (tgt := 13) hx hb d_t_mostEven_151 (by decide) ?_
                    refine ro_to (by rw [L_t_mostEven_13_s, if_neg c1, if_neg c2, if_pos c3, if_pos c4, if_pos c5, if_neg c9, if_pos c10]) ?_
                    exact ih (k + 1) xi (if 0 < ((f_t_weightWithin wt (f_g_reach rs sz xi)) - ((f_t_weightOfAll wt) - (f_t_weightWithin wt (f_g_reach rs sz xi)))) then ((f_t_weightWithin wt (f_g_reach rs sz xi)) - ((f_t_weightOfAll wt) - (f_t_weightWithin wt (f_g_reach rs sz xi)))) else -((f_t_weightWithin wt (f_g_reach rs sz xi)) - ((f_t_weightOfAll wt) - (f_t_weightWithin wt (f_g_reach rs sz xi))))) (xi + 1) ls (by omega) (by omega) (by rw [hxi]; exact nI_1 _)  (lv_sub hl [6, 7, 2, 1, 0] rfl)
                  · have c10 := c10
                    refine lv_lload hx hb d_t_mostEven_128 (lv_at hl 1 rfl) ?_
                    refine lv_lload hx hb d_t_mostEven_130 (lv_at hl 6 rfl) ?_
                    refine W.lcmp hx hb d_t_mostEven_132 ?_
                    refine lv_if_lt (tgt := 141) hx hb d_t_mostEven_133 (by decide) (fun c11 => ?_) (fun c11 => ?_)
                    · have c11 := cp_lt c11
                      refine lv_iload hx hb d_t_mostEven_141 (lv_at hl 7 rfl) ?_
                      refine lv_istore_n (lv' := [(3, .int xi), (11, .int 0), (9, .long (if 0 < ((f_t_weightWithin wt (f_g_reach rs sz xi)) - ((f_t_weightOfAll wt) - (f_t_weightWithin wt (f_g_reach rs sz xi)))) then ((f_t_weightWithin wt (f_g_reach rs sz xi)) - ((f_t_weightOfAll wt) - (f_t_weightWithin wt (f_g_reach rs sz xi)))) else -((f_t_weightWithin wt (f_g_reach rs sz xi)) - ((f_t_weightOfAll wt) - (f_t_weightWithin wt (f_g_reach rs sz xi)))))), (7, .long (f_t_weightWithin wt (f_g_reach rs sz xi))), (0, .ref t), (1, .long (f_t_weightOfAll wt)), (4, .long bg), (6, .int xi)]) hx hb d_t_mostEven_143 rfl hl (by decide) rfl (fun ls hl => ?_)
                      refine lv_lload hx hb d_t_mostEven_144 (lv_at hl 2 rfl) ?_
                      refine lv_lstore (lv' := [(4, .long (if 0 < ((f_t_weightWithin wt (f_g_reach rs sz xi)) - ((f_t_weightOfAll wt) - (f_t_weightWithin wt (f_g_reach rs sz xi)))) then ((f_t_weightWithin wt (f_g_reach rs sz xi)) - ((f_t_weightOfAll wt) - (f_t_weightWithin wt (f_g_reach rs sz xi)))) else -((f_t_weightWithin wt (f_g_reach rs sz xi)) - ((f_t_weightOfAll wt) - (f_t_weightWithin wt (f_g_reach rs sz xi)))))), (3, .int xi), (11, .int 0), (9, .long (if 0 < ((f_t_weightWithin wt (f_g_reach rs sz xi)) - ((f_t_weightOfAll wt) - (f_t_weightWithin wt (f_g_reach rs sz xi)))) then ((f_t_weightWithin wt (f_g_reach rs sz xi)) - ((f_t_weightOfAll wt) - (f_t_weightWithin wt (f_g_reach rs sz xi)))) else -((f_t_weightWithin wt (f_g_reach rs sz xi)) - ((f_t_weightOfAll wt) - (f_t_weightWithin wt (f_g_reach rs sz xi)))))), (7, .long (f_t_weightWithin wt (f_g_reach rs sz xi))), (0, .ref t), (1, .long (f_t_weightOfAll wt)), (6, .int xi)]) hx hb d_t_mostEven_146 hl (by decide) rfl (fun ls hl => ?_)
                      refine lv_iinc (v := xi + 1) (lv' := [(6, .int (xi + 1)), (4, .long (if 0 < ((f_t_weightWithin wt (f_g_reach rs sz xi)) - ((f_t_weightOfAll wt) - (f_t_weightWithin wt (f_g_reach rs sz xi)))) then ((f_t_weightWithin wt (f_g_reach rs sz xi)) - ((f_t_weightOfAll wt) - (f_t_weightWithin wt (f_g_reach rs sz xi)))) else -((f_t_weightWithin wt (f_g_reach rs sz xi)) - ((f_t_weightOfAll wt) - (f_t_weightWithin wt (f_g_reach rs sz xi)))))), (3, .int xi), (11, .int 0), (9, .long (if 0 < ((f_t_weightWithin wt (f_g_reach rs sz xi)) - ((f_t_weightOfAll wt) - (f_t_weightWithin wt (f_g_reach rs sz xi)))) then ((f_t_weightWithin wt (f_g_reach rs sz xi)) - ((f_t_weightOfAll wt) - (f_t_weightWithin wt (f_g_reach rs sz xi)))) else -((f_t_weightWithin wt (f_g_reach rs sz xi)) - ((f_t_weightOfAll wt) - (f_t_weightWithin wt (f_g_reach rs sz xi)))))), (7, .long (f_t_weightWithin wt (f_g_reach rs sz xi))), (0, .ref t), (1, .long (f_t_weightOfAll wt))]) hx hb d_t_mostEven_148 hl (k := 7) rfl rfl (by decide) rfl (fun ls hl => ?_)
                      refine lv_goto (tgt := 13) hx hb d_t_mostEven_151 (by decide) ?_
                      refine ro_to (by rw [L_t_mostEven_13_s, if_neg c1, if_neg c2, if_pos c3, if_pos c4, if_pos c5, if_neg c9, if_neg c10, if_pos c11]) ?_
                      exact ih (k + 1) xi (if 0 < ((f_t_weightWithin wt (f_g_reach rs sz xi)) - ((f_t_weightOfAll wt) - (f_t_weightWithin wt (f_g_reach rs sz xi)))) then ((f_t_weightWithin wt (f_g_reach rs sz xi)) - ((f_t_weightOfAll wt) - (f_t_weightWithin wt (f_g_reach rs sz xi)))) else -((f_t_weightWithin wt (f_g_reach rs sz xi)) - ((f_t_weightOfAll wt) - (f_t_weightWithin wt (f_g_reach rs sz xi))))) (xi + 1) ls (by omega) (by omega) (by rw [hxi]; exact nI_1 _)  (lv_sub hl [6, 7, 2, 1, 0] rfl)
                    · have c11 := cp_nlt c11
                      refine lv_iload hx hb d_t_mostEven_136 (lv_at hl 0 rfl) ?_
                      refine lv_if_eq (tgt := 148) hx hb d_t_mostEven_138 (by decide) (fun c12 => ?_) (fun c12 => absurd c12 (by decide))
                      refine lv_iinc (v := xi + 1) (lv' := [(6, .int (xi + 1)), (11, .int 0), (9, .long (if 0 < ((f_t_weightWithin wt (f_g_reach rs sz xi)) - ((f_t_weightOfAll wt) - (f_t_weightWithin wt (f_g_reach rs sz xi)))) then ((f_t_weightWithin wt (f_g_reach rs sz xi)) - ((f_t_weightOfAll wt) - (f_t_weightWithin wt (f_g_reach rs sz xi)))) else -((f_t_weightWithin wt (f_g_reach rs sz xi)) - ((f_t_weightOfAll wt) - (f_t_weightWithin wt (f_g_reach rs sz xi)))))), (7, .long (f_t_weightWithin wt (f_g_reach rs sz xi))), (0, .ref t), (1, .long (f_t_weightOfAll wt)), (3, .int be), (4, .long bg)]) hx hb d_t_mostEven_148 hl (k := 7) rfl rfl (by decide) rfl (fun ls hl => ?_)
                      refine lv_goto (tgt := 13) hx hb d_t_mostEven_151 (by decide) ?_
                      refine ro_to (by rw [L_t_mostEven_13_s, if_neg c1, if_neg c2, if_pos c3, if_pos c4, if_pos c5, if_neg c9, if_neg c10, if_neg c11]) ?_
                      exact ih (k + 1) be bg (xi + 1) ls (by omega) (by omega) (by rw [hxi]; exact nI_1 _)  (lv_sub hl [4, 5, 6, 7, 0] rfl)
                · have c9 := bz_t c9
                  refine lv_aload_n hx hb d_t_mostEven_105 rfl (lv_at hl 2 rfl) ?_
                  refine ro_get (v := .ref g) FX hK hP 0 0 rfl rfl rfl i_t (by decide) kf_t_9 d_t_mostEven_106 ?_
                  refine lv_iload_n hx hb d_t_mostEven_109 rfl (lv_at hl 4 rfl) ?_
                  refine ro_V (v := .int (bz (f_g_isBuilt bu be))) (As := [.int be]) (rest := []) (q0 := 2) FX hK (c_g_isBuilt l D cA g pa re ps rs sz bu sk be) (hP.sub [2, 3, 4] rfl) hP rfl rfl rfl kc_g_isBuilt km_t_102 ki_g ks_g_isBuilt ke_g_isBuilt rfl ok_g_isBuilt ⟨Nat.le_of_ble_eq_true rfl, Nat.le_of_ble_eq_true rfl⟩ ⟨Nat.zero_le _, Nat.zero_le _⟩ hl.1 rfl (Nat.le_of_ble_eq_true rfl) d_t_mostEven_110 ?_
                  refine lv_if_ne (tgt := 120) hx hb d_t_mostEven_113 (by decide) (fun c13 => ?_) (fun c13 => ?_)
                  · have c13 := bz_t c13
                    refine lv_iconst (v := 0) hx hb d_t_mostEven_120 (by decide) ?_
                    refine lv_istore (lv' := [(11, .int 0), (9, .long (if 0 < ((f_t_weightWithin wt (f_g_reach rs sz xi)) - ((f_t_weightOfAll wt) - (f_t_weightWithin wt (f_g_reach rs sz xi)))) then ((f_t_weightWithin wt (f_g_reach rs sz xi)) - ((f_t_weightOfAll wt) - (f_t_weightWithin wt (f_g_reach rs sz xi)))) else -((f_t_weightWithin wt (f_g_reach rs sz xi)) - ((f_t_weightOfAll wt) - (f_t_weightWithin wt (f_g_reach rs sz xi)))))), (7, .long (f_t_weightWithin wt (f_g_reach rs sz xi))), (0, .ref t), (1, .long (f_t_weightOfAll wt)), (3, .int be), (4, .long bg), (6, .int xi)]) hx hb d_t_mostEven_121 hl (by decide) rfl (fun ls hl => ?_)
                    refine lv_iload_n hx hb d_t_mostEven_123 rfl (lv_at hl 5 rfl) ?_
                    refine lv_iconst (v := (-1)) hx hb d_t_mostEven_124 (by decide) ?_
                    refine lv_icmp_eq (tgt := 141) hx hb d_t_mostEven_125 (by decide) (fun c14 => ?_) (fun c14 => ?_)
                    · have c14 := c14
                      refine lv_iload hx hb d_t_mostEven_141 (lv_at hl 7 rfl) ?_
                      refine lv_istore_n (lv' := [(3, .int xi), (11, .int 0), (9, .long (if 0 < ((f_t_weightWithin wt (f_g_reach rs sz xi)) - ((f_t_weightOfAll wt) - (f_t_weightWithin wt (f_g_reach rs sz xi)))) then ((f_t_weightWithin wt (f_g_reach rs sz xi)) - ((f_t_weightOfAll wt) - (f_t_weightWithin wt (f_g_reach rs sz xi)))) else -((f_t_weightWithin wt (f_g_reach rs sz xi)) - ((f_t_weightOfAll wt) - (f_t_weightWithin wt (f_g_reach rs sz xi)))))), (7, .long (f_t_weightWithin wt (f_g_reach rs sz xi))), (0, .ref t), (1, .long (f_t_weightOfAll wt)), (4, .long bg), (6, .int xi)]) hx hb d_t_mostEven_143 rfl hl (by decide) rfl (fun ls hl => ?_)
                      refine lv_lload hx hb d_t_mostEven_144 (lv_at hl 2 rfl) ?_
                      refine lv_lstore (lv' := [(4, .long (if 0 < ((f_t_weightWithin wt (f_g_reach rs sz xi)) - ((f_t_weightOfAll wt) - (f_t_weightWithin wt (f_g_reach rs sz xi)))) then ((f_t_weightWithin wt (f_g_reach rs sz xi)) - ((f_t_weightOfAll wt) - (f_t_weightWithin wt (f_g_reach rs sz xi)))) else -((f_t_weightWithin wt (f_g_reach rs sz xi)) - ((f_t_weightOfAll wt) - (f_t_weightWithin wt (f_g_reach rs sz xi)))))), (3, .int xi), (11, .int 0), (9, .long (if 0 < ((f_t_weightWithin wt (f_g_reach rs sz xi)) - ((f_t_weightOfAll wt) - (f_t_weightWithin wt (f_g_reach rs sz xi)))) then ((f_t_weightWithin wt (f_g_reach rs sz xi)) - ((f_t_weightOfAll wt) - (f_t_weightWithin wt (f_g_reach rs sz xi)))) else -((f_t_weightWithin wt (f_g_reach rs sz xi)) - ((f_t_weightOfAll wt) - (f_t_weightWithin wt (f_g_reach rs sz xi)))))), (7, .long (f_t_weightWithin wt (f_g_reach rs sz xi))), (0, .ref t), (1, .long (f_t_weightOfAll wt)), (6, .int xi)]) hx hb d_t_mostEven_146 hl (by decide) rfl (fun ls hl => ?_)
                      refine lv_iinc (v := xi + 1) (lv' := [(6, .int (xi + 1)), (4, .long (if 0 < ((f_t_weightWithin wt (f_g_reach rs sz xi)) - ((f_t_weightOfAll wt) - (f_t_weightWithin wt (f_g_reach rs sz xi)))) then ((f_t_weightWithin wt (f_g_reach rs sz xi)) - ((f_t_weightOfAll wt) - (f_t_weightWithin wt (f_g_reach rs sz xi)))) else -((f_t_weightWithin wt (f_g_reach rs sz xi)) - ((f_t_weightOfAll wt) - (f_t_weightWithin wt (f_g_reach rs sz xi)))))), (3, .int xi), (11, .int 0), (9, .long (if 0 < ((f_t_weightWithin wt (f_g_reach rs sz xi)) - ((f_t_weightOfAll wt) - (f_t_weightWithin wt (f_g_reach rs sz xi)))) then ((f_t_weightWithin wt (f_g_reach rs sz xi)) - ((f_t_weightOfAll wt) - (f_t_weightWithin wt (f_g_reach rs sz xi)))) else -((f_t_weightWithin wt (f_g_reach rs sz xi)) - ((f_t_weightOfAll wt) - (f_t_weightWithin wt (f_g_reach rs sz xi)))))), (7, .long (f_t_weightWithin wt (f_g_reach rs sz xi))), (0, .ref t), (1, .long (f_t_weightOfAll wt))]) hx hb d_t_mostEven_148 hl (k := 7) rfl rfl (by decide) rfl (fun ls hl => ?_)
                      refine lv_goto (tgt := 13) hx hb d_t_mostEven_151 (by decide) ?_
                      refine ro_to (by rw [L_t_mostEven_13_s, if_neg c1, if_neg c2, if_pos c3, if_pos c4, if_pos c5, if_pos c9, if_pos c13, if_pos c14]) ?_
                      exact ih (k + 1) xi (if 0 < ((f_t_weightWithin wt (f_g_reach rs sz xi)) - ((f_t_weightOfAll wt) - (f_t_weightWithin wt (f_g_reach rs sz xi)))) then ((f_t_weightWithin wt (f_g_reach rs sz xi)) - ((f_t_weightOfAll wt) - (f_t_weightWithin wt (f_g_reach rs sz xi)))) else -((f_t_weightWithin wt (f_g_reach rs sz xi)) - ((f_t_weightOfAll wt) - (f_t_weightWithin wt (f_g_reach rs sz xi))))) (xi + 1) ls (by omega) (by omega) (by rw [hxi]; exact nI_1 _)  (lv_sub hl [6, 7, 2, 1, 0] rfl)
                    · have c14 := c14
                      refine lv_lload hx hb d_t_mostEven_128 (lv_at hl 1 rfl) ?_
                      refine lv_lload hx hb d_t_mostEven_130 (lv_at hl 6 rfl) ?_
                      refine W.lcmp hx hb d_t_mostEven_132 ?_
                      refine lv_if_lt (tgt := 141) hx hb d_t_mostEven_133 (by decide) (fun c15 => ?_) (fun c15 => ?_)
                      · have c15 := cp_lt c15
                        refine lv_iload hx hb d_t_mostEven_141 (lv_at hl 7 rfl) ?_
                        refine lv_istore_n (lv' := [(3, .int xi), (11, .int 0), (9, .long (if 0 < ((f_t_weightWithin wt (f_g_reach rs sz xi)) - ((f_t_weightOfAll wt) - (f_t_weightWithin wt (f_g_reach rs sz xi)))) then ((f_t_weightWithin wt (f_g_reach rs sz xi)) - ((f_t_weightOfAll wt) - (f_t_weightWithin wt (f_g_reach rs sz xi)))) else -((f_t_weightWithin wt (f_g_reach rs sz xi)) - ((f_t_weightOfAll wt) - (f_t_weightWithin wt (f_g_reach rs sz xi)))))), (7, .long (f_t_weightWithin wt (f_g_reach rs sz xi))), (0, .ref t), (1, .long (f_t_weightOfAll wt)), (4, .long bg), (6, .int xi)]) hx hb d_t_mostEven_143 rfl hl (by decide) rfl (fun ls hl => ?_)
                        refine lv_lload hx hb d_t_mostEven_144 (lv_at hl 2 rfl) ?_
                        refine lv_lstore (lv' := [(4, .long (if 0 < ((f_t_weightWithin wt (f_g_reach rs sz xi)) - ((f_t_weightOfAll wt) - (f_t_weightWithin wt (f_g_reach rs sz xi)))) then ((f_t_weightWithin wt (f_g_reach rs sz xi)) - ((f_t_weightOfAll wt) - (f_t_weightWithin wt (f_g_reach rs sz xi)))) else -((f_t_weightWithin wt (f_g_reach rs sz xi)) - ((f_t_weightOfAll wt) - (f_t_weightWithin wt (f_g_reach rs sz xi)))))), (3, .int xi), (11, .int 0), (9, .long (if 0 < ((f_t_weightWithin wt (f_g_reach rs sz xi)) - ((f_t_weightOfAll wt) - (f_t_weightWithin wt (f_g_reach rs sz xi)))) then ((f_t_weightWithin wt (f_g_reach rs sz xi)) - ((f_t_weightOfAll wt) - (f_t_weightWithin wt (f_g_reach rs sz xi)))) else -((f_t_weightWithin wt (f_g_reach rs sz xi)) - ((f_t_weightOfAll wt) - (f_t_weightWithin wt (f_g_reach rs sz xi)))))), (7, .long (f_t_weightWithin wt (f_g_reach rs sz xi))), (0, .ref t), (1, .long (f_t_weightOfAll wt)), (6, .int xi)]) hx hb d_t_mostEven_146 hl (by decide) rfl (fun ls hl => ?_)
                        refine lv_iinc (v := xi + 1) (lv' := [(6, .int (xi + 1)), (4, .long (if 0 < ((f_t_weightWithin wt (f_g_reach rs sz xi)) - ((f_t_weightOfAll wt) - (f_t_weightWithin wt (f_g_reach rs sz xi)))) then ((f_t_weightWithin wt (f_g_reach rs sz xi)) - ((f_t_weightOfAll wt) - (f_t_weightWithin wt (f_g_reach rs sz xi)))) else -((f_t_weightWithin wt (f_g_reach rs sz xi)) - ((f_t_weightOfAll wt) - (f_t_weightWithin wt (f_g_reach rs sz xi)))))), (3, .int xi), (11, .int 0), (9, .long (if 0 < ((f_t_weightWithin wt (f_g_reach rs sz xi)) - ((f_t_weightOfAll wt) - (f_t_weightWithin wt (f_g_reach rs sz xi)))) then ((f_t_weightWithin wt (f_g_reach rs sz xi)) - ((f_t_weightOfAll wt) - (f_t_weightWithin wt (f_g_reach rs sz xi)))) else -((f_t_weightWithin wt (f_g_reach rs sz xi)) - ((f_t_weightOfAll wt) - (f_t_weightWithin wt (f_g_reach rs sz xi)))))), (7, .long (f_t_weightWithin wt (f_g_reach rs sz xi))), (0, .ref t), (1, .long (f_t_weightOfAll wt))]) hx hb d_t_mostEven_148 hl (k := 7) rfl rfl (by decide) rfl (fun ls hl => ?_)
                        refine lv_goto (tgt := 13) hx hb d_t_mostEven_151 (by decide) ?_
                        refine ro_to (by rw [L_t_mostEven_13_s, if_neg c1, if_neg c2, if_pos c3, if_pos c4, if_pos c5, if_pos c9, if_pos c13, if_neg c14, if_pos c15]) ?_
                        exact ih (k + 1) xi (if 0 < ((f_t_weightWithin wt (f_g_reach rs sz xi)) - ((f_t_weightOfAll wt) - (f_t_weightWithin wt (f_g_reach rs sz xi)))) then ((f_t_weightWithin wt (f_g_reach rs sz xi)) - ((f_t_weightOfAll wt) - (f_t_weightWithin wt (f_g_reach rs sz xi)))) else -((f_t_weightWithin wt (f_g_reach rs sz xi)) - ((f_t_weightOfAll wt) - (f_t_weightWithin wt (f_g_reach rs sz xi))))) (xi + 1) ls (by omega) (by omega) (by rw [hxi]; exact nI_1 _)  (lv_sub hl [6, 7, 2, 1, 0] rfl)
                      · have c15 := cp_nlt c15
                        refine lv_iload hx hb d_t_mostEven_136 (lv_at hl 0 rfl) ?_
                        refine lv_if_eq (tgt := 148) hx hb d_t_mostEven_138 (by decide) (fun c16 => ?_) (fun c16 => absurd c16 (by decide))
                        refine lv_iinc (v := xi + 1) (lv' := [(6, .int (xi + 1)), (11, .int 0), (9, .long (if 0 < ((f_t_weightWithin wt (f_g_reach rs sz xi)) - ((f_t_weightOfAll wt) - (f_t_weightWithin wt (f_g_reach rs sz xi)))) then ((f_t_weightWithin wt (f_g_reach rs sz xi)) - ((f_t_weightOfAll wt) - (f_t_weightWithin wt (f_g_reach rs sz xi)))) else -((f_t_weightWithin wt (f_g_reach rs sz xi)) - ((f_t_weightOfAll wt) - (f_t_weightWithin wt (f_g_reach rs sz xi)))))), (7, .long (f_t_weightWithin wt (f_g_reach rs sz xi))), (0, .ref t), (1, .long (f_t_weightOfAll wt)), (3, .int be), (4, .long bg)]) hx hb d_t_mostEven_148 hl (k := 7) rfl rfl (by decide) rfl (fun ls hl => ?_)
                        refine lv_goto (tgt := 13) hx hb d_t_mostEven_151 (by decide) ?_
                        refine ro_to (by rw [L_t_mostEven_13_s, if_neg c1, if_neg c2, if_pos c3, if_pos c4, if_pos c5, if_pos c9, if_pos c13, if_neg c14, if_neg c15]) ?_
                        exact ih (k + 1) be bg (xi + 1) ls (by omega) (by omega) (by rw [hxi]; exact nI_1 _)  (lv_sub hl [4, 5, 6, 7, 0] rfl)
                  · have c13 := bz_f c13
                    refine lv_iconst (v := 1) hx hb d_t_mostEven_116 (by decide) ?_
                    refine lv_goto (tgt := 121) hx hb d_t_mostEven_117 (by decide) ?_
                    refine lv_istore (lv' := [(11, .int 1), (9, .long (if 0 < ((f_t_weightWithin wt (f_g_reach rs sz xi)) - ((f_t_weightOfAll wt) - (f_t_weightWithin wt (f_g_reach rs sz xi)))) then ((f_t_weightWithin wt (f_g_reach rs sz xi)) - ((f_t_weightOfAll wt) - (f_t_weightWithin wt (f_g_reach rs sz xi)))) else -((f_t_weightWithin wt (f_g_reach rs sz xi)) - ((f_t_weightOfAll wt) - (f_t_weightWithin wt (f_g_reach rs sz xi)))))), (7, .long (f_t_weightWithin wt (f_g_reach rs sz xi))), (0, .ref t), (1, .long (f_t_weightOfAll wt)), (3, .int be), (4, .long bg), (6, .int xi)]) hx hb d_t_mostEven_121 hl (by decide) rfl (fun ls hl => ?_)
                    refine lv_iload_n hx hb d_t_mostEven_123 rfl (lv_at hl 5 rfl) ?_
                    refine lv_iconst (v := (-1)) hx hb d_t_mostEven_124 (by decide) ?_
                    refine lv_icmp_eq (tgt := 141) hx hb d_t_mostEven_125 (by decide) (fun c17 => ?_) (fun c17 => ?_)
                    · have c17 := c17
                      refine lv_iload hx hb d_t_mostEven_141 (lv_at hl 7 rfl) ?_
                      refine lv_istore_n (lv' := [(3, .int xi), (11, .int 1), (9, .long (if 0 < ((f_t_weightWithin wt (f_g_reach rs sz xi)) - ((f_t_weightOfAll wt) - (f_t_weightWithin wt (f_g_reach rs sz xi)))) then ((f_t_weightWithin wt (f_g_reach rs sz xi)) - ((f_t_weightOfAll wt) - (f_t_weightWithin wt (f_g_reach rs sz xi)))) else -((f_t_weightWithin wt (f_g_reach rs sz xi)) - ((f_t_weightOfAll wt) - (f_t_weightWithin wt (f_g_reach rs sz xi)))))), (7, .long (f_t_weightWithin wt (f_g_reach rs sz xi))), (0, .ref t), (1, .long (f_t_weightOfAll wt)), (4, .long bg), (6, .int xi)]) hx hb d_t_mostEven_143 rfl hl (by decide) rfl (fun ls hl => ?_)
                      refine lv_lload hx hb d_t_mostEven_144 (lv_at hl 2 rfl) ?_
                      refine lv_lstore (lv' := [(4, .long (if 0 < ((f_t_weightWithin wt (f_g_reach rs sz xi)) - ((f_t_weightOfAll wt) - (f_t_weightWithin wt (f_g_reach rs sz xi)))) then ((f_t_weightWithin wt (f_g_reach rs sz xi)) - ((f_t_weightOfAll wt) - (f_t_weightWithin wt (f_g_reach rs sz xi)))) else -((f_t_weightWithin wt (f_g_reach rs sz xi)) - ((f_t_weightOfAll wt) - (f_t_weightWithin wt (f_g_reach rs sz xi)))))), (3, .int xi), (11, .int 1), (9, .long (if 0 < ((f_t_weightWithin wt (f_g_reach rs sz xi)) - ((f_t_weightOfAll wt) - (f_t_weightWithin wt (f_g_reach rs sz xi)))) then ((f_t_weightWithin wt (f_g_reach rs sz xi)) - ((f_t_weightOfAll wt) - (f_t_weightWithin wt (f_g_reach rs sz xi)))) else -((f_t_weightWithin wt (f_g_reach rs sz xi)) - ((f_t_weightOfAll wt) - (f_t_weightWithin wt (f_g_reach rs sz xi)))))), (7, .long (f_t_weightWithin wt (f_g_reach rs sz xi))), (0, .ref t), (1, .long (f_t_weightOfAll wt)), (6, .int xi)]) hx hb d_t_mostEven_146 hl (by decide) rfl (fun ls hl => ?_)
                      refine lv_iinc (v := xi + 1) (lv' := [(6, .int (xi + 1)), (4, .long (if 0 < ((f_t_weightWithin wt (f_g_reach rs sz xi)) - ((f_t_weightOfAll wt) - (f_t_weightWithin wt (f_g_reach rs sz xi)))) then ((f_t_weightWithin wt (f_g_reach rs sz xi)) - ((f_t_weightOfAll wt) - (f_t_weightWithin wt (f_g_reach rs sz xi)))) else -((f_t_weightWithin wt (f_g_reach rs sz xi)) - ((f_t_weightOfAll wt) - (f_t_weightWithin wt (f_g_reach rs sz xi)))))), (3, .int xi), (11, .int 1), (9, .long (if 0 < ((f_t_weightWithin wt (f_g_reach rs sz xi)) - ((f_t_weightOfAll wt) - (f_t_weightWithin wt (f_g_reach rs sz xi)))) then ((f_t_weightWithin wt (f_g_reach rs sz xi)) - ((f_t_weightOfAll wt) - (f_t_weightWithin wt (f_g_reach rs sz xi)))) else -((f_t_weightWithin wt (f_g_reach rs sz xi)) - ((f_t_weightOfAll wt) - (f_t_weightWithin wt (f_g_reach rs sz xi)))))), (7, .long (f_t_weightWithin wt (f_g_reach rs sz xi))), (0, .ref t), (1, .long (f_t_weightOfAll wt))]) hx hb d_t_mostEven_148 hl (k := 7) rfl rfl (by decide) rfl (fun ls hl => ?_)
                      refine lv_goto (tgt := 13) hx hb d_t_mostEven_151 (by decide) ?_
                      refine ro_to (by rw [L_t_mostEven_13_s, if_neg c1, if_neg c2, if_pos c3, if_pos c4, if_pos c5, if_pos c9, if_neg c13, if_pos c17]) ?_
                      exact ih (k + 1) xi (if 0 < ((f_t_weightWithin wt (f_g_reach rs sz xi)) - ((f_t_weightOfAll wt) - (f_t_weightWithin wt (f_g_reach rs sz xi)))) then ((f_t_weightWithin wt (f_g_reach rs sz xi)) - ((f_t_weightOfAll wt) - (f_t_weightWithin wt (f_g_reach rs sz xi)))) else -((f_t_weightWithin wt (f_g_reach rs sz xi)) - ((f_t_weightOfAll wt) - (f_t_weightWithin wt (f_g_reach rs sz xi))))) (xi + 1) ls (by omega) (by omega) (by rw [hxi]; exact nI_1 _)  (lv_sub hl [6, 7, 2, 1, 0] rfl)
                    · have c17 := c17
                      refine lv_lload hx hb d_t_mostEven_128 (lv_at hl 1 rfl) ?_
                      refine lv_lload hx hb d_t_mostEven_130 (lv_at hl 6 rfl) ?_
                      refine W.lcmp hx hb d_t_mostEven_132 ?_
                      refine lv_if_lt (tgt := 141) hx hb d_t_mostEven_133 (by decide) (fun c18 => ?_) (fun c18 => ?_)
                      · have c18 := cp_lt c18
                        refine lv_iload hx hb d_t_mostEven_141 (lv_at hl 7 rfl) ?_
                        refine lv_istore_n (lv' := [(3, .int xi), (11, .int 1), (9, .long (if 0 < ((f_t_weightWithin wt (f_g_reach rs sz xi)) - ((f_t_weightOfAll wt) - (f_t_weightWithin wt (f_g_reach rs sz xi)))) then ((f_t_weightWithin wt (f_g_reach rs sz xi)) - ((f_t_weightOfAll wt) - (f_t_weightWithin wt (f_g_reach rs sz xi)))) else -((f_t_weightWithin wt (f_g_reach rs sz xi)) - ((f_t_weightOfAll wt) - (f_t_weightWithin wt (f_g_reach rs sz xi)))))), (7, .long (f_t_weightWithin wt (f_g_reach rs sz xi))), (0, .ref t), (1, .long (f_t_weightOfAll wt)), (4, .long bg), (6, .int xi)]) hx hb d_t_mostEven_143 rfl hl (by decide) rfl (fun ls hl => ?_)
                        refine lv_lload hx hb d_t_mostEven_144 (lv_at hl 2 rfl) ?_
                        refine lv_lstore (lv' := [(4, .long (if 0 < ((f_t_weightWithin wt (f_g_reach rs sz xi)) - ((f_t_weightOfAll wt) - (f_t_weightWithin wt (f_g_reach rs sz xi)))) then ((f_t_weightWithin wt (f_g_reach rs sz xi)) - ((f_t_weightOfAll wt) - (f_t_weightWithin wt (f_g_reach rs sz xi)))) else -((f_t_weightWithin wt (f_g_reach rs sz xi)) - ((f_t_weightOfAll wt) - (f_t_weightWithin wt (f_g_reach rs sz xi)))))), (3, .int xi), (11, .int 1), (9, .long (if 0 < ((f_t_weightWithin wt (f_g_reach rs sz xi)) - ((f_t_weightOfAll wt) - (f_t_weightWithin wt (f_g_reach rs sz xi)))) then ((f_t_weightWithin wt (f_g_reach rs sz xi)) - ((f_t_weightOfAll wt) - (f_t_weightWithin wt (f_g_reach rs sz xi)))) else -((f_t_weightWithin wt (f_g_reach rs sz xi)) - ((f_t_weightOfAll wt) - (f_t_weightWithin wt (f_g_reach rs sz xi)))))), (7, .long (f_t_weightWithin wt (f_g_reach rs sz xi))), (0, .ref t), (1, .long (f_t_weightOfAll wt)), (6, .int xi)]) hx hb d_t_mostEven_146 hl (by decide) rfl (fun ls hl => ?_)
                        refine lv_iinc (v := xi + 1) (lv' := [(6, .int (xi + 1)), (4, .long (if 0 < ((f_t_weightWithin wt (f_g_reach rs sz xi)) - ((f_t_weightOfAll wt) - (f_t_weightWithin wt (f_g_reach rs sz xi)))) then ((f_t_weightWithin wt (f_g_reach rs sz xi)) - ((f_t_weightOfAll wt) - (f_t_weightWithin wt (f_g_reach rs sz xi)))) else -((f_t_weightWithin wt (f_g_reach rs sz xi)) - ((f_t_weightOfAll wt) - (f_t_weightWithin wt (f_g_reach rs sz xi)))))), (3, .int xi), (11, .int 1), (9, .long (if 0 < ((f_t_weightWithin wt (f_g_reach rs sz xi)) - ((f_t_weightOfAll wt) - (f_t_weightWithin wt (f_g_reach rs sz xi)))) then ((f_t_weightWithin wt (f_g_reach rs sz xi)) - ((f_t_weightOfAll wt) - (f_t_weightWithin wt (f_g_reach rs sz xi)))) else -((f_t_weightWithin wt (f_g_reach rs sz xi)) - ((f_t_weightOfAll wt) - (f_t_weightWithin wt (f_g_reach rs sz xi)))))), (7, .long (f_t_weightWithin wt (f_g_reach rs sz xi))), (0, .ref t), (1, .long (f_t_weightOfAll wt))]) hx hb d_t_mostEven_148 hl (k := 7) rfl rfl (by decide) rfl (fun ls hl => ?_)
                        refine lv_goto (tgt := 13) hx hb d_t_mostEven_151 (by decide) ?_
                        refine ro_to (by rw [L_t_mostEven_13_s, if_neg c1, if_neg c2, if_pos c3, if_pos c4, if_pos c5, if_pos c9, if_neg c13, if_neg c17, if_pos c18]) ?_
                        exact ih (k + 1) xi (if 0 < ((f_t_weightWithin wt (f_g_reach rs sz xi)) - ((f_t_weightOfAll wt) - (f_t_weightWithin wt (f_g_reach rs sz xi)))) then ((f_t_weightWithin wt (f_g_reach rs sz xi)) - ((f_t_weightOfAll wt) - (f_t_weightWithin wt (f_g_reach rs sz xi)))) else -((f_t_weightWithin wt (f_g_reach rs sz xi)) - ((f_t_weightOfAll wt) - (f_t_weightWithin wt (f_g_reach rs sz xi))))) (xi + 1) ls (by omega) (by omega) (by rw [hxi]; exact nI_1 _)  (lv_sub hl [6, 7, 2, 1, 0] rfl)
                      · have c18 := cp_nlt c18
                        refine lv_iload hx hb d_t_mostEven_136 (lv_at hl 0 rfl) ?_
                        refine lv_if_eq (tgt := 148) hx hb d_t_mostEven_138 (by decide) (fun c19 => absurd c19 (by decide)) (fun c19 => ?_)
                        refine lv_iload hx hb d_t_mostEven_141 (lv_at hl 7 rfl) ?_
                        refine lv_istore_n (lv' := [(3, .int xi), (11, .int 1), (9, .long (if 0 < ((f_t_weightWithin wt (f_g_reach rs sz xi)) - ((f_t_weightOfAll wt) - (f_t_weightWithin wt (f_g_reach rs sz xi)))) then ((f_t_weightWithin wt (f_g_reach rs sz xi)) - ((f_t_weightOfAll wt) - (f_t_weightWithin wt (f_g_reach rs sz xi)))) else -((f_t_weightWithin wt (f_g_reach rs sz xi)) - ((f_t_weightOfAll wt) - (f_t_weightWithin wt (f_g_reach rs sz xi)))))), (7, .long (f_t_weightWithin wt (f_g_reach rs sz xi))), (0, .ref t), (1, .long (f_t_weightOfAll wt)), (4, .long bg), (6, .int xi)]) hx hb d_t_mostEven_143 rfl hl (by decide) rfl (fun ls hl => ?_)
                        refine lv_lload hx hb d_t_mostEven_144 (lv_at hl 2 rfl) ?_
                        refine lv_lstore (lv' := [(4, .long (if 0 < ((f_t_weightWithin wt (f_g_reach rs sz xi)) - ((f_t_weightOfAll wt) - (f_t_weightWithin wt (f_g_reach rs sz xi)))) then ((f_t_weightWithin wt (f_g_reach rs sz xi)) - ((f_t_weightOfAll wt) - (f_t_weightWithin wt (f_g_reach rs sz xi)))) else -((f_t_weightWithin wt (f_g_reach rs sz xi)) - ((f_t_weightOfAll wt) - (f_t_weightWithin wt (f_g_reach rs sz xi)))))), (3, .int xi), (11, .int 1), (9, .long (if 0 < ((f_t_weightWithin wt (f_g_reach rs sz xi)) - ((f_t_weightOfAll wt) - (f_t_weightWithin wt (f_g_reach rs sz xi)))) then ((f_t_weightWithin wt (f_g_reach rs sz xi)) - ((f_t_weightOfAll wt) - (f_t_weightWithin wt (f_g_reach rs sz xi)))) else -((f_t_weightWithin wt (f_g_reach rs sz xi)) - ((f_t_weightOfAll wt) - (f_t_weightWithin wt (f_g_reach rs sz xi)))))), (7, .long (f_t_weightWithin wt (f_g_reach rs sz xi))), (0, .ref t), (1, .long (f_t_weightOfAll wt)), (6, .int xi)]) hx hb d_t_mostEven_146 hl (by decide) rfl (fun ls hl => ?_)
                        refine lv_iinc (v := xi + 1) (lv' := [(6, .int (xi + 1)), (4, .long (if 0 < ((f_t_weightWithin wt (f_g_reach rs sz xi)) - ((f_t_weightOfAll wt) - (f_t_weightWithin wt (f_g_reach rs sz xi)))) then ((f_t_weightWithin wt (f_g_reach rs sz xi)) - ((f_t_weightOfAll wt) - (f_t_weightWithin wt (f_g_reach rs sz xi)))) else -((f_t_weightWithin wt (f_g_reach rs sz xi)) - ((f_t_weightOfAll wt) - (f_t_weightWithin wt (f_g_reach rs sz xi)))))), (3, .int xi), (11, .int 1), (9, .long (if 0 < ((f_t_weightWithin wt (f_g_reach rs sz xi)) - ((f_t_weightOfAll wt) - (f_t_weightWithin wt (f_g_reach rs sz xi)))) then ((f_t_weightWithin wt (f_g_reach rs sz xi)) - ((f_t_weightOfAll wt) - (f_t_weightWithin wt (f_g_reach rs sz xi)))) else -((f_t_weightWithin wt (f_g_reach rs sz xi)) - ((f_t_weightOfAll wt) - (f_t_weightWithin wt (f_g_reach rs sz xi)))))), (7, .long (f_t_weightWithin wt (f_g_reach rs sz xi))), (0, .ref t), (1, .long (f_t_weightOfAll wt))]) hx hb d_t_mostEven_148 hl (k := 7) rfl rfl (by decide) rfl (fun ls hl => ?_)
                        refine lv_goto (tgt := 13) hx hb d_t_mostEven_151 (by decide) ?_
                        refine ro_to (by rw [L_t_mostEven_13_s, if_neg c1, if_neg c2, if_pos c3, if_pos c4, if_pos c5, if_pos c9, if_neg c13, if_neg c17, if_neg c18]) ?_
                        exact ih (k + 1) xi (if 0 < ((f_t_weightWithin wt (f_g_reach rs sz xi)) - ((f_t_weightOfAll wt) - (f_t_weightWithin wt (f_g_reach rs sz xi)))) then ((f_t_weightWithin wt (f_g_reach rs sz xi)) - ((f_t_weightOfAll wt) - (f_t_weightWithin wt (f_g_reach rs sz xi)))) else -((f_t_weightWithin wt (f_g_reach rs sz xi)) - ((f_t_weightOfAll wt) - (f_t_weightWithin wt (f_g_reach rs sz xi))))) (xi + 1) ls (by omega) (by omega) (by rw [hxi]; exact nI_1 _)  (lv_sub hl [6, 7, 2, 1, 0] rfl)
            · have c4 := cp_nlt c4
              refine lv_goto (tgt := 148) hx hb d_t_mostEven_70 (by decide) ?_
              refine lv_iinc (v := xi + 1) (lv' := [(6, .int (xi + 1)), (7, .long (f_t_weightWithin wt (f_g_reach rs sz xi))), (0, .ref t), (1, .long (f_t_weightOfAll wt)), (3, .int be), (4, .long bg)]) hx hb d_t_mostEven_148 hl (k := 5) rfl rfl (by decide) rfl (fun ls hl => ?_)
              refine lv_goto (tgt := 13) hx hb d_t_mostEven_151 (by decide) ?_
              refine ro_to (by rw [L_t_mostEven_13_s, if_neg c1, if_neg c2, if_pos c3, if_neg c4]) ?_
              exact ih (k + 1) be bg (xi + 1) ls (by omega) (by omega) (by rw [hxi]; exact nI_1 _)  (lv_sub hl [2, 3, 4, 5, 0] rfl)
        · have c2 := bz_t c2
          refine lv_lconst (v := 0) hx hb d_t_mostEven_37 (by decide) ?_
          refine lv_goto (tgt := 54) hx hb d_t_mostEven_38 (by decide) ?_
          refine lv_lstore (lv' := [(7, .long 0), (0, .ref t), (1, .long (f_t_weightOfAll wt)), (3, .int be), (4, .long bg), (6, .int xi)]) hx hb d_t_mostEven_54 hl (by decide) rfl (fun ls hl => ?_)
          refine lv_lload hx hb d_t_mostEven_56 (lv_at hl 0 rfl) ?_
          refine lv_lconst (v := 0) hx hb d_t_mostEven_58 (by decide) ?_
          refine W.lcmp hx hb d_t_mostEven_59 ?_
          refine lv_if_le (tgt := 148) hx hb d_t_mostEven_60 (by decide) (fun c20 => ?_) (fun c20 => ?_)
          · have c20 := cp_le c20
            refine lv_iinc (v := xi + 1) (lv' := [(6, .int (xi + 1)), (7, .long 0), (0, .ref t), (1, .long (f_t_weightOfAll wt)), (3, .int be), (4, .long bg)]) hx hb d_t_mostEven_148 hl (k := 5) rfl rfl (by decide) rfl (fun ls hl => ?_)
            refine lv_goto (tgt := 13) hx hb d_t_mostEven_151 (by decide) ?_
            refine ro_to (by rw [L_t_mostEven_13_s, if_neg c1, if_pos c2, if_neg c20]) ?_
            exact ih (k + 1) be bg (xi + 1) ls (by omega) (by omega) (by rw [hxi]; exact nI_1 _)  (lv_sub hl [2, 3, 4, 5, 0] rfl)
          · have c20 := cp_nle c20
            refine lv_lload hx hb d_t_mostEven_63 (lv_at hl 0 rfl) ?_
            refine lv_lload_n hx hb d_t_mostEven_65 rfl (lv_at hl 2 rfl) ?_
            refine W.lcmp hx hb d_t_mostEven_66 ?_
            refine lv_if_lt (tgt := 73) hx hb d_t_mostEven_67 (by decide) (fun c21 => ?_) (fun c21 => ?_)
            · have c21 := cp_lt c21
              refine lv_lload hx hb d_t_mostEven_73 (lv_at hl 0 rfl) ?_
              refine lv_lload_n hx hb d_t_mostEven_75 rfl (lv_at hl 2 rfl) ?_
              refine lv_lload hx hb d_t_mostEven_76 (lv_at hl 0 rfl) ?_
              refine lv_lsub hx hb d_t_mostEven_78 ?_
              refine lv_lsub hx hb d_t_mostEven_79 ?_
              refine va_mabs_long hx hb (hml.trans hl.1.symm) hown (hts _ km_t_97) (hts _ ks_abs_long) (hts _ ki_ma) (hts _ kc_abs_long) (Nat.le_of_ble_eq_true rfl) (Nat.le_of_ble_eq_true rfl) (Nat.zero_le _) (Nat.zero_le _) d_t_mostEven_80 ?_
              refine lv_lstore (lv' := [(9, .long (if 0 < (0 - ((f_t_weightOfAll wt) - 0)) then (0 - ((f_t_weightOfAll wt) - 0)) else -(0 - ((f_t_weightOfAll wt) - 0)))), (7, .long 0), (0, .ref t), (1, .long (f_t_weightOfAll wt)), (3, .int be), (4, .long bg), (6, .int xi)]) hx hb d_t_mostEven_83 hl (by decide) rfl (fun ls hl => ?_)
              refine lv_lload hx hb d_t_mostEven_85 (lv_at hl 0 rfl) ?_
              refine lv_lload hx hb d_t_mostEven_87 (lv_at hl 5 rfl) ?_
              refine W.lcmp hx hb d_t_mostEven_89 ?_
              refine lv_if_ne (tgt := 120) hx hb d_t_mostEven_90 (by decide) (fun c22 => ?_) (fun c22 => ?_)
              · have c22 := cp_ne c22
                refine lv_iconst (v := 0) hx hb d_t_mostEven_120 (by decide) ?_
                refine lv_istore (lv' := [(11, .int 0), (9, .long (if 0 < (0 - ((f_t_weightOfAll wt) - 0)) then (0 - ((f_t_weightOfAll wt) - 0)) else -(0 - ((f_t_weightOfAll wt) - 0)))), (7, .long 0), (0, .ref t), (1, .long (f_t_weightOfAll wt)), (3, .int be), (4, .long bg), (6, .int xi)]) hx hb d_t_mostEven_121 hl (by decide) rfl (fun ls hl => ?_)
                refine lv_iload_n hx hb d_t_mostEven_123 rfl (lv_at hl 5 rfl) ?_
                refine lv_iconst (v := (-1)) hx hb d_t_mostEven_124 (by decide) ?_
                refine lv_icmp_eq (tgt := 141) hx hb d_t_mostEven_125 (by decide) (fun c23 => ?_) (fun c23 => ?_)
                · have c23 := c23
                  refine lv_iload hx hb d_t_mostEven_141 (lv_at hl 7 rfl) ?_
                  refine lv_istore_n (lv' := [(3, .int xi), (11, .int 0), (9, .long (if 0 < (0 - ((f_t_weightOfAll wt) - 0)) then (0 - ((f_t_weightOfAll wt) - 0)) else -(0 - ((f_t_weightOfAll wt) - 0)))), (7, .long 0), (0, .ref t), (1, .long (f_t_weightOfAll wt)), (4, .long bg), (6, .int xi)]) hx hb d_t_mostEven_143 rfl hl (by decide) rfl (fun ls hl => ?_)
                  refine lv_lload hx hb d_t_mostEven_144 (lv_at hl 2 rfl) ?_
                  refine lv_lstore (lv' := [(4, .long (if 0 < (0 - ((f_t_weightOfAll wt) - 0)) then (0 - ((f_t_weightOfAll wt) - 0)) else -(0 - ((f_t_weightOfAll wt) - 0)))), (3, .int xi), (11, .int 0), (9, .long (if 0 < (0 - ((f_t_weightOfAll wt) - 0)) then (0 - ((f_t_weightOfAll wt) - 0)) else -(0 - ((f_t_weightOfAll wt) - 0)))), (7, .long 0), (0, .ref t), (1, .long (f_t_weightOfAll wt)), (6, .int xi)]) hx hb d_t_mostEven_146 hl (by decide) rfl (fun ls hl => ?_)
                  refine lv_iinc (v := xi + 1) (lv' := [(6, .int (xi + 1)), (4, .long (if 0 < (0 - ((f_t_weightOfAll wt) - 0)) then (0 - ((f_t_weightOfAll wt) - 0)) else -(0 - ((f_t_weightOfAll wt) - 0)))), (3, .int xi), (11, .int 0), (9, .long (if 0 < (0 - ((f_t_weightOfAll wt) - 0)) then (0 - ((f_t_weightOfAll wt) - 0)) else -(0 - ((f_t_weightOfAll wt) - 0)))), (7, .long 0), (0, .ref t), (1, .long (f_t_weightOfAll wt))]) hx hb d_t_mostEven_148 hl (k := 7) rfl rfl (by decide) rfl (fun ls hl => ?_)
                  refine lv_goto (tgt := 13) hx hb d_t_mostEven_151 (by decide) ?_
                  refine ro_to (by rw [L_t_mostEven_13_s, if_neg c1, if_pos c2, if_pos c20, if_pos c21, if_neg c22, if_pos c23]) ?_
                  exact ih (k + 1) xi (if 0 < (0 - ((f_t_weightOfAll wt) - 0)) then (0 - ((f_t_weightOfAll wt) - 0)) else -(0 - ((f_t_weightOfAll wt) - 0))) (xi + 1) ls (by omega) (by omega) (by rw [hxi]; exact nI_1 _)  (lv_sub hl [6, 7, 2, 1, 0] rfl)
                · have c23 := c23
                  refine lv_lload hx hb d_t_mostEven_128 (lv_at hl 1 rfl) ?_
                  refine lv_lload hx hb d_t_mostEven_130 (lv_at hl 6 rfl) ?_
                  refine W.lcmp hx hb d_t_mostEven_132 ?_
                  refine lv_if_lt (tgt := 141) hx hb d_t_mostEven_133 (by decide) (fun c24 => ?_) (fun c24 => ?_)
                  · have c24 := cp_lt c24
                    refine lv_iload hx hb d_t_mostEven_141 (lv_at hl 7 rfl) ?_
                    refine lv_istore_n (lv' := [(3, .int xi), (11, .int 0), (9, .long (if 0 < (0 - ((f_t_weightOfAll wt) - 0)) then (0 - ((f_t_weightOfAll wt) - 0)) else -(0 - ((f_t_weightOfAll wt) - 0)))), (7, .long 0), (0, .ref t), (1, .long (f_t_weightOfAll wt)), (4, .long bg), (6, .int xi)]) hx hb d_t_mostEven_143 rfl hl (by decide) rfl (fun ls hl => ?_)
                    refine lv_lload hx hb d_t_mostEven_144 (lv_at hl 2 rfl) ?_
                    refine lv_lstore (lv' := [(4, .long (if 0 < (0 - ((f_t_weightOfAll wt) - 0)) then (0 - ((f_t_weightOfAll wt) - 0)) else -(0 - ((f_t_weightOfAll wt) - 0)))), (3, .int xi), (11, .int 0), (9, .long (if 0 < (0 - ((f_t_weightOfAll wt) - 0)) then (0 - ((f_t_weightOfAll wt) - 0)) else -(0 - ((f_t_weightOfAll wt) - 0)))), (7, .long 0), (0, .ref t), (1, .long (f_t_weightOfAll wt)), (6, .int xi)]) hx hb d_t_mostEven_146 hl (by decide) rfl (fun ls hl => ?_)
                    refine lv_iinc (v := xi + 1) (lv' := [(6, .int (xi + 1)), (4, .long (if 0 < (0 - ((f_t_weightOfAll wt) - 0)) then (0 - ((f_t_weightOfAll wt) - 0)) else -(0 - ((f_t_weightOfAll wt) - 0)))), (3, .int xi), (11, .int 0), (9, .long (if 0 < (0 - ((f_t_weightOfAll wt) - 0)) then (0 - ((f_t_weightOfAll wt) - 0)) else -(0 - ((f_t_weightOfAll wt) - 0)))), (7, .long 0), (0, .ref t), (1, .long (f_t_weightOfAll wt))]) hx hb d_t_mostEven_148 hl (k := 7) rfl rfl (by decide) rfl (fun ls hl => ?_)
                    refine lv_goto (tgt := 13) hx hb d_t_mostEven_151 (by decide) ?_
                    refine ro_to (by rw [L_t_mostEven_13_s, if_neg c1, if_pos c2, if_pos c20, if_pos c21, if_neg c22, if_neg c23, if_pos c24]) ?_
                    exact ih (k + 1) xi (if 0 < (0 - ((f_t_weightOfAll wt) - 0)) then (0 - ((f_t_weightOfAll wt) - 0)) else -(0 - ((f_t_weightOfAll wt) - 0))) (xi + 1) ls (by omega) (by omega) (by rw [hxi]; exact nI_1 _)  (lv_sub hl [6, 7, 2, 1, 0] rfl)
                  · have c24 := cp_nlt c24
                    refine lv_iload hx hb d_t_mostEven_136 (lv_at hl 0 rfl) ?_
                    refine lv_if_eq (tgt := 148) hx hb d_t_mostEven_138 (by decide) (fun c25 => ?_) (fun c25 => absurd c25 (by decide))
                    refine lv_iinc (v := xi + 1) (lv' := [(6, .int (xi + 1)), (11, .int 0), (9, .long (if 0 < (0 - ((f_t_weightOfAll wt) - 0)) then (0 - ((f_t_weightOfAll wt) - 0)) else -(0 - ((f_t_weightOfAll wt) - 0)))), (7, .long 0), (0, .ref t), (1, .long (f_t_weightOfAll wt)), (3, .int be), (4, .long bg)]) hx hb d_t_mostEven_148 hl (k := 7) rfl rfl (by decide) rfl (fun ls hl => ?_)
                    refine lv_goto (tgt := 13) hx hb d_t_mostEven_151 (by decide) ?_
                    refine ro_to (by rw [L_t_mostEven_13_s, if_neg c1, if_pos c2, if_pos c20, if_pos c21, if_neg c22, if_neg c23, if_neg c24]) ?_
                    exact ih (k + 1) be bg (xi + 1) ls (by omega) (by omega) (by rw [hxi]; exact nI_1 _)  (lv_sub hl [4, 5, 6, 7, 0] rfl)
              · have c22 := cp_eq c22
                refine lv_aload_n hx hb d_t_mostEven_93 rfl (lv_at hl 2 rfl) ?_
                refine ro_get (v := .ref g) FX hK hP 0 0 rfl rfl rfl i_t (by decide) kf_t_9 d_t_mostEven_94 ?_
                refine lv_iload hx hb d_t_mostEven_97 (lv_at hl 6 rfl) ?_
                refine ro_V (v := .int (bz (f_g_isBuilt bu xi))) (As := [.int xi]) (rest := []) (q0 := 2) FX hK (c_g_isBuilt l D cA g pa re ps rs sz bu sk xi) (hP.sub [2, 3, 4] rfl) hP rfl rfl rfl kc_g_isBuilt km_t_102 ki_g ks_g_isBuilt ke_g_isBuilt rfl ok_g_isBuilt ⟨Nat.le_of_ble_eq_true rfl, Nat.le_of_ble_eq_true rfl⟩ ⟨Nat.zero_le _, Nat.zero_le _⟩ hl.1 rfl (Nat.le_of_ble_eq_true rfl) d_t_mostEven_99 ?_
                refine lv_if_eq (tgt := 120) hx hb d_t_mostEven_102 (by decide) (fun c26 => ?_) (fun c26 => ?_)
                · have c26 := bz_f c26
                  refine lv_iconst (v := 0) hx hb d_t_mostEven_120 (by decide) ?_
                  refine lv_istore (lv' := [(11, .int 0), (9, .long (if 0 < (0 - ((f_t_weightOfAll wt) - 0)) then (0 - ((f_t_weightOfAll wt) - 0)) else -(0 - ((f_t_weightOfAll wt) - 0)))), (7, .long 0), (0, .ref t), (1, .long (f_t_weightOfAll wt)), (3, .int be), (4, .long bg), (6, .int xi)]) hx hb d_t_mostEven_121 hl (by decide) rfl (fun ls hl => ?_)
                  refine lv_iload_n hx hb d_t_mostEven_123 rfl (lv_at hl 5 rfl) ?_
                  refine lv_iconst (v := (-1)) hx hb d_t_mostEven_124 (by decide) ?_
                  refine lv_icmp_eq (tgt := 141) hx hb d_t_mostEven_125 (by decide) (fun c27 => ?_) (fun c27 => ?_)
                  · have c27 := c27
                    refine lv_iload hx hb d_t_mostEven_141 (lv_at hl 7 rfl) ?_
                    refine lv_istore_n (lv' := [(3, .int xi), (11, .int 0), (9, .long (if 0 < (0 - ((f_t_weightOfAll wt) - 0)) then (0 - ((f_t_weightOfAll wt) - 0)) else -(0 - ((f_t_weightOfAll wt) - 0)))), (7, .long 0), (0, .ref t), (1, .long (f_t_weightOfAll wt)), (4, .long bg), (6, .int xi)]) hx hb d_t_mostEven_143 rfl hl (by decide) rfl (fun ls hl => ?_)
                    refine lv_lload hx hb d_t_mostEven_144 (lv_at hl 2 rfl) ?_
                    refine lv_lstore (lv' := [(4, .long (if 0 < (0 - ((f_t_weightOfAll wt) - 0)) then (0 - ((f_t_weightOfAll wt) - 0)) else -(0 - ((f_t_weightOfAll wt) - 0)))), (3, .int xi), (11, .int 0), (9, .long (if 0 < (0 - ((f_t_weightOfAll wt) - 0)) then (0 - ((f_t_weightOfAll wt) - 0)) else -(0 - ((f_t_weightOfAll wt) - 0)))), (7, .long 0), (0, .ref t), (1, .long (f_t_weightOfAll wt)), (6, .int xi)]) hx hb d_t_mostEven_146 hl (by decide) rfl (fun ls hl => ?_)
                    refine lv_iinc (v := xi + 1) (lv' := [(6, .int (xi + 1)), (4, .long (if 0 < (0 - ((f_t_weightOfAll wt) - 0)) then (0 - ((f_t_weightOfAll wt) - 0)) else -(0 - ((f_t_weightOfAll wt) - 0)))), (3, .int xi), (11, .int 0), (9, .long (if 0 < (0 - ((f_t_weightOfAll wt) - 0)) then (0 - ((f_t_weightOfAll wt) - 0)) else -(0 - ((f_t_weightOfAll wt) - 0)))), (7, .long 0), (0, .ref t), (1, .long (f_t_weightOfAll wt))]) hx hb d_t_mostEven_148 hl (k := 7) rfl rfl (by decide) rfl (fun ls hl => ?_)
                    refine lv_goto (tgt := 13) hx hb d_t_mostEven_151 (by decide) ?_
                    refine ro_to (by rw [L_t_mostEven_13_s, if_neg c1, if_pos c2, if_pos c20, if_pos c21, if_pos c22, if_neg c26, if_pos c27]) ?_
                    exact ih (k + 1) xi (if 0 < (0 - ((f_t_weightOfAll wt) - 0)) then (0 - ((f_t_weightOfAll wt) - 0)) else -(0 - ((f_t_weightOfAll wt) - 0))) (xi + 1) ls (by omega) (by omega) (by rw [hxi]; exact nI_1 _)  (lv_sub hl [6, 7, 2, 1, 0] rfl)
                  · have c27 := c27
                    refine lv_lload hx hb d_t_mostEven_128 (lv_at hl 1 rfl) ?_
                    refine lv_lload hx hb d_t_mostEven_130 (lv_at hl 6 rfl) ?_
                    refine W.lcmp hx hb d_t_mostEven_132 ?_
                    refine lv_if_lt (tgt := 141) hx hb d_t_mostEven_133 (by decide) (fun c28 => ?_) (fun c28 => ?_)
                    · have c28 := cp_lt c28
                      refine lv_iload hx hb d_t_mostEven_141 (lv_at hl 7 rfl) ?_
                      refine lv_istore_n (lv' := [(3, .int xi), (11, .int 0), (9, .long (if 0 < (0 - ((f_t_weightOfAll wt) - 0)) then (0 - ((f_t_weightOfAll wt) - 0)) else -(0 - ((f_t_weightOfAll wt) - 0)))), (7, .long 0), (0, .ref t), (1, .long (f_t_weightOfAll wt)), (4, .long bg), (6, .int xi)]) hx hb d_t_mostEven_143 rfl hl (by decide) rfl (fun ls hl => ?_)
                      refine lv_lload hx hb d_t_mostEven_144 (lv_at hl 2 rfl) ?_
                      refine lv_lstore (lv' := [(4, .long (if 0 < (0 - ((f_t_weightOfAll wt) - 0)) then (0 - ((f_t_weightOfAll wt) - 0)) else -(0 - ((f_t_weightOfAll wt) - 0)))), (3, .int xi), (11, .int 0), (9, .long (if 0 < (0 - ((f_t_weightOfAll wt) - 0)) then (0 - ((f_t_weightOfAll wt) - 0)) else -(0 - ((f_t_weightOfAll wt) - 0)))), (7, .long 0), (0, .ref t), (1, .long (f_t_weightOfAll wt)), (6, .int xi)]) hx hb d_t_mostEven_146 hl (by decide) rfl (fun ls hl => ?_)
                      refine lv_iinc (v := xi + 1) (lv' := [(6, .int (xi + 1)), (4, .long (if 0 < (0 - ((f_t_weightOfAll wt) - 0)) then (0 - ((f_t_weightOfAll wt) - 0)) else -(0 - ((f_t_weightOfAll wt) - 0)))), (3, .int xi), (11, .int 0), (9, .long (if 0 < (0 - ((f_t_weightOfAll wt) - 0)) then (0 - ((f_t_weightOfAll wt) - 0)) else -(0 - ((f_t_weightOfAll wt) - 0)))), (7, .long 0), (0, .ref t), (1, .long (f_t_weightOfAll wt))]) hx hb d_t_mostEven_148 hl (k := 7) rfl rfl (by decide) rfl (fun ls hl => ?_)
                      refine lv_goto (tgt := 13) hx hb d_t_mostEven_151 (by decide) ?_
                      refine ro_to (by rw [L_t_mostEven_13_s, if_neg c1, if_pos c2, if_pos c20, if_pos c21, if_pos c22, if_neg c26, if_neg c27, if_pos c28]) ?_
                      exact ih (k + 1) xi (if 0 < (0 - ((f_t_weightOfAll wt) - 0)) then (0 - ((f_t_weightOfAll wt) - 0)) else -(0 - ((f_t_weightOfAll wt) - 0))) (xi + 1) ls (by omega) (by omega) (by rw [hxi]; exact nI_1 _)  (lv_sub hl [6, 7, 2, 1, 0] rfl)
                    · have c28 := cp_nlt c28
                      refine lv_iload hx hb d_t_mostEven_136 (lv_at hl 0 rfl) ?_
                      refine lv_if_eq (tgt := 148) hx hb d_t_mostEven_138 (by decide) (fun c29 => ?_) (fun c29 => absurd c29 (by decide))
                      refine lv_iinc (v := xi + 1) (lv' := [(6, .int (xi + 1)), (11, .int 0), (9, .long (if 0 < (0 - ((f_t_weightOfAll wt) - 0)) then (0 - ((f_t_weightOfAll wt) - 0)) else -(0 - ((f_t_weightOfAll wt) - 0)))), (7, .long 0), (0, .ref t), (1, .long (f_t_weightOfAll wt)), (3, .int be), (4, .long bg)]) hx hb d_t_mostEven_148 hl (k := 7) rfl rfl (by decide) rfl (fun ls hl => ?_)
                      refine lv_goto (tgt := 13) hx hb d_t_mostEven_151 (by decide) ?_
                      refine ro_to (by rw [L_t_mostEven_13_s, if_neg c1, if_pos c2, if_pos c20, if_pos c21, if_pos c22, if_neg c26, if_neg c27, if_neg c28]) ?_
                      exact ih (k + 1) be bg (xi + 1) ls (by omega) (by omega) (by rw [hxi]; exact nI_1 _)  (lv_sub hl [4, 5, 6, 7, 0] rfl)
                · have c26 := bz_t c26
                  refine lv_aload_n hx hb d_t_mostEven_105 rfl (lv_at hl 2 rfl) ?_
                  refine ro_get (v := .ref g) FX hK hP 0 0 rfl rfl rfl i_t (by decide) kf_t_9 d_t_mostEven_106 ?_
                  refine lv_iload_n hx hb d_t_mostEven_109 rfl (lv_at hl 4 rfl) ?_
                  refine ro_V (v := .int (bz (f_g_isBuilt bu be))) (As := [.int be]) (rest := []) (q0 := 2) FX hK (c_g_isBuilt l D cA g pa re ps rs sz bu sk be) (hP.sub [2, 3, 4] rfl) hP rfl rfl rfl kc_g_isBuilt km_t_102 ki_g ks_g_isBuilt ke_g_isBuilt rfl ok_g_isBuilt ⟨Nat.le_of_ble_eq_true rfl, Nat.le_of_ble_eq_true rfl⟩ ⟨Nat.zero_le _, Nat.zero_le _⟩ hl.1 rfl (Nat.le_of_ble_eq_true rfl) d_t_mostEven_110 ?_
                  refine lv_if_ne (tgt := 120) hx hb d_t_mostEven_113 (by decide) (fun c30 => ?_) (fun c30 => ?_)
                  · have c30 := bz_t c30
                    refine lv_iconst (v := 0) hx hb d_t_mostEven_120 (by decide) ?_
                    refine lv_istore (lv' := [(11, .int 0), (9, .long (if 0 < (0 - ((f_t_weightOfAll wt) - 0)) then (0 - ((f_t_weightOfAll wt) - 0)) else -(0 - ((f_t_weightOfAll wt) - 0)))), (7, .long 0), (0, .ref t), (1, .long (f_t_weightOfAll wt)), (3, .int be), (4, .long bg), (6, .int xi)]) hx hb d_t_mostEven_121 hl (by decide) rfl (fun ls hl => ?_)
                    refine lv_iload_n hx hb d_t_mostEven_123 rfl (lv_at hl 5 rfl) ?_
                    refine lv_iconst (v := (-1)) hx hb d_t_mostEven_124 (by decide) ?_
                    refine lv_icmp_eq (tgt := 141) hx hb d_t_mostEven_125 (by decide) (fun c31 => ?_) (fun c31 => ?_)
                    · have c31 := c31
                      refine lv_iload hx hb d_t_mostEven_141 (lv_at hl 7 rfl) ?_
                      refine lv_istore_n (lv' := [(3, .int xi), (11, .int 0), (9, .long (if 0 < (0 - ((f_t_weightOfAll wt) - 0)) then (0 - ((f_t_weightOfAll wt) - 0)) else -(0 - ((f_t_weightOfAll wt) - 0)))), (7, .long 0), (0, .ref t), (1, .long (f_t_weightOfAll wt)), (4, .long bg), (6, .int xi)]) hx hb d_t_mostEven_143 rfl hl (by decide) rfl (fun ls hl => ?_)
                      refine lv_lload hx hb d_t_mostEven_144 (lv_at hl 2 rfl) ?_
                      refine lv_lstore (lv' := [(4, .long (if 0 < (0 - ((f_t_weightOfAll wt) - 0)) then (0 - ((f_t_weightOfAll wt) - 0)) else -(0 - ((f_t_weightOfAll wt) - 0)))), (3, .int xi), (11, .int 0), (9, .long (if 0 < (0 - ((f_t_weightOfAll wt) - 0)) then (0 - ((f_t_weightOfAll wt) - 0)) else -(0 - ((f_t_weightOfAll wt) - 0)))), (7, .long 0), (0, .ref t), (1, .long (f_t_weightOfAll wt)), (6, .int xi)]) hx hb d_t_mostEven_146 hl (by decide) rfl (fun ls hl => ?_)
                      refine lv_iinc (v := xi + 1) (lv' := [(6, .int (xi + 1)), (4, .long (if 0 < (0 - ((f_t_weightOfAll wt) - 0)) then (0 - ((f_t_weightOfAll wt) - 0)) else -(0 - ((f_t_weightOfAll wt) - 0)))), (3, .int xi), (11, .int 0), (9, .long (if 0 < (0 - ((f_t_weightOfAll wt) - 0)) then (0 - ((f_t_weightOfAll wt) - 0)) else -(0 - ((f_t_weightOfAll wt) - 0)))), (7, .long 0), (0, .ref t), (1, .long (f_t_weightOfAll wt))]) hx hb d_t_mostEven_148 hl (k := 7) rfl rfl (by decide) rfl (fun ls hl => ?_)
                      refine lv_goto (tgt := 13) hx hb d_t_mostEven_151 (by decide) ?_
                      refine ro_to (by rw [L_t_mostEven_13_s, if_neg c1, if_pos c2, if_pos c20, if_pos c21, if_pos c22, if_pos c26, if_pos c30, if_pos c31]) ?_
                      exact ih (k + 1) xi (if 0 < (0 - ((f_t_weightOfAll wt) - 0)) then (0 - ((f_t_weightOfAll wt) - 0)) else -(0 - ((f_t_weightOfAll wt) - 0))) (xi + 1) ls (by omega) (by omega) (by rw [hxi]; exact nI_1 _)  (lv_sub hl [6, 7, 2, 1, 0] rfl)
                    · have c31 := c31
                      refine lv_lload hx hb d_t_mostEven_128 (lv_at hl 1 rfl) ?_
                      refine lv_lload hx hb d_t_mostEven_130 (lv_at hl 6 rfl) ?_
                      refine W.lcmp hx hb d_t_mostEven_132 ?_
                      refine lv_if_lt (tgt := 141) hx hb d_t_mostEven_133 (by decide) (fun c32 => ?_) (fun c32 => ?_)
                      · have c32 := cp_lt c32
                        refine lv_iload hx hb d_t_mostEven_141 (lv_at hl 7 rfl) ?_
                        refine lv_istore_n (lv' := [(3, .int xi), (11, .int 0), (9, .long (if 0 < (0 - ((f_t_weightOfAll wt) - 0)) then (0 - ((f_t_weightOfAll wt) - 0)) else -(0 - ((f_t_weightOfAll wt) - 0)))), (7, .long 0), (0, .ref t), (1, .long (f_t_weightOfAll wt)), (4, .long bg), (6, .int xi)]) hx hb d_t_mostEven_143 rfl hl (by decide) rfl (fun ls hl => ?_)
                        refine lv_lload hx hb d_t_mostEven_144 (lv_at hl 2 rfl) ?_
                        refine lv_lstore (lv' := [(4, .long (if 0 < (0 - ((f_t_weightOfAll wt) - 0)) then (0 - ((f_t_weightOfAll wt) - 0)) else -(0 - ((f_t_weightOfAll wt) - 0)))), (3, .int xi), (11, .int 0), (9, .long (if 0 < (0 - ((f_t_weightOfAll wt) - 0)) then (0 - ((f_t_weightOfAll wt) - 0)) else -(0 - ((f_t_weightOfAll wt) - 0)))), (7, .long 0), (0, .ref t), (1, .long (f_t_weightOfAll wt)), (6, .int xi)]) hx hb d_t_mostEven_146 hl (by decide) rfl (fun ls hl => ?_)
                        refine lv_iinc (v := xi + 1) (lv' := [(6, .int (xi + 1)), (4, .long (if 0 < (0 - ((f_t_weightOfAll wt) - 0)) then (0 - ((f_t_weightOfAll wt) - 0)) else -(0 - ((f_t_weightOfAll wt) - 0)))), (3, .int xi), (11, .int 0), (9, .long (if 0 < (0 - ((f_t_weightOfAll wt) - 0)) then (0 - ((f_t_weightOfAll wt) - 0)) else -(0 - ((f_t_weightOfAll wt) - 0)))), (7, .long 0), (0, .ref t), (1, .long (f_t_weightOfAll wt))]) hx hb d_t_mostEven_148 hl (k := 7) rfl rfl (by decide) rfl (fun ls hl => ?_)
                        refine lv_goto (tgt := 13) hx hb d_t_mostEven_151 (by decide) ?_
                        refine ro_to (by rw [L_t_mostEven_13_s, if_neg c1, if_pos c2, if_pos c20, if_pos c21, if_pos c22, if_pos c26, if_pos c30, if_neg c31, if_pos c32]) ?_
                        exact ih (k + 1) xi (if 0 < (0 - ((f_t_weightOfAll wt) - 0)) then (0 - ((f_t_weightOfAll wt) - 0)) else -(0 - ((f_t_weightOfAll wt) - 0))) (xi + 1) ls (by omega) (by omega) (by rw [hxi]; exact nI_1 _)  (lv_sub hl [6, 7, 2, 1, 0] rfl)
                      · have c32 := cp_nlt c32
                        refine lv_iload hx hb d_t_mostEven_136 (lv_at hl 0 rfl) ?_
                        refine lv_if_eq (tgt := 148) hx hb d_t_mostEven_138 (by decide) (fun c33 => ?_) (fun c33 => absurd c33 (by decide))
                        refine lv_iinc (v := xi + 1) (lv' := [(6, .int (xi + 1)), (11, .int 0), (9, .long (if 0 < (0 - ((f_t_weightOfAll wt) - 0)) then (0 - ((f_t_weightOfAll wt) - 0)) else -(0 - ((f_t_weightOfAll wt) - 0)))), (7, .long 0), (0, .ref t), (1, .long (f_t_weightOfAll wt)), (3, .int be), (4, .long bg)]) hx hb d_t_mostEven_148 hl (k := 7) rfl rfl (by decide) rfl (fun ls hl => ?_)
                        refine lv_goto (tgt := 13) hx hb d_t_mostEven_151 (by decide) ?_
                        refine ro_to (by rw [L_t_mostEven_13_s, if_neg c1, if_pos c2, if_pos c20, if_pos c21, if_pos c22, if_pos c26, if_pos c30, if_neg c31, if_neg c32]) ?_
                        exact ih (k + 1) be bg (xi + 1) ls (by omega) (by omega) (by rw [hxi]; exact nI_1 _)  (lv_sub hl [4, 5, 6, 7, 0] rfl)
                  · have c30 := bz_f c30
                    refine lv_iconst (v := 1) hx hb d_t_mostEven_116 (by decide) ?_
                    refine lv_goto (tgt := 121) hx hb d_t_mostEven_117 (by decide) ?_
                    refine lv_istore (lv' := [(11, .int 1), (9, .long (if 0 < (0 - ((f_t_weightOfAll wt) - 0)) then (0 - ((f_t_weightOfAll wt) - 0)) else -(0 - ((f_t_weightOfAll wt) - 0)))), (7, .long 0), (0, .ref t), (1, .long (f_t_weightOfAll wt)), (3, .int be), (4, .long bg), (6, .int xi)]) hx hb d_t_mostEven_121 hl (by decide) rfl (fun ls hl => ?_)
                    refine lv_iload_n hx hb d_t_mostEven_123 rfl (lv_at hl 5 rfl) ?_
                    refine lv_iconst (v := (-1)) hx hb d_t_mostEven_124 (by decide) ?_
                    refine lv_icmp_eq (tgt := 141) hx hb d_t_mostEven_125 (by decide) (fun c34 => ?_) (fun c34 => ?_)
                    · have c34 := c34
                      refine lv_iload hx hb d_t_mostEven_141 (lv_at hl 7 rfl) ?_
                      refine lv_istore_n (lv' := [(3, .int xi), (11, .int 1), (9, .long (if 0 < (0 - ((f_t_weightOfAll wt) - 0)) then (0 - ((f_t_weightOfAll wt) - 0)) else -(0 - ((f_t_weightOfAll wt) - 0)))), (7, .long 0), (0, .ref t), (1, .long (f_t_weightOfAll wt)), (4, .long bg), (6, .int xi)]) hx hb d_t_mostEven_143 rfl hl (by decide) rfl (fun ls hl => ?_)
                      refine lv_lload hx hb d_t_mostEven_144 (lv_at hl 2 rfl) ?_
                      refine lv_lstore (lv' := [(4, .long (if 0 < (0 - ((f_t_weightOfAll wt) - 0)) then (0 - ((f_t_weightOfAll wt) - 0)) else -(0 - ((f_t_weightOfAll wt) - 0)))), (3, .int xi), (11, .int 1), (9, .long (if 0 < (0 - ((f_t_weightOfAll wt) - 0)) then (0 - ((f_t_weightOfAll wt) - 0)) else -(0 - ((f_t_weightOfAll wt) - 0)))), (7, .long 0), (0, .ref t), (1, .long (f_t_weightOfAll wt)), (6, .int xi)]) hx hb d_t_mostEven_146 hl (by decide) rfl (fun ls hl => ?_)
                      refine lv_iinc (v := xi + 1) (lv' := [(6, .int (xi + 1)), (4, .long (if 0 < (0 - ((f_t_weightOfAll wt) - 0)) then (0 - ((f_t_weightOfAll wt) - 0)) else -(0 - ((f_t_weightOfAll wt) - 0)))), (3, .int xi), (11, .int 1), (9, .long (if 0 < (0 - ((f_t_weightOfAll wt) - 0)) then (0 - ((f_t_weightOfAll wt) - 0)) else -(0 - ((f_t_weightOfAll wt) - 0)))), (7, .long 0), (0, .ref t), (1, .long (f_t_weightOfAll wt))]) hx hb d_t_mostEven_148 hl (k := 7) rfl rfl (by decide) rfl (fun ls hl => ?_)
                      refine lv_goto (tgt := 13) hx hb d_t_mostEven_151 (by decide) ?_
                      refine ro_to (by rw [L_t_mostEven_13_s, if_neg c1, if_pos c2, if_pos c20, if_pos c21, if_pos c22, if_pos c26, if_neg c30, if_pos c34]) ?_
                      exact ih (k + 1) xi (if 0 < (0 - ((f_t_weightOfAll wt) - 0)) then (0 - ((f_t_weightOfAll wt) - 0)) else -(0 - ((f_t_weightOfAll wt) - 0))) (xi + 1) ls (by omega) (by omega) (by rw [hxi]; exact nI_1 _)  (lv_sub hl [6, 7, 2, 1, 0] rfl)
                    · have c34 := c34
                      refine lv_lload hx hb d_t_mostEven_128 (lv_at hl 1 rfl) ?_
                      refine lv_lload hx hb d_t_mostEven_130 (lv_at hl 6 rfl) ?_
                      refine W.lcmp hx hb d_t_mostEven_132 ?_
                      refine lv_if_lt (tgt := 141) hx hb d_t_mostEven_133 (by decide) (fun c35 => ?_) (fun c35 => ?_)
                      · have c35 := cp_lt c35
                        refine lv_iload hx hb d_t_mostEven_141 (lv_at hl 7 rfl) ?_
                        refine lv_istore_n (lv' := [(3, .int xi), (11, .int 1), (9, .long (if 0 < (0 - ((f_t_weightOfAll wt) - 0)) then (0 - ((f_t_weightOfAll wt) - 0)) else -(0 - ((f_t_weightOfAll wt) - 0)))), (7, .long 0), (0, .ref t), (1, .long (f_t_weightOfAll wt)), (4, .long bg), (6, .int xi)]) hx hb d_t_mostEven_143 rfl hl (by decide) rfl (fun ls hl => ?_)
                        refine lv_lload hx hb d_t_mostEven_144 (lv_at hl 2 rfl) ?_
                        refine lv_lstore (lv' := [(4, .long (if 0 < (0 - ((f_t_weightOfAll wt) - 0)) then (0 - ((f_t_weightOfAll wt) - 0)) else -(0 - ((f_t_weightOfAll wt) - 0)))), (3, .int xi), (11, .int 1), (9, .long (if 0 < (0 - ((f_t_weightOfAll wt) - 0)) then (0 - ((f_t_weightOfAll wt) - 0)) else -(0 - ((f_t_weightOfAll wt) - 0)))), (7, .long 0), (0, .ref t), (1, .long (f_t_weightOfAll wt)), (6, .int xi)]) hx hb d_t_mostEven_146 hl (by decide) rfl (fun ls hl => ?_)
                        refine lv_iinc (v := xi + 1) (lv' := [(6, .int (xi + 1)), (4, .long (if 0 < (0 - ((f_t_weightOfAll wt) - 0)) then (0 - ((f_t_weightOfAll wt) - 0)) else -(0 - ((f_t_weightOfAll wt) - 0)))), (3, .int xi), (11, .int 1), (9, .long (if 0 < (0 - ((f_t_weightOfAll wt) - 0)) then (0 - ((f_t_weightOfAll wt) - 0)) else -(0 - ((f_t_weightOfAll wt) - 0)))), (7, .long 0), (0, .ref t), (1, .long (f_t_weightOfAll wt))]) hx hb d_t_mostEven_148 hl (k := 7) rfl rfl (by decide) rfl (fun ls hl => ?_)
                        refine lv_goto (tgt := 13) hx hb d_t_mostEven_151 (by decide) ?_
                        refine ro_to (by rw [L_t_mostEven_13_s, if_neg c1, if_pos c2, if_pos c20, if_pos c21, if_pos c22, if_pos c26, if_neg c30, if_neg c34, if_pos c35]) ?_
                        exact ih (k + 1) xi (if 0 < (0 - ((f_t_weightOfAll wt) - 0)) then (0 - ((f_t_weightOfAll wt) - 0)) else -(0 - ((f_t_weightOfAll wt) - 0))) (xi + 1) ls (by omega) (by omega) (by rw [hxi]; exact nI_1 _)  (lv_sub hl [6, 7, 2, 1, 0] rfl)
                      · have c35 := cp_nlt c35
                        refine lv_iload hx hb d_t_mostEven_136 (lv_at hl 0 rfl) ?_
                        refine lv_if_eq (tgt := 148) hx hb d_t_mostEven_138 (by decide) (fun c36 => absurd c36 (by decide)) (fun c36 => ?_)
                        refine lv_iload hx hb d_t_mostEven_141 (lv_at hl 7 rfl) ?_
                        refine lv_istore_n (lv' := [(3, .int xi), (11, .int 1), (9, .long (if 0 < (0 - ((f_t_weightOfAll wt) - 0)) then (0 - ((f_t_weightOfAll wt) - 0)) else -(0 - ((f_t_weightOfAll wt) - 0)))), (7, .long 0), (0, .ref t), (1, .long (f_t_weightOfAll wt)), (4, .long bg), (6, .int xi)]) hx hb d_t_mostEven_143 rfl hl (by decide) rfl (fun ls hl => ?_)
                        refine lv_lload hx hb d_t_mostEven_144 (lv_at hl 2 rfl) ?_
                        refine lv_lstore (lv' := [(4, .long (if 0 < (0 - ((f_t_weightOfAll wt) - 0)) then (0 - ((f_t_weightOfAll wt) - 0)) else -(0 - ((f_t_weightOfAll wt) - 0)))), (3, .int xi), (11, .int 1), (9, .long (if 0 < (0 - ((f_t_weightOfAll wt) - 0)) then (0 - ((f_t_weightOfAll wt) - 0)) else -(0 - ((f_t_weightOfAll wt) - 0)))), (7, .long 0), (0, .ref t), (1, .long (f_t_weightOfAll wt)), (6, .int xi)]) hx hb d_t_mostEven_146 hl (by decide) rfl (fun ls hl => ?_)
                        refine lv_iinc (v := xi + 1) (lv' := [(6, .int (xi + 1)), (4, .long (if 0 < (0 - ((f_t_weightOfAll wt) - 0)) then (0 - ((f_t_weightOfAll wt) - 0)) else -(0 - ((f_t_weightOfAll wt) - 0)))), (3, .int xi), (11, .int 1), (9, .long (if 0 < (0 - ((f_t_weightOfAll wt) - 0)) then (0 - ((f_t_weightOfAll wt) - 0)) else -(0 - ((f_t_weightOfAll wt) - 0)))), (7, .long 0), (0, .ref t), (1, .long (f_t_weightOfAll wt))]) hx hb d_t_mostEven_148 hl (k := 7) rfl rfl (by decide) rfl (fun ls hl => ?_)
                        refine lv_goto (tgt := 13) hx hb d_t_mostEven_151 (by decide) ?_
                        refine ro_to (by rw [L_t_mostEven_13_s, if_neg c1, if_pos c2, if_pos c20, if_pos c21, if_pos c22, if_pos c26, if_neg c30, if_neg c34, if_neg c35]) ?_
                        exact ih (k + 1) xi (if 0 < (0 - ((f_t_weightOfAll wt) - 0)) then (0 - ((f_t_weightOfAll wt) - 0)) else -(0 - ((f_t_weightOfAll wt) - 0))) (xi + 1) ls (by omega) (by omega) (by rw [hxi]; exact nI_1 _)  (lv_sub hl [6, 7, 2, 1, 0] rfl)
            · have c21 := cp_nlt c21
              refine lv_goto (tgt := 148) hx hb d_t_mostEven_70 (by decide) ?_
              refine lv_iinc (v := xi + 1) (lv' := [(6, .int (xi + 1)), (7, .long 0), (0, .ref t), (1, .long (f_t_weightOfAll wt)), (3, .int be), (4, .long bg)]) hx hb d_t_mostEven_148 hl (k := 5) rfl rfl (by decide) rfl (fun ls hl => ?_)
              refine lv_goto (tgt := 13) hx hb d_t_mostEven_151 (by decide) ?_
              refine ro_to (by rw [L_t_mostEven_13_s, if_neg c1, if_pos c2, if_pos c20, if_neg c21]) ?_
              exact ih (k + 1) be bg (xi + 1) ls (by omega) (by omega) (by rw [hxi]; exact nI_1 _)  (lv_sub hl [2, 3, 4, 5, 0] rfl)
  refine ro_to (by rw [f_t_mostEven]) ?_
  exact loop 41 0 (-1) 0 0 ls rfl (Nat.zero_le _) rfl  (lv_sub hl [4, 3, 2, 1, 0] rfl)
theorem d_t_standing_0 : decode b_t_standing 0 = .ok (.aload_n 0, 1) := by decide +kernel
theorem d_t_standing_1 : decode b_t_standing 1 = .ok (.invokevirtual 76, 3) := by decide +kernel
theorem d_t_standing_4 : decode b_t_standing 4 = .ok (.iconst (-1), 1) := by decide +kernel
theorem d_t_standing_5 : decode b_t_standing 5 = .ok (.if_icmp .eq 5, 3) := by decide +kernel
theorem d_t_standing_8 : decode b_t_standing 8 = .ok (.iconst 1, 1) := by decide +kernel
theorem d_t_standing_9 : decode b_t_standing 9 = .ok (.ireturn, 1) := by decide +kernel
theorem d_t_standing_10 : decode b_t_standing 10 = .ok (.aload_n 0, 1) := by decide +kernel
theorem d_t_standing_11 : decode b_t_standing 11 = .ok (.getfield 43, 3) := by decide +kernel
theorem d_t_standing_14 : decode b_t_standing 14 = .ok (.bipush 15, 2) := by decide +kernel
theorem d_t_standing_16 : decode b_t_standing 16 = .ok (.if_icmp .lt 5, 3) := by decide +kernel
theorem d_t_standing_19 : decode b_t_standing 19 = .ok (.iconst 3, 1) := by decide +kernel
theorem d_t_standing_20 : decode b_t_standing 20 = .ok (.ireturn, 1) := by decide +kernel
theorem d_t_standing_21 : decode b_t_standing 21 = .ok (.aload_n 0, 1) := by decide +kernel
theorem d_t_standing_22 : decode b_t_standing 22 = .ok (.invokevirtual 80, 3) := by decide +kernel
theorem d_t_standing_25 : decode b_t_standing 25 = .ok (.iconst (-1), 1) := by decide +kernel
theorem d_t_standing_26 : decode b_t_standing 26 = .ok (.if_icmp .ne 7, 3) := by decide +kernel
theorem d_t_standing_29 : decode b_t_standing 29 = .ok (.iconst 2, 1) := by decide +kernel
theorem d_t_standing_30 : decode b_t_standing 30 = .ok (.goto 4, 3) := by decide +kernel
theorem d_t_standing_33 : decode b_t_standing 33 = .ok (.iconst 0, 1) := by decide +kernel
theorem d_t_standing_34 : decode b_t_standing 34 = .ok (.ireturn, 1) := by decide +kernel
def f_t_standing (su : Int32) (an : Int32) (wt : Nat → Int64) (rs : Nat → Int64) (sz : Int32) (bu : Int64) (sk : Int64) : Int32 := if (f_t_culprit su wt) = (-1) then
    (if an < 15 then
      (if (f_t_mostEven wt rs sz bu sk) = (-1) then
        (2)
      else
        (0))
    else
      (3))
  else
    (1)
set_option maxHeartbeats 4000000 in
set_option maxRecDepth 100000 in
theorem c_t_standing (l : Launch) (D : va_G) (cA : Nat → ClassId) (t wa : Nat) (go cl : Int64) (se : Bool) (bad fp fq su an sks : Int32) (wt : Nat → Int64) (g pa re : Nat) (ps rs : Nat → Int64) (sz : Int32) (bu sk : Int64) (S : Nat) (hS40 : S ≤ 40) (hsz : sz = nI S) : Met l y_t_standing (.code y_t_standing b_t_standing 1 (some .int) :: tb) (rmd 4) (Pro D cA [.ref t] (va_P D classes [(t, .inr (2, [.ref g, .ref wa, .long go, .long cl, .int (bz se), .int bad, .int fp, .int fq, .int su, .int an, .int sks])), (wa, .inl (cA 0, 40, .inr (.inl wt))), (g, .inr (1, [.ref pa, .ref re, .int sz, .long bu, .long sk])), (pa, .inl (cA 0, 40, .inr (.inl ps))), (re, .inl (cA 0, 40, .inr (.inl rs)))])) (Qro (.int (f_t_standing su an wt rs sz bu sk))) 0 0 nof := by
  refine ro_in (by decide) (Nat.le_of_ble_eq_true rfl) (fun p e s m below meth c ls FX hnm hK hP hl => ?_)
  have hl : lv_has ls 1 [(0, .ref t)] := hl
  have hP : va_P D classes [(t, .inr (2, [.ref g, .ref wa, .long go, .long cl, .int (bz se), .int bad, .int fp, .int fq, .int su, .int an, .int sks])), (wa, .inl (cA 0, 40, .inr (.inl wt))), (g, .inr (1, [.ref pa, .ref re, .int sz, .long bu, .long sk])), (pa, .inl (cA 0, 40, .inr (.inl ps))), (re, .inl (cA 0, 40, .inr (.inl rs)))] s.heap := hP
  generalize ([.ref t] : List Value).toArray = args at FX ⊢
  obtain ⟨hx, hb, hml, hown, hts, hr, hlk⟩ := id FX
  refine lv_aload_n hx hb d_t_standing_0 rfl (lv_at hl 0 rfl) ?_
  refine ro_V (v := .int (f_t_culprit su wt)) (As := []) (rest := []) (q0 := 0) FX hK (c_t_culprit l D cA t wa go cl se bad fp fq su an sks wt g pa re ps rs sz bu sk) hP hP rfl rfl rfl kc_t_culprit km_t_76 ki_t ks_t_culprit ke_t_culprit rfl ok_t_culprit ⟨Nat.le_of_ble_eq_true rfl, Nat.le_of_ble_eq_true rfl⟩ ⟨Nat.zero_le _, Nat.zero_le _⟩ hl.1 rfl (Nat.le_of_ble_eq_true rfl) d_t_standing_1 ?_
  refine lv_iconst (v := (-1)) hx hb d_t_standing_4 (by decide) ?_
  refine lv_icmp_eq (tgt := 10) hx hb d_t_standing_5 (by decide) (fun c1 => ?_) (fun c1 => ?_)
  · have c1 := c1
    refine lv_aload_n hx hb d_t_standing_10 rfl (lv_at hl 0 rfl) ?_
    refine ro_get (v := .int an) FX hK hP 0 9 rfl rfl rfl i_t (by decide) kf_t_43 d_t_standing_11 ?_
    refine lv_bipush (v := 15) hx hb d_t_standing_14 (by decide) ?_
    refine lv_icmp_lt (tgt := 21) hx hb d_t_standing_16 (by decide) (fun c2 => ?_) (fun c2 => ?_)
    · have c2 := c2
      refine lv_aload_n hx hb d_t_standing_21 rfl (lv_at hl 0 rfl) ?_
      refine ro_V (v := .int (f_t_mostEven wt rs sz bu sk)) (As := []) (rest := []) (q0 := 0) FX hK (c_t_mostEven l D cA t wa go cl se bad fp fq su an sks wt g pa re ps rs sz bu sk S hS40 hsz) hP hP rfl rfl rfl kc_t_mostEven km_t_80 ki_t ks_t_mostEven ke_t_mostEven rfl ok_t_mostEven ⟨Nat.le_of_ble_eq_true rfl, Nat.le_of_ble_eq_true rfl⟩ ⟨Nat.zero_le _, Nat.zero_le _⟩ hl.1 rfl (Nat.le_of_ble_eq_true rfl) d_t_standing_22 ?_
      refine lv_iconst (v := (-1)) hx hb d_t_standing_25 (by decide) ?_
      refine lv_icmp_ne (tgt := 33) hx hb d_t_standing_26 (by decide) (fun c3 => ?_) (fun c3 => ?_)
      · have c3 := c3
        refine lv_iconst (v := 0) hx hb d_t_standing_33 (by decide) ?_
        exact ro_iret FX (by rw [f_t_standing, if_pos c1, if_pos c2, if_neg c3]) d_t_standing_34
      · have c3 := c3
        refine lv_iconst (v := 2) hx hb d_t_standing_29 (by decide) ?_
        refine lv_goto (tgt := 34) hx hb d_t_standing_30 (by decide) ?_
        exact ro_iret FX (by rw [f_t_standing, if_pos c1, if_pos c2, if_pos c3]) d_t_standing_34
    · have c2 := c2
      refine lv_iconst (v := 3) hx hb d_t_standing_19 (by decide) ?_
      exact ro_iret FX (by rw [f_t_standing, if_pos c1, if_neg c2]) d_t_standing_20
  · have c1 := c1
    refine lv_iconst (v := 1) hx hb d_t_standing_8 (by decide) ?_
    exact ro_iret FX (by rw [f_t_standing, if_neg c1]) d_t_standing_9
theorem d_t_asked_0 : decode b_t_asked 0 = .ok (.aload_n 0, 1) := by decide +kernel
theorem d_t_asked_1 : decode b_t_asked 1 = .ok (.invokevirtual 83, 3) := by decide +kernel
theorem d_t_asked_4 : decode b_t_asked 4 = .ok (.ifCond .ne 10, 3) := by decide +kernel
theorem d_t_asked_7 : decode b_t_asked 7 = .ok (.aload_n 0, 1) := by decide +kernel
theorem d_t_asked_8 : decode b_t_asked 8 = .ok (.invokevirtual 80, 3) := by decide +kernel
theorem d_t_asked_11 : decode b_t_asked 11 = .ok (.goto 4, 3) := by decide +kernel
theorem d_t_asked_14 : decode b_t_asked 14 = .ok (.iconst (-1), 1) := by decide +kernel
theorem d_t_asked_15 : decode b_t_asked 15 = .ok (.ireturn, 1) := by decide +kernel
def f_t_asked (su : Int32) (an : Int32) (wt : Nat → Int64) (rs : Nat → Int64) (sz : Int32) (bu : Int64) (sk : Int64) : Int32 := if (f_t_standing su an wt rs sz bu sk) = 0 then
    (f_t_mostEven wt rs sz bu sk)
  else
    ((-1))
set_option maxHeartbeats 4000000 in
set_option maxRecDepth 100000 in
theorem c_t_asked (l : Launch) (D : va_G) (cA : Nat → ClassId) (t wa : Nat) (go cl : Int64) (se : Bool) (bad fp fq su an sks : Int32) (wt : Nat → Int64) (g pa re : Nat) (ps rs : Nat → Int64) (sz : Int32) (bu sk : Int64) (S : Nat) (hS40 : S ≤ 40) (hsz : sz = nI S) : Met l y_t_asked (.code y_t_asked b_t_asked 1 (some .int) :: tb) (rmd 5) (Pro D cA [.ref t] (va_P D classes [(t, .inr (2, [.ref g, .ref wa, .long go, .long cl, .int (bz se), .int bad, .int fp, .int fq, .int su, .int an, .int sks])), (wa, .inl (cA 0, 40, .inr (.inl wt))), (g, .inr (1, [.ref pa, .ref re, .int sz, .long bu, .long sk])), (pa, .inl (cA 0, 40, .inr (.inl ps))), (re, .inl (cA 0, 40, .inr (.inl rs)))])) (Qro (.int (f_t_asked su an wt rs sz bu sk))) 0 0 nof := by
  refine ro_in (by decide) (Nat.le_of_ble_eq_true rfl) (fun p e s m below meth c ls FX hnm hK hP hl => ?_)
  have hl : lv_has ls 1 [(0, .ref t)] := hl
  have hP : va_P D classes [(t, .inr (2, [.ref g, .ref wa, .long go, .long cl, .int (bz se), .int bad, .int fp, .int fq, .int su, .int an, .int sks])), (wa, .inl (cA 0, 40, .inr (.inl wt))), (g, .inr (1, [.ref pa, .ref re, .int sz, .long bu, .long sk])), (pa, .inl (cA 0, 40, .inr (.inl ps))), (re, .inl (cA 0, 40, .inr (.inl rs)))] s.heap := hP
  generalize ([.ref t] : List Value).toArray = args at FX ⊢
  obtain ⟨hx, hb, hml, hown, hts, hr, hlk⟩ := id FX
  refine lv_aload_n hx hb d_t_asked_0 rfl (lv_at hl 0 rfl) ?_
  refine ro_V (v := .int (f_t_standing su an wt rs sz bu sk)) (As := []) (rest := []) (q0 := 0) FX hK (c_t_standing l D cA t wa go cl se bad fp fq su an sks wt g pa re ps rs sz bu sk S hS40 hsz) hP hP rfl rfl rfl kc_t_standing km_t_83 ki_t ks_t_standing ke_t_standing rfl ok_t_standing ⟨Nat.le_of_ble_eq_true rfl, Nat.le_of_ble_eq_true rfl⟩ ⟨Nat.zero_le _, Nat.zero_le _⟩ hl.1 rfl (Nat.le_of_ble_eq_true rfl) d_t_asked_1 ?_
  refine lv_if_ne (tgt := 14) hx hb d_t_asked_4 (by decide) (fun c1 => ?_) (fun c1 => ?_)
  · have c1 := c1
    refine lv_iconst (v := (-1)) hx hb d_t_asked_14 (by decide) ?_
    exact ro_iret FX (by rw [f_t_asked, if_neg c1]) d_t_asked_15
  · have c1 := c1
    refine lv_aload_n hx hb d_t_asked_7 rfl (lv_at hl 0 rfl) ?_
    refine ro_V (v := .int (f_t_mostEven wt rs sz bu sk)) (As := []) (rest := []) (q0 := 0) FX hK (c_t_mostEven l D cA t wa go cl se bad fp fq su an sks wt g pa re ps rs sz bu sk S hS40 hsz) hP hP rfl rfl rfl kc_t_mostEven km_t_80 ki_t ks_t_mostEven ke_t_mostEven rfl ok_t_mostEven ⟨Nat.le_of_ble_eq_true rfl, Nat.le_of_ble_eq_true rfl⟩ ⟨Nat.zero_le _, Nat.zero_le _⟩ hl.1 rfl (Nat.le_of_ble_eq_true rfl) d_t_asked_8 ?_
    refine lv_goto (tgt := 15) hx hb d_t_asked_11 (by decide) ?_
    exact ro_iret FX (by rw [f_t_asked, if_pos c1]) d_t_asked_15
theorem d_t_likelihood_0 : decode b_t_likelihood 0 = .ok (.iload_n 1, 1) := by decide +kernel
theorem d_t_likelihood_1 : decode b_t_likelihood 1 = .ok (.iconst 1, 1) := by decide +kernel
theorem d_t_likelihood_2 : decode b_t_likelihood 2 = .ok (.if_icmp .ne 22, 3) := by decide +kernel
theorem d_t_likelihood_5 : decode b_t_likelihood 5 = .ok (.iload_n 2, 1) := by decide +kernel
theorem d_t_likelihood_6 : decode b_t_likelihood 6 = .ok (.ifCond .eq 16, 3) := by decide +kernel
theorem d_t_likelihood_9 : decode b_t_likelihood 9 = .ok (.aload_n 0, 1) := by decide +kernel
theorem d_t_likelihood_10 : decode b_t_likelihood 10 = .ok (.getfield 37, 3) := by decide +kernel
theorem d_t_likelihood_13 : decode b_t_likelihood 13 = .ok (.aload_n 0, 1) := by decide +kernel
theorem d_t_likelihood_14 : decode b_t_likelihood 14 = .ok (.getfield 34, 3) := by decide +kernel
theorem d_t_likelihood_17 : decode b_t_likelihood 17 = .ok (.isub, 1) := by decide +kernel
theorem d_t_likelihood_18 : decode b_t_likelihood 18 = .ok (.i2l, 1) := by decide +kernel
theorem d_t_likelihood_19 : decode b_t_likelihood 19 = .ok (.goto 4, 3) := by decide +kernel
theorem d_t_likelihood_22 : decode b_t_likelihood 22 = .ok (.lconst 0, 1) := by decide +kernel
theorem d_t_likelihood_23 : decode b_t_likelihood 23 = .ok (.lreturn, 1) := by decide +kernel
theorem d_t_likelihood_24 : decode b_t_likelihood 24 = .ok (.iload_n 2, 1) := by decide +kernel
theorem d_t_likelihood_25 : decode b_t_likelihood 25 = .ok (.ifCond .eq 11, 3) := by decide +kernel
theorem d_t_likelihood_28 : decode b_t_likelihood 28 = .ok (.aload_n 0, 1) := by decide +kernel
theorem d_t_likelihood_29 : decode b_t_likelihood 29 = .ok (.getfield 34, 3) := by decide +kernel
theorem d_t_likelihood_32 : decode b_t_likelihood 32 = .ok (.i2l, 1) := by decide +kernel
theorem d_t_likelihood_33 : decode b_t_likelihood 33 = .ok (.goto 8, 3) := by decide +kernel
theorem d_t_likelihood_36 : decode b_t_likelihood 36 = .ok (.aload_n 0, 1) := by decide +kernel
theorem d_t_likelihood_37 : decode b_t_likelihood 37 = .ok (.getfield 37, 3) := by decide +kernel
theorem d_t_likelihood_40 : decode b_t_likelihood 40 = .ok (.i2l, 1) := by decide +kernel
theorem d_t_likelihood_41 : decode b_t_likelihood 41 = .ok (.lreturn, 1) := by decide +kernel
def f_t_likelihood (fp : Int32) (fq : Int32) (ou : Int32) (br : Bool) : Int64 := if ou = 1 then
    (if br = true then
      ((fq - fp).toInt64)
    else
      (0))
  else
    (if br = true then
      (fp.toInt64)
    else
      (fq.toInt64))
set_option maxHeartbeats 4000000 in
set_option maxRecDepth 100000 in
theorem c_t_likelihood (l : Launch) (D : va_G) (cA : Nat → ClassId) (t wa : Nat) (go cl : Int64) (se : Bool) (bad fp fq su an sks : Int32) (wt : Nat → Int64) (g pa re : Nat) (ps rs : Nat → Int64) (sz : Int32) (bu sk : Int64) (ou : Int32) (br : Bool) : Met l y_t_likelihood (.code y_t_likelihood b_t_likelihood 3 (some .long) :: tb) (rmd 0) (Pro D cA [.ref t, .int ou, .int (bz br)] (va_P D classes [(t, .inr (2, [.ref g, .ref wa, .long go, .long cl, .int (bz se), .int bad, .int fp, .int fq, .int su, .int an, .int sks])), (wa, .inl (cA 0, 40, .inr (.inl wt))), (g, .inr (1, [.ref pa, .ref re, .int sz, .long bu, .long sk])), (pa, .inl (cA 0, 40, .inr (.inl ps))), (re, .inl (cA 0, 40, .inr (.inl rs)))])) (Qro (.long (f_t_likelihood fp fq ou br))) 0 0 nof := by
  refine ro_in (by decide) (Nat.le_of_ble_eq_true rfl) (fun p e s m below meth c ls FX hnm hK hP hl => ?_)
  have hl : lv_has ls 3 [(0, .ref t), (1, .int ou), (2, .int (bz br))] := hl
  have hP : va_P D classes [(t, .inr (2, [.ref g, .ref wa, .long go, .long cl, .int (bz se), .int bad, .int fp, .int fq, .int su, .int an, .int sks])), (wa, .inl (cA 0, 40, .inr (.inl wt))), (g, .inr (1, [.ref pa, .ref re, .int sz, .long bu, .long sk])), (pa, .inl (cA 0, 40, .inr (.inl ps))), (re, .inl (cA 0, 40, .inr (.inl rs)))] s.heap := hP
  generalize ([.ref t, .int ou, .int (bz br)] : List Value).toArray = args at FX ⊢
  obtain ⟨hx, hb, hml, hown, hts, hr, hlk⟩ := id FX
  refine lv_iload_n hx hb d_t_likelihood_0 rfl (lv_at hl 1 rfl) ?_
  refine lv_iconst (v := 1) hx hb d_t_likelihood_1 (by decide) ?_
  refine lv_icmp_ne (tgt := 24) hx hb d_t_likelihood_2 (by decide) (fun c1 => ?_) (fun c1 => ?_)
  · have c1 := c1
    refine lv_iload_n hx hb d_t_likelihood_24 rfl (lv_at hl 2 rfl) ?_
    refine lv_if_eq (tgt := 36) hx hb d_t_likelihood_25 (by decide) (fun c2 => ?_) (fun c2 => ?_)
    · have c2 := bz_f c2
      refine lv_aload_n hx hb d_t_likelihood_36 rfl (lv_at hl 0 rfl) ?_
      refine ro_get (v := .int fq) FX hK hP 0 7 rfl rfl rfl i_t (by decide) kf_t_37 d_t_likelihood_37 ?_
      refine lv_i2l (v := fq.toInt64) hx hb d_t_likelihood_40 rfl ?_
      exact ro_lret FX (by rw [f_t_likelihood, if_neg c1, if_neg c2]) d_t_likelihood_41
    · have c2 := bz_t c2
      refine lv_aload_n hx hb d_t_likelihood_28 rfl (lv_at hl 0 rfl) ?_
      refine ro_get (v := .int fp) FX hK hP 0 6 rfl rfl rfl i_t (by decide) kf_t_34 d_t_likelihood_29 ?_
      refine lv_i2l (v := fp.toInt64) hx hb d_t_likelihood_32 rfl ?_
      refine lv_goto (tgt := 41) hx hb d_t_likelihood_33 (by decide) ?_
      exact ro_lret FX (by rw [f_t_likelihood, if_neg c1, if_pos c2]) d_t_likelihood_41
  · have c1 := c1
    refine lv_iload_n hx hb d_t_likelihood_5 rfl (lv_at hl 2 rfl) ?_
    refine lv_if_eq (tgt := 22) hx hb d_t_likelihood_6 (by decide) (fun c3 => ?_) (fun c3 => ?_)
    · have c3 := bz_f c3
      refine lv_lconst (v := 0) hx hb d_t_likelihood_22 (by decide) ?_
      exact ro_lret FX (by rw [f_t_likelihood, if_pos c1, if_neg c3]) d_t_likelihood_23
    · have c3 := bz_t c3
      refine lv_aload_n hx hb d_t_likelihood_9 rfl (lv_at hl 0 rfl) ?_
      refine ro_get (v := .int fq) FX hK hP 0 7 rfl rfl rfl i_t (by decide) kf_t_37 d_t_likelihood_10 ?_
      refine lv_aload_n hx hb d_t_likelihood_13 rfl (lv_at hl 0 rfl) ?_
      refine ro_get (v := .int fp) FX hK hP 0 6 rfl rfl rfl i_t (by decide) kf_t_34 d_t_likelihood_14 ?_
      refine lv_isub hx hb d_t_likelihood_17 ?_
      refine lv_i2l (v := (fq - fp).toInt64) hx hb d_t_likelihood_18 rfl ?_
      refine lv_goto (tgt := 23) hx hb d_t_likelihood_19 (by decide) ?_
      exact ro_lret FX (by rw [f_t_likelihood, if_pos c1, if_pos c3]) d_t_likelihood_23
theorem d_t_rankOf_0 : decode b_t_rankOf 0 = .ok (.aload_n 0, 1) := by decide +kernel
theorem d_t_rankOf_1 : decode b_t_rankOf 1 = .ok (.iload_n 1, 1) := by decide +kernel
theorem d_t_rankOf_2 : decode b_t_rankOf 2 = .ok (.invokevirtual 120, 3) := by decide +kernel
theorem d_t_rankOf_5 : decode b_t_rankOf 5 = .ok (.lstore_n 2, 1) := by decide +kernel
theorem d_t_rankOf_6 : decode b_t_rankOf 6 = .ok (.iconst 0, 1) := by decide +kernel
theorem d_t_rankOf_7 : decode b_t_rankOf 7 = .ok (.istore 4, 2) := by decide +kernel
theorem d_t_rankOf_9 : decode b_t_rankOf 9 = .ok (.iconst 0, 1) := by decide +kernel
theorem d_t_rankOf_10 : decode b_t_rankOf 10 = .ok (.istore 5, 2) := by decide +kernel
theorem d_t_rankOf_12 : decode b_t_rankOf 12 = .ok (.iload 5, 2) := by decide +kernel
theorem d_t_rankOf_14 : decode b_t_rankOf 14 = .ok (.aload_n 0, 1) := by decide +kernel
theorem d_t_rankOf_15 : decode b_t_rankOf 15 = .ok (.getfield 15, 3) := by decide +kernel
theorem d_t_rankOf_18 : decode b_t_rankOf 18 = .ok (.arraylength, 1) := by decide +kernel
theorem d_t_rankOf_19 : decode b_t_rankOf 19 = .ok (.if_icmp .ge 42, 3) := by decide +kernel
theorem d_t_rankOf_22 : decode b_t_rankOf 22 = .ok (.aload_n 0, 1) := by decide +kernel
theorem d_t_rankOf_23 : decode b_t_rankOf 23 = .ok (.getfield 15, 3) := by decide +kernel
theorem d_t_rankOf_26 : decode b_t_rankOf 26 = .ok (.iload 5, 2) := by decide +kernel
theorem d_t_rankOf_28 : decode b_t_rankOf 28 = .ok (.laload, 1) := by decide +kernel
theorem d_t_rankOf_29 : decode b_t_rankOf 29 = .ok (.lload_n 2, 1) := by decide +kernel
theorem d_t_rankOf_30 : decode b_t_rankOf 30 = .ok (.lcmp, 1) := by decide +kernel
theorem d_t_rankOf_31 : decode b_t_rankOf 31 = .ok (.ifCond .gt 21, 3) := by decide +kernel
theorem d_t_rankOf_34 : decode b_t_rankOf 34 = .ok (.aload_n 0, 1) := by decide +kernel
theorem d_t_rankOf_35 : decode b_t_rankOf 35 = .ok (.getfield 15, 3) := by decide +kernel
theorem d_t_rankOf_38 : decode b_t_rankOf 38 = .ok (.iload 5, 2) := by decide +kernel
theorem d_t_rankOf_40 : decode b_t_rankOf 40 = .ok (.laload, 1) := by decide +kernel
theorem d_t_rankOf_41 : decode b_t_rankOf 41 = .ok (.lload_n 2, 1) := by decide +kernel
theorem d_t_rankOf_42 : decode b_t_rankOf 42 = .ok (.lcmp, 1) := by decide +kernel
theorem d_t_rankOf_43 : decode b_t_rankOf 43 = .ok (.ifCond .ne 12, 3) := by decide +kernel
theorem d_t_rankOf_46 : decode b_t_rankOf 46 = .ok (.iload 5, 2) := by decide +kernel
theorem d_t_rankOf_48 : decode b_t_rankOf 48 = .ok (.iload_n 1, 1) := by decide +kernel
theorem d_t_rankOf_49 : decode b_t_rankOf 49 = .ok (.if_icmp .ge 6, 3) := by decide +kernel
theorem d_t_rankOf_52 : decode b_t_rankOf 52 = .ok (.iinc 4 1, 3) := by decide +kernel
theorem d_t_rankOf_55 : decode b_t_rankOf 55 = .ok (.iinc 5 1, 3) := by decide +kernel
theorem d_t_rankOf_58 : decode b_t_rankOf 58 = .ok (.goto (-46), 3) := by decide +kernel
theorem d_t_rankOf_61 : decode b_t_rankOf 61 = .ok (.iload 4, 2) := by decide +kernel
theorem d_t_rankOf_63 : decode b_t_rankOf 63 = .ok (.ireturn, 1) := by decide +kernel
def L_t_rankOf_12 (wt : Nat → Int64) (nu : Int32) : Nat → Int32 → Int32 → Int32
  | 0, _, _ => 0
  | n + 1, bf, xi => if 40 ≤ xi then
    (bf)
  else
    (if (f_t_weightOf wt nu) < (wt xi.toNatClampNeg) then
      (L_t_rankOf_12 wt nu n (bf + 1) (xi + 1))
    else
      (if (wt xi.toNatClampNeg) = (f_t_weightOf wt nu) then
        (if nu ≤ xi then
          (L_t_rankOf_12 wt nu n bf (xi + 1))
        else
          (L_t_rankOf_12 wt nu n (bf + 1) (xi + 1)))
      else
        (L_t_rankOf_12 wt nu n bf (xi + 1))))
theorem L_t_rankOf_12_s (wt : Nat → Int64) (nu : Int32) (n : Nat) (bf : Int32) (xi : Int32) : L_t_rankOf_12 wt nu (n + 1) bf xi = if 40 ≤ xi then
    (bf)
  else
    (if (f_t_weightOf wt nu) < (wt xi.toNatClampNeg) then
      (L_t_rankOf_12 wt nu n (bf + 1) (xi + 1))
    else
      (if (wt xi.toNatClampNeg) = (f_t_weightOf wt nu) then
        (if nu ≤ xi then
          (L_t_rankOf_12 wt nu n bf (xi + 1))
        else
          (L_t_rankOf_12 wt nu n (bf + 1) (xi + 1)))
      else
        (L_t_rankOf_12 wt nu n bf (xi + 1)))) := rfl
def f_t_rankOf (wt : Nat → Int64) (nu : Int32) : Int32 := L_t_rankOf_12 wt nu 41 0 0
set_option maxHeartbeats 4000000 in
set_option maxRecDepth 100000 in
theorem c_t_rankOf (l : Launch) (D : va_G) (cA : Nat → ClassId) (t wa : Nat) (go cl : Int64) (se : Bool) (bad fp fq su an sks : Int32) (wt : Nat → Int64) (g pa re : Nat) (ps rs : Nat → Int64) (sz : Int32) (bu sk : Int64) (nu : Int32) : Met l y_t_rankOf (.code y_t_rankOf b_t_rankOf 6 (some .int) :: tb) (rmd 1) (Pro D cA [.ref t, .int nu] (va_P D classes [(t, .inr (2, [.ref g, .ref wa, .long go, .long cl, .int (bz se), .int bad, .int fp, .int fq, .int su, .int an, .int sks])), (wa, .inl (cA 0, 40, .inr (.inl wt))), (g, .inr (1, [.ref pa, .ref re, .int sz, .long bu, .long sk])), (pa, .inl (cA 0, 40, .inr (.inl ps))), (re, .inl (cA 0, 40, .inr (.inl rs)))])) (Qro (.int (f_t_rankOf wt nu))) 0 0 nof := by
  refine ro_in (by decide) (Nat.le_of_ble_eq_true rfl) (fun p e s m below meth c ls FX hnm hK hP hl => ?_)
  have hl : lv_has ls 6 [(0, .ref t), (1, .int nu)] := hl
  have hP : va_P D classes [(t, .inr (2, [.ref g, .ref wa, .long go, .long cl, .int (bz se), .int bad, .int fp, .int fq, .int su, .int an, .int sks])), (wa, .inl (cA 0, 40, .inr (.inl wt))), (g, .inr (1, [.ref pa, .ref re, .int sz, .long bu, .long sk])), (pa, .inl (cA 0, 40, .inr (.inl ps))), (re, .inl (cA 0, 40, .inr (.inl rs)))] s.heap := hP
  generalize ([.ref t, .int nu] : List Value).toArray = args at FX ⊢
  obtain ⟨hx, hb, hml, hown, hts, hr, hlk⟩ := id FX
  refine lv_aload_n hx hb d_t_rankOf_0 rfl (lv_at hl 0 rfl) ?_
  refine lv_iload_n hx hb d_t_rankOf_1 rfl (lv_at hl 1 rfl) ?_
  refine ro_V (v := .long (f_t_weightOf wt nu)) (As := [.int nu]) (rest := []) (q0 := 0) FX hK (c_t_weightOf l D cA t wa go cl se bad fp fq su an sks wt g pa re ps rs sz bu sk nu) hP hP rfl rfl rfl kc_t_weightOf km_t_120 ki_t ks_t_weightOf ke_t_weightOf rfl ok_t_weightOf ⟨Nat.le_of_ble_eq_true rfl, Nat.le_of_ble_eq_true rfl⟩ ⟨Nat.zero_le _, Nat.zero_le _⟩ hl.1 rfl (Nat.le_of_ble_eq_true rfl) d_t_rankOf_2 ?_
  refine lv_lstore_n (lv' := [(2, .long (f_t_weightOf wt nu)), (0, .ref t), (1, .int nu)]) hx hb d_t_rankOf_5 rfl hl (by decide) rfl (fun ls hl => ?_)
  refine lv_iconst (v := 0) hx hb d_t_rankOf_6 (by decide) ?_
  refine lv_istore (lv' := [(4, .int 0), (2, .long (f_t_weightOf wt nu)), (0, .ref t), (1, .int nu)]) hx hb d_t_rankOf_7 hl (by decide) rfl (fun ls hl => ?_)
  refine lv_iconst (v := 0) hx hb d_t_rankOf_9 (by decide) ?_
  refine lv_istore (lv' := [(5, .int 0), (4, .int 0), (2, .long (f_t_weightOf wt nu)), (0, .ref t), (1, .int nu)]) hx hb d_t_rankOf_10 hl (by decide) rfl (fun ls hl => ?_)
  have loop : ∀ (n k : Nat) (bf : Int32) (xi : Int32) (ls : Array Slot), k + n = 41 → k ≤ 40 → xi = nI k → lv_has ls 6 [(0, .ref t), (1, .int nu), (2, .long (f_t_weightOf wt nu)), (4, .int bf), (5, .int xi)] → W p l e (rmd 1) s m args below meth c s.heap [] 0 0 (MQ below (Qro (.int (L_t_rankOf_12 wt nu n bf xi))) args s 0 0 nof) (F0 m 12 ls []) := by
    intro n
    induction n with
    | zero =>
      intro k bf xi ls h1 h2
      exact absurd h1 (by omega)
    | succ n ih =>
      intro k bf xi ls hkn hk hxi hl
      refine lv_iload hx hb d_t_rankOf_12 (lv_at hl 4 rfl) ?_
      refine lv_aload_n hx hb d_t_rankOf_14 rfl (lv_at hl 0 rfl) ?_
      refine ro_get (v := .ref wa) FX hK hP 0 1 rfl rfl rfl i_t (by decide) kf_t_15 d_t_rankOf_15 ?_
      refine va_alen (v := 40) hx hb hK.1 hP 1 0 rfl rfl rfl d_t_rankOf_18 ?_
      refine lv_icmp_ge (tgt := 61) hx hb d_t_rankOf_19 (by decide) (fun c1 => ?_) (fun c1 => ?_)
      · have c1 := c1
        refine lv_iload hx hb d_t_rankOf_61 (lv_at hl 3 rfl) ?_
        exact ro_iret FX (by rw [L_t_rankOf_12_s, if_pos c1]) d_t_rankOf_63
      · have c1 := c1
        have hk1 : k < 40 := k_lt hxi rfl c1 (by omega)
        refine lv_aload_n hx hb d_t_rankOf_22 rfl (lv_at hl 0 rfl) ?_
        refine ro_get (v := .ref wa) FX hK hP 0 1 rfl rfl rfl i_t (by decide) kf_t_15 d_t_rankOf_23 ?_
        refine lv_iload hx hb d_t_rankOf_26 (lv_at hl 4 rfl) ?_
        refine va_lald hx hb hK.1 hP 1 0 rfl rfl (vin hxi hk1 (by decide)) d_t_rankOf_28 ?_
        refine lv_lload_n hx hb d_t_rankOf_29 rfl (lv_at hl 2 rfl) ?_
        refine W.lcmp hx hb d_t_rankOf_30 ?_
        refine lv_if_gt (tgt := 52) hx hb d_t_rankOf_31 (by decide) (fun c2 => ?_) (fun c2 => ?_)
        · have c2 := cp_gt c2
          refine lv_iinc (v := bf + 1) (lv' := [(4, .int (bf + 1)), (0, .ref t), (1, .int nu), (2, .long (f_t_weightOf wt nu)), (5, .int xi)]) hx hb d_t_rankOf_52 hl (k := 3) rfl rfl (by decide) rfl (fun ls hl => ?_)
          refine lv_iinc (v := xi + 1) (lv' := [(5, .int (xi + 1)), (4, .int (bf + 1)), (0, .ref t), (1, .int nu), (2, .long (f_t_weightOf wt nu))]) hx hb d_t_rankOf_55 hl (k := 4) rfl rfl (by decide) rfl (fun ls hl => ?_)
          refine lv_goto (tgt := 12) hx hb d_t_rankOf_58 (by decide) ?_
          refine ro_to (by rw [L_t_rankOf_12_s, if_neg c1, if_pos c2]) ?_
          exact ih (k + 1) (bf + 1) (xi + 1) ls (by omega) (by omega) (by rw [hxi]; exact nI_1 _)  (lv_sub hl [2, 3, 4, 1, 0] rfl)
        · have c2 := cp_ngt c2
          refine lv_aload_n hx hb d_t_rankOf_34 rfl (lv_at hl 0 rfl) ?_
          refine ro_get (v := .ref wa) FX hK hP 0 1 rfl rfl rfl i_t (by decide) kf_t_15 d_t_rankOf_35 ?_
          refine lv_iload hx hb d_t_rankOf_38 (lv_at hl 4 rfl) ?_
          refine va_lald hx hb hK.1 hP 1 0 rfl rfl (vin hxi hk1 (by decide)) d_t_rankOf_40 ?_
          refine lv_lload_n hx hb d_t_rankOf_41 rfl (lv_at hl 2 rfl) ?_
          refine W.lcmp hx hb d_t_rankOf_42 ?_
          refine lv_if_ne (tgt := 55) hx hb d_t_rankOf_43 (by decide) (fun c3 => ?_) (fun c3 => ?_)
          · have c3 := cp_ne c3
            refine lv_iinc (v := xi + 1) (lv' := [(5, .int (xi + 1)), (0, .ref t), (1, .int nu), (2, .long (f_t_weightOf wt nu)), (4, .int bf)]) hx hb d_t_rankOf_55 hl (k := 4) rfl rfl (by decide) rfl (fun ls hl => ?_)
            refine lv_goto (tgt := 12) hx hb d_t_rankOf_58 (by decide) ?_
            refine ro_to (by rw [L_t_rankOf_12_s, if_neg c1, if_neg c2, if_neg c3]) ?_
            exact ih (k + 1) bf (xi + 1) ls (by omega) (by omega) (by rw [hxi]; exact nI_1 _)  (lv_sub hl [1, 2, 3, 4, 0] rfl)
          · have c3 := cp_eq c3
            refine lv_iload hx hb d_t_rankOf_46 (lv_at hl 4 rfl) ?_
            refine lv_iload_n hx hb d_t_rankOf_48 rfl (lv_at hl 1 rfl) ?_
            refine lv_icmp_ge (tgt := 55) hx hb d_t_rankOf_49 (by decide) (fun c4 => ?_) (fun c4 => ?_)
            · have c4 := c4
              refine lv_iinc (v := xi + 1) (lv' := [(5, .int (xi + 1)), (0, .ref t), (1, .int nu), (2, .long (f_t_weightOf wt nu)), (4, .int bf)]) hx hb d_t_rankOf_55 hl (k := 4) rfl rfl (by decide) rfl (fun ls hl => ?_)
              refine lv_goto (tgt := 12) hx hb d_t_rankOf_58 (by decide) ?_
              refine ro_to (by rw [L_t_rankOf_12_s, if_neg c1, if_neg c2, if_pos c3, if_pos c4]) ?_
              exact ih (k + 1) bf (xi + 1) ls (by omega) (by omega) (by rw [hxi]; exact nI_1 _)  (lv_sub hl [1, 2, 3, 4, 0] rfl)
            · have c4 := c4
              refine lv_iinc (v := bf + 1) (lv' := [(4, .int (bf + 1)), (0, .ref t), (1, .int nu), (2, .long (f_t_weightOf wt nu)), (5, .int xi)]) hx hb d_t_rankOf_52 hl (k := 3) rfl rfl (by decide) rfl (fun ls hl => ?_)
              refine lv_iinc (v := xi + 1) (lv' := [(5, .int (xi + 1)), (4, .int (bf + 1)), (0, .ref t), (1, .int nu), (2, .long (f_t_weightOf wt nu))]) hx hb d_t_rankOf_55 hl (k := 4) rfl rfl (by decide) rfl (fun ls hl => ?_)
              refine lv_goto (tgt := 12) hx hb d_t_rankOf_58 (by decide) ?_
              refine ro_to (by rw [L_t_rankOf_12_s, if_neg c1, if_neg c2, if_pos c3, if_neg c4]) ?_
              exact ih (k + 1) (bf + 1) (xi + 1) ls (by omega) (by omega) (by rw [hxi]; exact nI_1 _)  (lv_sub hl [2, 3, 4, 1, 0] rfl)
  refine ro_to (by rw [f_t_rankOf]) ?_
  exact loop 41 0 0 0 ls rfl (Nat.zero_le _) rfl  (lv_sub hl [3, 4, 2, 1, 0] rfl)
theorem d_t_ranked_0 : decode b_t_ranked 0 = .ok (.iconst 0, 1) := by decide +kernel
theorem d_t_ranked_1 : decode b_t_ranked 1 = .ok (.istore_n 2, 1) := by decide +kernel
theorem d_t_ranked_2 : decode b_t_ranked 2 = .ok (.iload_n 2, 1) := by decide +kernel
theorem d_t_ranked_3 : decode b_t_ranked 3 = .ok (.aload_n 0, 1) := by decide +kernel
theorem d_t_ranked_4 : decode b_t_ranked 4 = .ok (.getfield 15, 3) := by decide +kernel
theorem d_t_ranked_7 : decode b_t_ranked 7 = .ok (.arraylength, 1) := by decide +kernel
theorem d_t_ranked_8 : decode b_t_ranked 8 = .ok (.if_icmp .ge 31, 3) := by decide +kernel
theorem d_t_ranked_11 : decode b_t_ranked 11 = .ok (.aload_n 0, 1) := by decide +kernel
theorem d_t_ranked_12 : decode b_t_ranked 12 = .ok (.getfield 15, 3) := by decide +kernel
theorem d_t_ranked_15 : decode b_t_ranked 15 = .ok (.iload_n 2, 1) := by decide +kernel
theorem d_t_ranked_16 : decode b_t_ranked 16 = .ok (.laload, 1) := by decide +kernel
theorem d_t_ranked_17 : decode b_t_ranked 17 = .ok (.lconst 0, 1) := by decide +kernel
theorem d_t_ranked_18 : decode b_t_ranked 18 = .ok (.lcmp, 1) := by decide +kernel
theorem d_t_ranked_19 : decode b_t_ranked 19 = .ok (.ifCond .le 14, 3) := by decide +kernel
theorem d_t_ranked_22 : decode b_t_ranked 22 = .ok (.aload_n 0, 1) := by decide +kernel
theorem d_t_ranked_23 : decode b_t_ranked 23 = .ok (.iload_n 2, 1) := by decide +kernel
theorem d_t_ranked_24 : decode b_t_ranked 24 = .ok (.invokevirtual 116, 3) := by decide +kernel
theorem d_t_ranked_27 : decode b_t_ranked 27 = .ok (.iload_n 1, 1) := by decide +kernel
theorem d_t_ranked_28 : decode b_t_ranked 28 = .ok (.if_icmp .ne 5, 3) := by decide +kernel
theorem d_t_ranked_31 : decode b_t_ranked 31 = .ok (.iload_n 2, 1) := by decide +kernel
theorem d_t_ranked_32 : decode b_t_ranked 32 = .ok (.ireturn, 1) := by decide +kernel
theorem d_t_ranked_33 : decode b_t_ranked 33 = .ok (.iinc 2 1, 3) := by decide +kernel
theorem d_t_ranked_36 : decode b_t_ranked 36 = .ok (.goto (-34), 3) := by decide +kernel
theorem d_t_ranked_39 : decode b_t_ranked 39 = .ok (.iconst (-1), 1) := by decide +kernel
theorem d_t_ranked_40 : decode b_t_ranked 40 = .ok (.ireturn, 1) := by decide +kernel
def L_t_ranked_2 (wt : Nat → Int64) (kk : Int32) : Nat → Int32 → Int32
  | 0, _ => 0
  | n + 1, xi => if 40 ≤ xi then
    ((-1))
  else
    (if 0 < (wt xi.toNatClampNeg) then
      (if (f_t_rankOf wt xi) = kk then
        (xi)
      else
        (L_t_ranked_2 wt kk n (xi + 1)))
    else
      (L_t_ranked_2 wt kk n (xi + 1)))
theorem L_t_ranked_2_s (wt : Nat → Int64) (kk : Int32) (n : Nat) (xi : Int32) : L_t_ranked_2 wt kk (n + 1) xi = if 40 ≤ xi then
    ((-1))
  else
    (if 0 < (wt xi.toNatClampNeg) then
      (if (f_t_rankOf wt xi) = kk then
        (xi)
      else
        (L_t_ranked_2 wt kk n (xi + 1)))
    else
      (L_t_ranked_2 wt kk n (xi + 1))) := rfl
def f_t_ranked (wt : Nat → Int64) (kk : Int32) : Int32 := L_t_ranked_2 wt kk 41 0
set_option maxHeartbeats 4000000 in
set_option maxRecDepth 100000 in
theorem c_t_ranked (l : Launch) (D : va_G) (cA : Nat → ClassId) (t wa : Nat) (go cl : Int64) (se : Bool) (bad fp fq su an sks : Int32) (wt : Nat → Int64) (g pa re : Nat) (ps rs : Nat → Int64) (sz : Int32) (bu sk : Int64) (kk : Int32) : Met l y_t_ranked (.code y_t_ranked b_t_ranked 3 (some .int) :: tb) (rmd 2) (Pro D cA [.ref t, .int kk] (va_P D classes [(t, .inr (2, [.ref g, .ref wa, .long go, .long cl, .int (bz se), .int bad, .int fp, .int fq, .int su, .int an, .int sks])), (wa, .inl (cA 0, 40, .inr (.inl wt))), (g, .inr (1, [.ref pa, .ref re, .int sz, .long bu, .long sk])), (pa, .inl (cA 0, 40, .inr (.inl ps))), (re, .inl (cA 0, 40, .inr (.inl rs)))])) (Qro (.int (f_t_ranked wt kk))) 0 0 nof := by
  refine ro_in (by decide) (Nat.le_of_ble_eq_true rfl) (fun p e s m below meth c ls FX hnm hK hP hl => ?_)
  have hl : lv_has ls 3 [(0, .ref t), (1, .int kk)] := hl
  have hP : va_P D classes [(t, .inr (2, [.ref g, .ref wa, .long go, .long cl, .int (bz se), .int bad, .int fp, .int fq, .int su, .int an, .int sks])), (wa, .inl (cA 0, 40, .inr (.inl wt))), (g, .inr (1, [.ref pa, .ref re, .int sz, .long bu, .long sk])), (pa, .inl (cA 0, 40, .inr (.inl ps))), (re, .inl (cA 0, 40, .inr (.inl rs)))] s.heap := hP
  generalize ([.ref t, .int kk] : List Value).toArray = args at FX ⊢
  obtain ⟨hx, hb, hml, hown, hts, hr, hlk⟩ := id FX
  refine lv_iconst (v := 0) hx hb d_t_ranked_0 (by decide) ?_
  refine lv_istore_n (lv' := [(2, .int 0), (0, .ref t), (1, .int kk)]) hx hb d_t_ranked_1 rfl hl (by decide) rfl (fun ls hl => ?_)
  have loop : ∀ (n k : Nat) (xi : Int32) (ls : Array Slot), k + n = 41 → k ≤ 40 → xi = nI k → lv_has ls 3 [(0, .ref t), (1, .int kk), (2, .int xi)] → W p l e (rmd 2) s m args below meth c s.heap [] 0 0 (MQ below (Qro (.int (L_t_ranked_2 wt kk n xi))) args s 0 0 nof) (F0 m 2 ls []) := by
    intro n
    induction n with
    | zero =>
      intro k xi ls h1 h2
      exact absurd h1 (by omega)
    | succ n ih =>
      intro k xi ls hkn hk hxi hl
      refine lv_iload_n hx hb d_t_ranked_2 rfl (lv_at hl 2 rfl) ?_
      refine lv_aload_n hx hb d_t_ranked_3 rfl (lv_at hl 0 rfl) ?_
      refine ro_get (v := .ref wa) FX hK hP 0 1 rfl rfl rfl i_t (by decide) kf_t_15 d_t_ranked_4 ?_
      refine va_alen (v := 40) hx hb hK.1 hP 1 0 rfl rfl rfl d_t_ranked_7 ?_
      refine lv_icmp_ge (tgt := 39) hx hb d_t_ranked_8 (by decide) (fun c1 => ?_) (fun c1 => ?_)
      · have c1 := c1
        refine lv_iconst (v := (-1)) hx hb d_t_ranked_39 (by decide) ?_
        exact ro_iret FX (by rw [L_t_ranked_2_s, if_pos c1]) d_t_ranked_40
      · have c1 := c1
        have hk1 : k < 40 := k_lt hxi rfl c1 (by omega)
        refine lv_aload_n hx hb d_t_ranked_11 rfl (lv_at hl 0 rfl) ?_
        refine ro_get (v := .ref wa) FX hK hP 0 1 rfl rfl rfl i_t (by decide) kf_t_15 d_t_ranked_12 ?_
        refine lv_iload_n hx hb d_t_ranked_15 rfl (lv_at hl 2 rfl) ?_
        refine va_lald hx hb hK.1 hP 1 0 rfl rfl (vin hxi hk1 (by decide)) d_t_ranked_16 ?_
        refine lv_lconst (v := 0) hx hb d_t_ranked_17 (by decide) ?_
        refine W.lcmp hx hb d_t_ranked_18 ?_
        refine lv_if_le (tgt := 33) hx hb d_t_ranked_19 (by decide) (fun c2 => ?_) (fun c2 => ?_)
        · have c2 := cp_le c2
          refine lv_iinc (v := xi + 1) (lv' := [(2, .int (xi + 1)), (0, .ref t), (1, .int kk)]) hx hb d_t_ranked_33 hl (k := 2) rfl rfl (by decide) rfl (fun ls hl => ?_)
          refine lv_goto (tgt := 2) hx hb d_t_ranked_36 (by decide) ?_
          refine ro_to (by rw [L_t_ranked_2_s, if_neg c1, if_neg c2]) ?_
          exact ih (k + 1) (xi + 1) ls (by omega) (by omega) (by rw [hxi]; exact nI_1 _)  (lv_sub hl [1, 2, 0] rfl)
        · have c2 := cp_nle c2
          refine lv_aload_n hx hb d_t_ranked_22 rfl (lv_at hl 0 rfl) ?_
          refine lv_iload_n hx hb d_t_ranked_23 rfl (lv_at hl 2 rfl) ?_
          refine ro_V (v := .int (f_t_rankOf wt xi)) (As := [.int xi]) (rest := []) (q0 := 0) FX hK (c_t_rankOf l D cA t wa go cl se bad fp fq su an sks wt g pa re ps rs sz bu sk xi) hP hP rfl rfl rfl kc_t_rankOf km_t_116 ki_t ks_t_rankOf ke_t_rankOf rfl ok_t_rankOf ⟨Nat.le_of_ble_eq_true rfl, Nat.le_of_ble_eq_true rfl⟩ ⟨Nat.zero_le _, Nat.zero_le _⟩ hl.1 rfl (Nat.le_of_ble_eq_true rfl) d_t_ranked_24 ?_
          refine lv_iload_n hx hb d_t_ranked_27 rfl (lv_at hl 1 rfl) ?_
          refine lv_icmp_ne (tgt := 33) hx hb d_t_ranked_28 (by decide) (fun c3 => ?_) (fun c3 => ?_)
          · have c3 := c3
            refine lv_iinc (v := xi + 1) (lv' := [(2, .int (xi + 1)), (0, .ref t), (1, .int kk)]) hx hb d_t_ranked_33 hl (k := 2) rfl rfl (by decide) rfl (fun ls hl => ?_)
            refine lv_goto (tgt := 2) hx hb d_t_ranked_36 (by decide) ?_
            refine ro_to (by rw [L_t_ranked_2_s, if_neg c1, if_pos c2, if_neg c3]) ?_
            exact ih (k + 1) (xi + 1) ls (by omega) (by omega) (by rw [hxi]; exact nI_1 _)  (lv_sub hl [1, 2, 0] rfl)
          · have c3 := c3
            refine lv_iload_n hx hb d_t_ranked_31 rfl (lv_at hl 2 rfl) ?_
            exact ro_iret FX (by rw [L_t_ranked_2_s, if_neg c1, if_pos c2, if_pos c3]) d_t_ranked_32
  refine ro_to (by rw [f_t_ranked]) ?_
  exact loop 41 0 0 ls rfl (Nat.zero_le _) rfl  (lv_sub hl [1, 2, 0] rfl)
theorem d_t_onWay_0 : decode b_t_onWay 0 = .ok (.aload_n 0, 1) := by decide +kernel
theorem d_t_onWay_1 : decode b_t_onWay 1 = .ok (.invokevirtual 76, 3) := by decide +kernel
theorem d_t_onWay_4 : decode b_t_onWay 4 = .ok (.istore_n 2, 1) := by decide +kernel
theorem d_t_onWay_5 : decode b_t_onWay 5 = .ok (.iload_n 2, 1) := by decide +kernel
theorem d_t_onWay_6 : decode b_t_onWay 6 = .ok (.iconst (-1), 1) := by decide +kernel
theorem d_t_onWay_7 : decode b_t_onWay 7 = .ok (.if_icmp .eq 13, 3) := by decide +kernel
theorem d_t_onWay_10 : decode b_t_onWay 10 = .ok (.iload_n 1, 1) := by decide +kernel
theorem d_t_onWay_11 : decode b_t_onWay 11 = .ok (.ifCond .lt 9, 3) := by decide +kernel
theorem d_t_onWay_14 : decode b_t_onWay 14 = .ok (.iload_n 1, 1) := by decide +kernel
theorem d_t_onWay_15 : decode b_t_onWay 15 = .ok (.bipush 40, 2) := by decide +kernel
theorem d_t_onWay_17 : decode b_t_onWay 17 = .ok (.if_icmp .lt 5, 3) := by decide +kernel
theorem d_t_onWay_20 : decode b_t_onWay 20 = .ok (.iconst (-1), 1) := by decide +kernel
theorem d_t_onWay_21 : decode b_t_onWay 21 = .ok (.ireturn, 1) := by decide +kernel
theorem d_t_onWay_22 : decode b_t_onWay 22 = .ok (.aload_n 0, 1) := by decide +kernel
theorem d_t_onWay_23 : decode b_t_onWay 23 = .ok (.getfield 30, 3) := by decide +kernel
theorem d_t_onWay_26 : decode b_t_onWay 26 = .ok (.istore_n 3, 1) := by decide +kernel
theorem d_t_onWay_27 : decode b_t_onWay 27 = .ok (.iconst 0, 1) := by decide +kernel
theorem d_t_onWay_28 : decode b_t_onWay 28 = .ok (.istore 4, 2) := by decide +kernel
theorem d_t_onWay_30 : decode b_t_onWay 30 = .ok (.iload 4, 2) := by decide +kernel
theorem d_t_onWay_32 : decode b_t_onWay 32 = .ok (.iload_n 1, 1) := by decide +kernel
theorem d_t_onWay_33 : decode b_t_onWay 33 = .ok (.if_icmp .ge 24, 3) := by decide +kernel
theorem d_t_onWay_36 : decode b_t_onWay 36 = .ok (.iload_n 3, 1) := by decide +kernel
theorem d_t_onWay_37 : decode b_t_onWay 37 = .ok (.iconst (-1), 1) := by decide +kernel
theorem d_t_onWay_38 : decode b_t_onWay 38 = .ok (.if_icmp .eq 19, 3) := by decide +kernel
theorem d_t_onWay_41 : decode b_t_onWay 41 = .ok (.aload_n 0, 1) := by decide +kernel
theorem d_t_onWay_42 : decode b_t_onWay 42 = .ok (.getfield 9, 3) := by decide +kernel
theorem d_t_onWay_45 : decode b_t_onWay 45 = .ok (.iload_n 3, 1) := by decide +kernel
theorem d_t_onWay_46 : decode b_t_onWay 46 = .ok (.iload_n 2, 1) := by decide +kernel
theorem d_t_onWay_47 : decode b_t_onWay 47 = .ok (.invokevirtual 123, 3) := by decide +kernel
theorem d_t_onWay_50 : decode b_t_onWay 50 = .ok (.istore_n 3, 1) := by decide +kernel
theorem d_t_onWay_51 : decode b_t_onWay 51 = .ok (.iinc 4 1, 3) := by decide +kernel
theorem d_t_onWay_54 : decode b_t_onWay 54 = .ok (.goto (-24), 3) := by decide +kernel
theorem d_t_onWay_57 : decode b_t_onWay 57 = .ok (.iload_n 3, 1) := by decide +kernel
theorem d_t_onWay_58 : decode b_t_onWay 58 = .ok (.ireturn, 1) := by decide +kernel
def L_t_onWay_30 (bad : Int32) (su : Int32) (wt : Nat → Int64) (ps : Nat → Int64) (rs : Nat → Int64) (sz : Int32) (kk : Int32) : Nat → Int32 → Int32 → Int32
  | 0, _, _ => 0
  | n + 1, wy, xi => if kk ≤ xi then
    (wy)
  else
    (if wy = (-1) then
      (wy)
    else
      (L_t_onWay_30 bad su wt ps rs sz kk n (f_g_stepToward ps rs sz wy (f_t_culprit su wt)) (xi + 1)))
theorem L_t_onWay_30_s (bad : Int32) (su : Int32) (wt : Nat → Int64) (ps : Nat → Int64) (rs : Nat → Int64) (sz : Int32) (kk : Int32) (n : Nat) (wy : Int32) (xi : Int32) : L_t_onWay_30 bad su wt ps rs sz kk (n + 1) wy xi = if kk ≤ xi then
    (wy)
  else
    (if wy = (-1) then
      (wy)
    else
      (L_t_onWay_30 bad su wt ps rs sz kk n (f_g_stepToward ps rs sz wy (f_t_culprit su wt)) (xi + 1))) := rfl
def f_t_onWay (bad : Int32) (su : Int32) (wt : Nat → Int64) (ps : Nat → Int64) (rs : Nat → Int64) (sz : Int32) (kk : Int32) : Int32 := if (f_t_culprit su wt) = (-1) then
    ((-1))
  else
    (if kk < 0 then
      ((-1))
    else
      (if kk < 40 then
        (L_t_onWay_30 bad su wt ps rs sz kk 41 bad 0)
      else
        ((-1))))
set_option maxHeartbeats 4000000 in
set_option maxRecDepth 100000 in
theorem c_t_onWay (l : Launch) (D : va_G) (cA : Nat → ClassId) (t wa : Nat) (go cl : Int64) (se : Bool) (bad fp fq su an sks : Int32) (wt : Nat → Int64) (g pa re : Nat) (ps rs : Nat → Int64) (sz : Int32) (bu sk : Int64) (kk : Int32) : Met l y_t_onWay (.code y_t_onWay b_t_onWay 5 (some .int) :: tb) (rmd 3) (Pro D cA [.ref t, .int kk] (va_P D classes [(t, .inr (2, [.ref g, .ref wa, .long go, .long cl, .int (bz se), .int bad, .int fp, .int fq, .int su, .int an, .int sks])), (wa, .inl (cA 0, 40, .inr (.inl wt))), (g, .inr (1, [.ref pa, .ref re, .int sz, .long bu, .long sk])), (pa, .inl (cA 0, 40, .inr (.inl ps))), (re, .inl (cA 0, 40, .inr (.inl rs)))])) (Qro (.int (f_t_onWay bad su wt ps rs sz kk))) 0 0 nof := by
  refine ro_in (by decide) (Nat.le_of_ble_eq_true rfl) (fun p e s m below meth c ls FX hnm hK hP hl => ?_)
  have hl : lv_has ls 5 [(0, .ref t), (1, .int kk)] := hl
  have hP : va_P D classes [(t, .inr (2, [.ref g, .ref wa, .long go, .long cl, .int (bz se), .int bad, .int fp, .int fq, .int su, .int an, .int sks])), (wa, .inl (cA 0, 40, .inr (.inl wt))), (g, .inr (1, [.ref pa, .ref re, .int sz, .long bu, .long sk])), (pa, .inl (cA 0, 40, .inr (.inl ps))), (re, .inl (cA 0, 40, .inr (.inl rs)))] s.heap := hP
  generalize ([.ref t, .int kk] : List Value).toArray = args at FX ⊢
  obtain ⟨hx, hb, hml, hown, hts, hr, hlk⟩ := id FX
  refine lv_aload_n hx hb d_t_onWay_0 rfl (lv_at hl 0 rfl) ?_
  refine ro_V (v := .int (f_t_culprit su wt)) (As := []) (rest := []) (q0 := 0) FX hK (c_t_culprit l D cA t wa go cl se bad fp fq su an sks wt g pa re ps rs sz bu sk) hP hP rfl rfl rfl kc_t_culprit km_t_76 ki_t ks_t_culprit ke_t_culprit rfl ok_t_culprit ⟨Nat.le_of_ble_eq_true rfl, Nat.le_of_ble_eq_true rfl⟩ ⟨Nat.zero_le _, Nat.zero_le _⟩ hl.1 rfl (Nat.le_of_ble_eq_true rfl) d_t_onWay_1 ?_
  refine lv_istore_n (lv' := [(2, .int (f_t_culprit su wt)), (0, .ref t), (1, .int kk)]) hx hb d_t_onWay_4 rfl hl (by decide) rfl (fun ls hl => ?_)
  refine lv_iload_n hx hb d_t_onWay_5 rfl (lv_at hl 0 rfl) ?_
  refine lv_iconst (v := (-1)) hx hb d_t_onWay_6 (by decide) ?_
  refine lv_icmp_eq (tgt := 20) hx hb d_t_onWay_7 (by decide) (fun c1 => ?_) (fun c1 => ?_)
  · have c1 := c1
    refine lv_iconst (v := (-1)) hx hb d_t_onWay_20 (by decide) ?_
    exact ro_iret FX (by rw [f_t_onWay, if_pos c1]) d_t_onWay_21
  · have c1 := c1
    refine lv_iload_n hx hb d_t_onWay_10 rfl (lv_at hl 2 rfl) ?_
    refine lv_if_lt (tgt := 20) hx hb d_t_onWay_11 (by decide) (fun c2 => ?_) (fun c2 => ?_)
    · have c2 := c2
      refine lv_iconst (v := (-1)) hx hb d_t_onWay_20 (by decide) ?_
      exact ro_iret FX (by rw [f_t_onWay, if_neg c1, if_pos c2]) d_t_onWay_21
    · have c2 := c2
      refine lv_iload_n hx hb d_t_onWay_14 rfl (lv_at hl 2 rfl) ?_
      refine lv_bipush (v := 40) hx hb d_t_onWay_15 (by decide) ?_
      refine lv_icmp_lt (tgt := 22) hx hb d_t_onWay_17 (by decide) (fun c3 => ?_) (fun c3 => ?_)
      · have c3 := c3
        obtain ⟨j, hj, hjs⟩ := in_nI2 c2 c3
        refine lv_aload_n hx hb d_t_onWay_22 rfl (lv_at hl 1 rfl) ?_
        refine ro_get (v := .int bad) FX hK hP 0 5 rfl rfl rfl i_t (by decide) kf_t_30 d_t_onWay_23 ?_
        refine lv_istore_n (lv' := [(3, .int bad), (2, .int (f_t_culprit su wt)), (0, .ref t), (1, .int kk)]) hx hb d_t_onWay_26 rfl hl (by decide) rfl (fun ls hl => ?_)
        refine lv_iconst (v := 0) hx hb d_t_onWay_27 (by decide) ?_
        refine lv_istore (lv' := [(4, .int 0), (3, .int bad), (2, .int (f_t_culprit su wt)), (0, .ref t), (1, .int kk)]) hx hb d_t_onWay_28 hl (by decide) rfl (fun ls hl => ?_)
        have loop : ∀ (n k : Nat) (wy : Int32) (xi : Int32) (ls : Array Slot), k + n = 41 → k ≤ 40 → xi = nI k → lv_has ls 5 [(0, .ref t), (1, .int kk), (2, .int (f_t_culprit su wt)), (3, .int wy), (4, .int xi)] → W p l e (rmd 3) s m args below meth c s.heap [] 0 0 (MQ below (Qro (.int (L_t_onWay_30 bad su wt ps rs sz kk n wy xi))) args s 0 0 nof) (F0 m 30 ls []) := by
          intro n
          induction n with
          | zero =>
            intro k wy xi ls h1 h2
            exact absurd h1 (by omega)
          | succ n ih =>
            intro k wy xi ls hkn hk hxi hl
            refine lv_iload hx hb d_t_onWay_30 (lv_at hl 4 rfl) ?_
            refine lv_iload_n hx hb d_t_onWay_32 rfl (lv_at hl 1 rfl) ?_
            refine lv_icmp_ge (tgt := 57) hx hb d_t_onWay_33 (by decide) (fun c4 => ?_) (fun c4 => ?_)
            · have c4 := c4
              refine lv_iload_n hx hb d_t_onWay_57 rfl (lv_at hl 3 rfl) ?_
              exact ro_iret FX (by rw [L_t_onWay_30_s, if_pos c4]) d_t_onWay_58
            · have c4 := c4
              have hk1 : k < j := k_lt hxi hjs c4 (by omega)
              refine lv_iload_n hx hb d_t_onWay_36 rfl (lv_at hl 3 rfl) ?_
              refine lv_iconst (v := (-1)) hx hb d_t_onWay_37 (by decide) ?_
              refine lv_icmp_eq (tgt := 57) hx hb d_t_onWay_38 (by decide) (fun c5 => ?_) (fun c5 => ?_)
              · have c5 := c5
                refine lv_iload_n hx hb d_t_onWay_57 rfl (lv_at hl 3 rfl) ?_
                exact ro_iret FX (by rw [L_t_onWay_30_s, if_neg c4, if_pos c5]) d_t_onWay_58
              · have c5 := c5
                refine lv_aload_n hx hb d_t_onWay_41 rfl (lv_at hl 0 rfl) ?_
                refine ro_get (v := .ref g) FX hK hP 0 0 rfl rfl rfl i_t (by decide) kf_t_9 d_t_onWay_42 ?_
                refine lv_iload_n hx hb d_t_onWay_45 rfl (lv_at hl 3 rfl) ?_
                refine lv_iload_n hx hb d_t_onWay_46 rfl (lv_at hl 2 rfl) ?_
                refine ro_V (v := .int (f_g_stepToward ps rs sz wy (f_t_culprit su wt))) (As := [.int wy, .int (f_t_culprit su wt)]) (rest := []) (q0 := 2) FX hK (c_g_stepToward l D cA g pa re ps rs sz bu sk wy (f_t_culprit su wt)) (hP.sub [2, 3, 4] rfl) hP rfl rfl rfl kc_g_stepToward km_t_123 ki_g ks_g_stepToward ke_g_stepToward rfl ok_g_stepToward ⟨Nat.le_of_ble_eq_true rfl, Nat.le_of_ble_eq_true rfl⟩ ⟨Nat.zero_le _, Nat.zero_le _⟩ hl.1 rfl (Nat.le_of_ble_eq_true rfl) d_t_onWay_47 ?_
                refine lv_istore_n (lv' := [(3, .int (f_g_stepToward ps rs sz wy (f_t_culprit su wt))), (0, .ref t), (1, .int kk), (2, .int (f_t_culprit su wt)), (4, .int xi)]) hx hb d_t_onWay_50 rfl hl (by decide) rfl (fun ls hl => ?_)
                refine lv_iinc (v := xi + 1) (lv' := [(4, .int (xi + 1)), (3, .int (f_g_stepToward ps rs sz wy (f_t_culprit su wt))), (0, .ref t), (1, .int kk), (2, .int (f_t_culprit su wt))]) hx hb d_t_onWay_51 hl (k := 4) rfl rfl (by decide) rfl (fun ls hl => ?_)
                refine lv_goto (tgt := 30) hx hb d_t_onWay_54 (by decide) ?_
                refine ro_to (by rw [L_t_onWay_30_s, if_neg c4, if_neg c5]) ?_
                exact ih (k + 1) (f_g_stepToward ps rs sz wy (f_t_culprit su wt)) (xi + 1) ls (by omega) (by omega) (by rw [hxi]; exact nI_1 _)  (lv_sub hl [2, 3, 4, 1, 0] rfl)
        refine ro_to (by rw [f_t_onWay, if_neg c1, if_neg c2, if_pos c3]) ?_
        exact loop 41 0 bad 0 ls rfl (Nat.zero_le _) rfl  (lv_sub hl [3, 4, 2, 1, 0] rfl)
      · have c3 := c3
        refine lv_iconst (v := (-1)) hx hb d_t_onWay_20 (by decide) ?_
        exact ro_iret FX (by rw [f_t_onWay, if_neg c1, if_neg c2, if_neg c3]) d_t_onWay_21
end
