abbrev b_m_way : ByteArray := prog_5_method_24_code
def y_m_way : MethodName := ⟨"CulpritSearchModel", "way", "(II)I"⟩
theorem ok_m_way : okd y_m_way 2 := by decide +kernel
theorem kc_m_found : Cond.code y_m_found b_m_found 2 (some .int) ∈ tb := tb_mem 475 (by decide +kernel) (by decide +kernel)
theorem km_m_112 : Cond.methodLink "CulpritSearchModel" 112 y_m_found ∈ tb := tb_mem 484 (by decide +kernel) (by decide +kernel)
theorem ks_m_found : Cond.instanceMethod y_m_found ∈ tb := tb_mem 473 (by decide +kernel) (by decide +kernel)
theorem ke_m_found : Cond.selects "CulpritSearchModel" y_m_found y_m_found ∈ tb := tb_mem 474 (by decide +kernel) (by decide +kernel)
