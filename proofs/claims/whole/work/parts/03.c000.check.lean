/-! printed by gen3.py: every row of the table passes the check -/
def gchk (mi : si_mi) : Bool := si_mok gmt gcl mi && (match si_get mi.2.2.2.2.2.2 65535 with
  | none => true
  | some _ => false)
theorem kX3_put : gchk iX3_put = true := by decide +kernel
theorem kX3_length : gchk iX3_length = true := by decide +kernel
theorem kX8_append : gchk iX8_append = true := by decide +kernel
theorem kX9_within : gchk iX9_within = true := by decide +kernel
theorem kX9_append : gchk iX9_append = true := by decide +kernel
theorem kX3_clear : gchk iX3_clear = true := by decide +kernel
theorem kX8_clearInput : gchk iX8_clearInput = true := by decide +kernel
theorem kX9_clearInput : gchk iX9_clearInput = true := by decide +kernel
theorem kX8_symbolOf : gchk iX8_symbolOf = true := by decide +kernel
theorem kX8_isNonterminal : gchk iX8_isNonterminal = true := by decide +kernel
theorem kX3_stateAfter : gchk iX3_stateAfter = true := by decide +kernel
theorem kX3_errorPlace : gchk iX3_errorPlace = true := by decide +kernel
theorem kX8_firstError : gchk iX8_firstError = true := by decide +kernel
theorem kX9_begin : gchk iX9_begin = true := by decide +kernel
theorem kX9_symbolOf : gchk iX9_symbolOf = true := by decide +kernel
theorem kX9_isNonterminal : gchk iX9_isNonterminal = true := by decide +kernel
theorem kX9_put : gchk iX9_put = true := by decide +kernel
theorem kX9_left : gchk iX9_left = true := by decide +kernel
theorem kX9_takes : gchk iX9_takes = true := by decide +kernel
theorem kX9_rightLength : gchk iX9_rightLength = true := by decide +kernel
theorem kX9_firstError : gchk iX9_firstError = true := by decide +kernel
theorem kX3_isGrammar : gchk iX3_isGrammar = true := by decide +kernel
theorem kX2_clear : gchk iX2_clear = true := by decide +kernel
theorem kX5_withoutRight : gchk iX5_withoutRight = true := by decide +kernel
theorem kX2_placeOf : gchk iX2_placeOf = true := by decide +kernel
theorem kX2_add : gchk iX2_add = true := by decide +kernel
theorem kX5_cut : gchk iX5_cut = true := by decide +kernel
theorem kX5_length : gchk iX5_length = true := by decide +kernel
theorem kX5_extended : gchk iX5_extended = true := by decide +kernel
theorem kX3_readInto : gchk iX3_readInto = true := by decide +kernel
theorem kX2_count : gchk iX2_count = true := by decide +kernel
theorem kX8_load : gchk iX8_load = true := by decide +kernel
theorem kX9_load : gchk iX9_load = true := by decide +kernel
theorem kX8_isTerminal : gchk iX8_isTerminal = true := by decide +kernel
theorem kX3_isWord : gchk iX3_isWord = true := by decide +kernel
theorem kX3_codeAt : gchk iX3_codeAt = true := by decide +kernel
theorem kX4_read : gchk iX4_read = true := by decide +kernel
theorem kJ7_fill_53178 : gchk iJ7_fill_53178 = true := by decide +kernel
theorem kX2_at : gchk iX2_at = true := by decide +kernel
theorem kX5_left : gchk iX5_left = true := by decide +kernel
theorem kX5_symbolAt : gchk iX5_symbolAt = true := by decide +kernel
