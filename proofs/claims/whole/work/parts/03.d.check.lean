/-! printed by gen3.py: the program passes the check -/
set_option maxRecDepth 100000 in
theorem gall : ∀ mi ∈ gmt, gchk mi = true := List.forall_mem_cons.mpr ⟨kX3_put, List.forall_mem_cons.mpr ⟨kX3_length, List.forall_mem_cons.mpr ⟨kX8_append, List.forall_mem_cons.mpr ⟨kX9_within, List.forall_mem_cons.mpr ⟨kX9_append, List.forall_mem_cons.mpr ⟨kX3_clear, List.forall_mem_cons.mpr ⟨kX8_clearInput, List.forall_mem_cons.mpr ⟨kX9_clearInput, List.forall_mem_cons.mpr ⟨kX8_symbolOf, List.forall_mem_cons.mpr ⟨kX8_isNonterminal, List.forall_mem_cons.mpr ⟨kX3_stateAfter, List.forall_mem_cons.mpr ⟨kX3_errorPlace, List.forall_mem_cons.mpr ⟨kX8_firstError, List.forall_mem_cons.mpr ⟨kX9_begin, List.forall_mem_cons.mpr ⟨kX9_symbolOf, List.forall_mem_cons.mpr ⟨kX9_isNonterminal, List.forall_mem_cons.mpr ⟨kX9_put, List.forall_mem_cons.mpr ⟨kX9_left, List.forall_mem_cons.mpr ⟨kX9_takes, List.forall_mem_cons.mpr ⟨kX9_rightLength, List.forall_mem_cons.mpr ⟨kX9_firstError, List.forall_mem_cons.mpr ⟨kX3_isGrammar, List.forall_mem_cons.mpr ⟨kX2_clear, List.forall_mem_cons.mpr ⟨kX5_withoutRight, List.forall_mem_cons.mpr ⟨kX2_placeOf, List.forall_mem_cons.mpr ⟨kX2_add, List.forall_mem_cons.mpr ⟨kX5_cut, List.forall_mem_cons.mpr ⟨kX5_length, List.forall_mem_cons.mpr ⟨kX5_extended, List.forall_mem_cons.mpr ⟨kX3_readInto, List.forall_mem_cons.mpr ⟨kX2_count, List.forall_mem_cons.mpr ⟨kX8_load, List.forall_mem_cons.mpr ⟨kX9_load, List.forall_mem_cons.mpr ⟨kX8_isTerminal, List.forall_mem_cons.mpr ⟨kX3_isWord, List.forall_mem_cons.mpr ⟨kX3_codeAt, List.forall_mem_cons.mpr ⟨kX4_read, List.forall_mem_cons.mpr ⟨kJ7_fill_53178, List.forall_mem_cons.mpr ⟨kX2_at, List.forall_mem_cons.mpr ⟨kX5_left, List.forall_mem_cons.mpr ⟨kX5_symbolAt, List.forall_mem_cons.mpr ⟨kX4_stands, List.forall_mem_cons.mpr ⟨kX4_endsFrom, List.forall_mem_cons.mpr ⟨kX4_endsOf, List.forall_mem_cons.mpr ⟨kX4_addEnds, List.forall_mem_cons.mpr ⟨kX4_derives, List.forall_mem_cons.mpr ⟨kX8_bit, List.forall_mem_cons.mpr ⟨kX8_accepts, List.forall_mem_cons.mpr ⟨kX9_isWord, List.forall_mem_cons.mpr ⟨kX9_takeWord, List.forall_mem_cons.mpr ⟨kX9_at, List.forall_mem_cons.mpr ⟨kX9_goOver, List.forall_mem_cons.mpr ⟨kX9_derives, List.forall_mem_cons.mpr ⟨kX9_accepts, List.forall_mem_cons.mpr ⟨kX2_hasEmpty, List.forall_mem_cons.mpr ⟨kX5_isUnit, List.forall_mem_cons.mpr ⟨kX5_rightSet, List.forall_mem_cons.mpr ⟨kX8_isIn, List.forall_mem_cons.mpr ⟨kX1_close, List.forall_mem_cons.mpr ⟨kX1_followUnits, List.forall_mem_cons.mpr ⟨kX1_loops, List.forall_mem_cons.mpr ⟨kX8_isEndless, List.forall_mem_cons.mpr ⟨kJ7_fill_d0a16, List.forall_mem_cons.mpr ⟨kX2_hasUnit, List.forall_mem_cons.mpr ⟨kX4_treesAt, List.forall_mem_cons.mpr ⟨kX4_treesOfSymbol, List.forall_mem_cons.mpr ⟨kX4_takeSymbol, List.forall_mem_cons.mpr ⟨kX4_waysThrough, List.forall_mem_cons.mpr ⟨kX4_countPlain, List.forall_mem_cons.mpr ⟨kX4_spreadUnits, List.forall_mem_cons.mpr ⟨kX4_keepTotals, List.forall_mem_cons.mpr ⟨kX4_treesOf, List.forall_mem_cons.mpr ⟨kX8_countTrees, List.forall_mem_cons.mpr ⟨kX9_isEmpty, List.forall_mem_cons.mpr ⟨kX9_hasEmpty, List.forall_mem_cons.mpr ⟨kX9_clearLeads, List.forall_mem_cons.mpr ⟨kX9_isUnit, List.forall_mem_cons.mpr ⟨kX9_closeLeads, List.forall_mem_cons.mpr ⟨kX9_layUnits, List.forall_mem_cons.mpr ⟨kX9_loops, List.forall_mem_cons.mpr ⟨kX9_hasUnitCycle, List.forall_mem_cons.mpr ⟨kX9_waysOf, List.forall_mem_cons.mpr ⟨kX9_countStretch, List.forall_mem_cons.mpr ⟨kX9_countTrees, List.forall_mem_cons.mpr ⟨kX8_productionCount, List.forall_mem_cons.mpr ⟨kX9_productionCount, List.forall_mem_cons.mpr ⟨kX8_codeOf, List.forall_mem_cons.mpr ⟨kX8_symbol, List.forall_mem_cons.mpr ⟨kX9_size, List.forall_mem_cons.mpr ⟨kX9_codeOf, List.forall_mem_cons.mpr ⟨kX9_symbol, List.forall_mem_cons.mpr ⟨kX5_staysIn, List.forall_mem_cons.mpr ⟨kX2_derivable, List.forall_mem_cons.mpr ⟨kX2_nullable, List.forall_mem_cons.mpr ⟨kX8_nullableSet, List.forall_mem_cons.mpr ⟨kX9_allIn, List.forall_mem_cons.mpr ⟨kX9_closedUnder, List.forall_mem_cons.mpr ⟨kX9_nullables, List.forall_mem_cons.mpr ⟨kX9_nullableSet, List.forall_mem_cons.mpr ⟨kX2_productive, List.forall_mem_cons.mpr ⟨kX8_productiveSet, List.forall_mem_cons.mpr ⟨kX9_productives, List.forall_mem_cons.mpr ⟨kX9_productiveSet, List.forall_mem_cons.mpr ⟨kX1_followOccurrences, List.forall_mem_cons.mpr ⟨kX1_reachFrom, List.forall_mem_cons.mpr ⟨kX8_reachableSet, List.forall_mem_cons.mpr ⟨kX9_reached, List.forall_mem_cons.mpr ⟨kX9_reachableSet, List.forall_mem_cons.mpr ⟨kX1_leftEnds, List.forall_mem_cons.mpr ⟨kX1_followLeftEnds, List.forall_mem_cons.mpr ⟨kX8_leftRecursiveSet, List.forall_mem_cons.mpr ⟨kX9_recursives, List.forall_mem_cons.mpr ⟨kX9_leftRecursiveSet, List.forall_mem_cons.mpr ⟨kX8_unitReach, List.forall_mem_cons.mpr ⟨kX9_isIndex, List.forall_mem_cons.mpr ⟨kX9_unitReach, List.forall_mem_cons.mpr ⟨kX0_beginnings, List.forall_mem_cons.mpr ⟨kX0_grow, List.forall_mem_cons.mpr ⟨kX0_findFirsts, List.forall_mem_cons.mpr ⟨kX0_followOf, List.forall_mem_cons.mpr ⟨kX0_comingAfter, List.forall_mem_cons.mpr ⟨kX0_passFollows, List.forall_mem_cons.mpr ⟨kX0_findFollows, List.forall_mem_cons.mpr ⟨kX0_study, List.forall_mem_cons.mpr ⟨kX0_firstOf, List.forall_mem_cons.mpr ⟨kX8_firstSet, List.forall_mem_cons.mpr ⟨kX9_firstOf, List.forall_mem_cons.mpr ⟨kX9_layFirsts, List.forall_mem_cons.mpr ⟨kX9_firstNow, List.forall_mem_cons.mpr ⟨kX9_firstSet, List.forall_mem_cons.mpr ⟨kX8_followSet, List.forall_mem_cons.mpr ⟨kX9_layFollows, List.forall_mem_cons.mpr ⟨kX9_followNow, List.forall_mem_cons.mpr ⟨kX9_followSet, List.forall_mem_cons.mpr ⟨kX0_hasDistinctLookaheads, List.forall_mem_cons.mpr ⟨kX8_isLl1, List.forall_mem_cons.mpr ⟨kX9_isPredictive, List.forall_mem_cons.mpr ⟨kX9_isLl1, List.forall_mem_cons.mpr ⟨kX5_fitsChomsky, List.forall_mem_cons.mpr ⟨kX8_isChomsky, List.forall_mem_cons.mpr ⟨kX9_isInChomsky, List.forall_mem_cons.mpr ⟨kX9_isChomsky, List.forall_mem_cons.mpr ⟨kX5_fitsGreibach, List.forall_mem_cons.mpr ⟨kX8_isGreibach, List.forall_mem_cons.mpr ⟨kX9_isInGreibach, List.forall_mem_cons.mpr ⟨kX9_isGreibach, List.forall_mem_cons.mpr ⟨kX2_copyFrom, List.forall_mem_cons.mpr ⟨kX7_begin, List.forall_mem_cons.mpr ⟨kX7_beginStep, List.forall_mem_cons.mpr ⟨kX7_dropUseless, List.forall_mem_cons.mpr ⟨kX2_isTooLarge, List.forall_mem_cons.mpr ⟨kX7_finish, List.forall_mem_cons.mpr ⟨kX8_removeUseless, List.forall_mem_cons.mpr ⟨kX9_start, List.forall_mem_cons.mpr ⟨kX9_step, List.forall_mem_cons.mpr ⟨kX9_finish, List.forall_mem_cons.mpr ⟨kX9_removeUseless, List.forall_mem_cons.mpr ⟨kJ6_bitCount_0f7a4, List.forall_mem_cons.mpr ⟨kX5_thinned, List.forall_mem_cons.mpr ⟨kX7_addThinned, List.forall_mem_cons.mpr ⟨kX7_dropEmpty, List.forall_mem_cons.mpr ⟨kX8_removeEmpty, List.forall_mem_cons.mpr ⟨kX9_putRow, List.forall_mem_cons.mpr ⟨kX9_putWithout, List.forall_mem_cons.mpr ⟨kX9_removeEmpty, List.forall_mem_cons.mpr ⟨kX5_joined, List.forall_mem_cons.mpr ⟨kX7_addLent, List.forall_mem_cons.mpr ⟨kX7_dropUnits, List.forall_mem_cons.mpr ⟨kX8_removeUnits, List.forall_mem_cons.mpr ⟨kX9_addRow, List.forall_mem_cons.mpr ⟨kX9_removeUnits, List.forall_mem_cons.mpr ⟨kX7_occursInLong, List.forall_mem_cons.mpr ⟨kX2_leftSides, List.forall_mem_cons.mpr ⟨kX2_freeNonterminal, List.forall_mem_cons.mpr ⟨kX2_refuse, List.forall_mem_cons.mpr ⟨kX5_renamed, List.forall_mem_cons.mpr ⟨kX7_nameTerminal, List.forall_mem_cons.mpr ⟨kX7_nameTerminals, List.forall_mem_cons.mpr ⟨kX7_firstLong, List.forall_mem_cons.mpr ⟨kX2_remove, List.forall_mem_cons.mpr ⟨kX7_split, List.forall_mem_cons.mpr ⟨kX7_splitLong, List.forall_mem_cons.mpr ⟨kX8_toChomsky, List.forall_mem_cons.mpr ⟨kX9_hasUnit, List.forall_mem_cons.mpr ⟨kX9_mayNotStay, List.forall_mem_cons.mpr ⟨kX9_freeOne, List.forall_mem_cons.mpr ⟨kX9_veil, List.forall_mem_cons.mpr ⟨kX9_veilAll, List.forall_mem_cons.mpr ⟨kX9_cut, List.forall_mem_cons.mpr ⟨kX9_toChomsky, List.forall_mem_cons.mpr ⟨kX5_begins, List.forall_mem_cons.mpr ⟨kX7_addExpansions, List.forall_mem_cons.mpr ⟨kX7_expandAll, List.forall_mem_cons.mpr ⟨kX7_isRecursive, List.forall_mem_cons.mpr ⟨kX7_turnRecursion, List.forall_mem_cons.mpr ⟨kX7_treatLeft, List.forall_mem_cons.mpr ⟨kX7_dropLeftRecursion, List.forall_mem_cons.mpr ⟨kX8_removeLeftRecursion, List.forall_mem_cons.mpr ⟨kX9_putTold, List.forall_mem_cons.mpr ⟨kX9_tell, List.forall_mem_cons.mpr ⟨kX9_beginsWithItself, List.forall_mem_cons.mpr ⟨kX9_putTail, List.forall_mem_cons.mpr ⟨kX9_unwind, List.forall_mem_cons.mpr ⟨kX9_unwindAll, List.forall_mem_cons.mpr ⟨kX9_removeLeftRecursion, List.forall_mem_cons.mpr ⟨kX7_sharedLength, List.forall_mem_cons.mpr ⟨kX7_firstShared, List.forall_mem_cons.mpr ⟨kX7_factor, List.forall_mem_cons.mpr ⟨kX7_factorPrefixes, List.forall_mem_cons.mpr ⟨kX8_leftFactor, List.forall_mem_cons.mpr ⟨kX9_factor, List.forall_mem_cons.mpr ⟨kX9_leftFactor, List.forall_mem_cons.mpr ⟨kX7_firstWithNonterminal, List.forall_mem_cons.mpr ⟨kX7_expandLeftEnds, List.forall_mem_cons.mpr ⟨kX8_toGreibach, List.forall_mem_cons.mpr ⟨kX9_tellFirst, List.forall_mem_cons.mpr ⟨kX9_toGreibach, List.forall_mem_cons.mpr ⟨kX8_save, List.forall_mem_cons.mpr ⟨kX9_save, List.forall_mem_cons.mpr ⟨kX8_restore, List.forall_mem_cons.mpr ⟨kX9_restore, List.forall_mem_cons.mpr ⟨kX6_pairs, List.forall_mem_cons.mpr ⟨kX6_readOn, List.forall_mem_cons.mpr ⟨kX6_readRight, List.forall_mem_cons.mpr ⟨kX6_keepRead, List.forall_mem_cons.mpr ⟨kX6_study, List.forall_mem_cons.mpr ⟨kX6_ofLength, List.forall_mem_cons.mpr ⟨kJ13_bitCount_95d88, List.forall_mem_cons.mpr ⟨kX8_countWords, List.forall_mem_cons.mpr ⟨kX9_wordsOf, List.forall_mem_cons.mpr ⟨kX9_layWord, List.forall_mem_cons.mpr ⟨kX9_countNow, List.forall_mem_cons.mpr ⟨kX9_countWords, List.forall_mem_cons.mpr ⟨kX8_countDifferences, List.forall_mem_cons.mpr ⟨kX9_countDifferences, List.forall_mem_cons.mpr ⟨kX8_mixed, List.forall_mem_cons.mpr ⟨kX8_hashOfProductions, List.forall_mem_cons.mpr ⟨kX8_hashOfProperties, List.forall_mem_cons.mpr ⟨kX8_digest, List.forall_mem_cons.mpr ⟨kX9_mix, List.forall_mem_cons.mpr ⟨kX9_digest, fun _ h => absurd h List.not_mem_nil⟩⟩⟩⟩⟩⟩⟩⟩⟩⟩⟩⟩⟩⟩⟩⟩⟩⟩⟩⟩⟩⟩⟩⟩⟩⟩⟩⟩⟩⟩⟩⟩⟩⟩⟩⟩⟩⟩⟩⟩⟩⟩⟩⟩⟩⟩⟩⟩⟩⟩⟩⟩⟩⟩⟩⟩⟩⟩⟩⟩⟩⟩⟩⟩⟩⟩⟩⟩⟩⟩⟩⟩⟩⟩⟩⟩⟩⟩⟩⟩⟩⟩⟩⟩⟩⟩⟩⟩⟩⟩⟩⟩⟩⟩⟩⟩⟩⟩⟩⟩⟩⟩⟩⟩⟩⟩⟩⟩⟩⟩⟩⟩⟩⟩⟩⟩⟩⟩⟩⟩⟩⟩⟩⟩⟩⟩⟩⟩⟩⟩⟩⟩⟩⟩⟩⟩⟩⟩⟩⟩⟩⟩⟩⟩⟩⟩⟩⟩⟩⟩⟩⟩⟩⟩⟩⟩⟩⟩⟩⟩⟩⟩⟩⟩⟩⟩⟩⟩⟩⟩⟩⟩⟩⟩⟩⟩⟩⟩⟩⟩⟩⟩⟩⟩⟩⟩⟩⟩⟩⟩⟩⟩⟩⟩⟩⟩⟩⟩⟩⟩⟩⟩⟩⟩⟩⟩⟩⟩⟩⟩⟩⟩⟩⟩⟩⟩⟩⟩⟩⟩⟩⟩⟩⟩⟩⟩⟩⟩⟩⟩⟩⟩⟩⟩⟩⟩⟩⟩⟩⟩⟩
theorem ggood : si_good := fun w hw => good_of_word (List.mem_filter.mp hw).2
theorem gcw_0 : ∀ w ∈ u_ws RX0 TX0 3, w ∈ si_tb := by
  have h : ∀ w ∈ u_ws RX0 TX0 3, w ∈ lw_tbl ∧ goodWord w = true := by decide +kernel
  exact fun w hw => List.mem_filter.mpr (h w hw)
theorem gcw_1 : ∀ w ∈ u_ws RX1 TX1 1, w ∈ si_tb := by
  have h : ∀ w ∈ u_ws RX1 TX1 1, w ∈ lw_tbl ∧ goodWord w = true := by decide +kernel
  exact fun w hw => List.mem_filter.mpr (h w hw)
theorem gcw_2 : ∀ w ∈ u_ws RX2 TX2 3, w ∈ si_tb := by
  have h : ∀ w ∈ u_ws RX2 TX2 3, w ∈ lw_tbl ∧ goodWord w = true := by decide +kernel
  exact fun w hw => List.mem_filter.mpr (h w hw)
theorem gcw_3 : ∀ w ∈ u_ws RX3 TX3 2, w ∈ si_tb := by
  have h : ∀ w ∈ u_ws RX3 TX3 2, w ∈ lw_tbl ∧ goodWord w = true := by decide +kernel
  exact fun w hw => List.mem_filter.mpr (h w hw)
theorem gcw_4 : ∀ w ∈ u_ws RX4 TX4 8, w ∈ si_tb := by
  have h : ∀ w ∈ u_ws RX4 TX4 8, w ∈ lw_tbl ∧ goodWord w = true := by decide +kernel
  exact fun w hw => List.mem_filter.mpr (h w hw)
theorem gcw_5 : ∀ w ∈ u_ws RX6 TX6 6, w ∈ si_tb := by
  have h : ∀ w ∈ u_ws RX6 TX6 6, w ∈ lw_tbl ∧ goodWord w = true := by decide +kernel
  exact fun w hw => List.mem_filter.mpr (h w hw)
theorem gcw_6 : ∀ w ∈ u_ws RX7 TX7 2, w ∈ si_tb := by
  have h : ∀ w ∈ u_ws RX7 TX7 2, w ∈ lw_tbl ∧ goodWord w = true := by decide +kernel
  exact fun w hw => List.mem_filter.mpr (h w hw)
theorem gcw_7 : ∀ w ∈ u_ws RX8 TX8 9, w ∈ si_tb := by
  have h : ∀ w ∈ u_ws RX8 TX8 9, w ∈ lw_tbl ∧ goodWord w = true := by decide +kernel
  exact fun w hw => List.mem_filter.mpr (h w hw)
theorem gcw_8 : ∀ w ∈ u_ws RX9 TX9 29, w ∈ si_tb := by
  have h : ∀ w ∈ u_ws RX9 TX9 29, w ∈ lw_tbl ∧ goodWord w = true := by decide +kernel
  exact fun w hw => List.mem_filter.mpr (h w hw)
theorem gclok : si_clok gcl := by
  intro ct C T N h
  match ct, h with
  | 0, h => cases h; exact ⟨gcw_0, ⟨tyX0, tyX0_ok⟩, nmX0⟩
  | 1, h => cases h; exact ⟨gcw_1, ⟨tyX1, tyX1_ok⟩, nmX1⟩
  | 2, h => cases h; exact ⟨gcw_2, ⟨tyX2, tyX2_ok⟩, nmX2⟩
  | 3, h => cases h; exact ⟨gcw_3, ⟨tyX3, tyX3_ok⟩, nmX3⟩
  | 4, h => cases h; exact ⟨gcw_4, ⟨tyX4, tyX4_ok⟩, nmX4⟩
  | 5, h => cases h; exact ⟨gcw_5, ⟨tyX6, tyX6_ok⟩, nmX6⟩
  | 6, h => cases h; exact ⟨gcw_6, ⟨tyX7, tyX7_ok⟩, nmX7⟩
  | 7, h => cases h; exact ⟨gcw_7, ⟨tyX8, tyX8_ok⟩, nmX8⟩
  | 8, h => cases h; exact ⟨gcw_8, ⟨tyX9, tyX9_ok⟩, nmX9⟩
  | k + 9, h => simp [gcl] at h
theorem gshok : si_shok gcl gsh := by
  intro k ct cs h
  match k, h with
  | 0, h => cases h; exact ⟨RX8, TX8, rfl, fun j c hj => by
      match j, hj with
      | 0, hj => cases hj; rfl
      | 1, hj => cases hj; rfl
      | 2, hj => cases hj; rfl
      | 3, hj => cases hj; rfl
      | 4, hj => cases hj; rfl
      | 5, hj => cases hj; rfl
      | 6, hj => cases hj; rfl
      | 7, hj => cases hj; rfl
      | 8, hj => cases hj; rfl
      | j + 9, hj => simp at hj⟩
  | 1, h => cases h; exact ⟨RX3, TX3, rfl, fun j c hj => by
      match j, hj with
      | 0, hj => cases hj; rfl
      | 1, hj => cases hj; rfl
      | j + 2, hj => simp at hj⟩
  | 2, h => cases h
  | 3, h => cases h; exact ⟨RX2, TX2, rfl, fun j c hj => by
      match j, hj with
      | 0, hj => cases hj; rfl
      | 1, hj => cases hj; rfl
      | 2, hj => cases hj; rfl
      | j + 3, hj => simp at hj⟩
  | 4, h => cases h
  | 5, h => cases h; exact ⟨RX2, TX2, rfl, fun j c hj => by
      match j, hj with
      | 0, hj => cases hj; rfl
      | 1, hj => cases hj; rfl
      | 2, hj => cases hj; rfl
      | j + 3, hj => simp at hj⟩
  | 6, h => cases h
  | 7, h => cases h; exact ⟨RX1, TX1, rfl, fun j c hj => by
      match j, hj with
      | 0, hj => cases hj; rfl
      | j + 1, hj => simp at hj⟩
  | 8, h => cases h
  | 9, h => cases h; exact ⟨RX0, TX0, rfl, fun j c hj => by
      match j, hj with
      | 0, hj => cases hj; rfl
      | 1, hj => cases hj; rfl
      | 2, hj => cases hj; rfl
      | j + 3, hj => simp at hj⟩
  | 10, h => cases h
  | 11, h => cases h
  | 12, h => cases h; exact ⟨RX4, TX4, rfl, fun j c hj => by
      match j, hj with
      | 0, hj => cases hj; rfl
      | 1, hj => cases hj; rfl
      | 2, hj => cases hj; rfl
      | 3, hj => cases hj; rfl
      | 4, hj => cases hj; rfl
      | 5, hj => cases hj; rfl
      | 6, hj => cases hj; rfl
      | 7, hj => cases hj; rfl
      | j + 8, hj => simp at hj⟩
  | 13, h => cases h
  | 14, h => cases h
  | 15, h => cases h
  | 16, h => cases h
  | 17, h => cases h
  | 18, h => cases h
  | 19, h => cases h
  | 20, h => cases h; exact ⟨RX6, TX6, rfl, fun j c hj => by
      match j, hj with
      | 0, hj => cases hj; rfl
      | 1, hj => cases hj; rfl
      | 2, hj => cases hj; rfl
      | 3, hj => cases hj; rfl
      | 4, hj => cases hj; rfl
      | 5, hj => cases hj; rfl
      | j + 6, hj => simp at hj⟩
  | 21, h => cases h
  | 22, h => cases h
  | 23, h => cases h
  | 24, h => cases h; exact ⟨RX7, TX7, rfl, fun j c hj => by
      match j, hj with
      | 0, hj => cases hj; rfl
      | 1, hj => cases hj; rfl
      | j + 2, hj => simp at hj⟩
  | 25, h => cases h; exact ⟨RX2, TX2, rfl, fun j c hj => by
      match j, hj with
      | 0, hj => cases hj; rfl
      | 1, hj => cases hj; rfl
      | 2, hj => cases hj; rfl
      | j + 3, hj => simp at hj⟩
  | 26, h => cases h
  | 27, h => cases h; exact ⟨RX2, TX2, rfl, fun j c hj => by
      match j, hj with
      | 0, hj => cases hj; rfl
      | 1, hj => cases hj; rfl
      | 2, hj => cases hj; rfl
      | j + 3, hj => simp at hj⟩
  | 28, h => cases h
  | 29, h => cases h; exact ⟨RX9, TX9, rfl, fun j c hj => by
      match j, hj with
      | 0, hj => cases hj; rfl
      | 1, hj => cases hj; rfl
      | 2, hj => cases hj; rfl
      | 3, hj => cases hj; rfl
      | 4, hj => cases hj; rfl
      | 5, hj => cases hj; rfl
      | 6, hj => cases hj; rfl
      | 7, hj => cases hj; rfl
      | 8, hj => cases hj; rfl
      | 9, hj => cases hj; rfl
      | 10, hj => cases hj; rfl
      | 11, hj => cases hj; rfl
      | 12, hj => cases hj; rfl
      | 13, hj => cases hj; rfl
      | 14, hj => cases hj; rfl
      | 15, hj => cases hj; rfl
      | 16, hj => cases hj; rfl
      | 17, hj => cases hj; rfl
      | 18, hj => cases hj; rfl
      | 19, hj => cases hj; rfl
      | 20, hj => cases hj; rfl
      | 21, hj => cases hj; rfl
      | 22, hj => cases hj; rfl
      | 23, hj => cases hj; rfl
      | 24, hj => cases hj; rfl
      | 25, hj => cases hj; rfl
      | 26, hj => cases hj; rfl
      | 27, hj => cases hj; rfl
      | 28, hj => cases hj; rfl
      | j + 29, hj => simp at hj⟩
  | 30, h => cases h
  | 31, h => cases h
  | 32, h => cases h
  | 33, h => cases h
  | 34, h => cases h
  | 35, h => cases h
  | 36, h => cases h
  | 37, h => cases h
  | 38, h => cases h
  | 39, h => cases h
  | 40, h => cases h
  | 41, h => cases h
  | 42, h => cases h
  | 43, h => cases h
  | 44, h => cases h
  | k + 45, h => simp [gsh] at h
theorem gok : si_ok gP gcl := by
  refine ⟨fun mi hmi => ?_, gclok, gshok, ggood⟩
  have h := gall mi hmi
  unfold gchk at h
  rw [Bool.and_eq_true] at h
  refine ⟨h.1, ?_⟩
  have h2 := h.2
  split at h2
  · assumption
  · cases h2
