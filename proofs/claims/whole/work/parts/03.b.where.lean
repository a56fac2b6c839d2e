/-! printed by gen2.py: where each method stands -/
theorem gX3_put : gP.1[nX3_put]? = some (yX3_put, cX3_put, 2, (some .boolean), 0, 0, wX3_put) := rfl
theorem gX3_length : gP.1[nX3_length]? = some (yX3_length, cX3_length, 1, (some .int), 0, 0, wX3_length) := rfl
theorem gX8_append : gP.1[nX8_append]? = some (yX8_append, cX8_append, 2, (some .int), 1, 21, wX8_append) := rfl
theorem gX9_within : gP.1[nX9_within]? = some (yX9_within, cX9_within, 3, (some .boolean), 0, 0, wX9_within) := rfl
theorem gX9_append : gP.1[nX9_append]? = some (yX9_append, cX9_append, 2, (some .int), 1, 22, wX9_append) := rfl
theorem gX3_clear : gP.1[nX3_clear]? = some (yX3_clear, cX3_clear, 1, none, 0, 0, wX3_clear) := rfl
theorem gX8_clearInput : gP.1[nX8_clearInput]? = some (yX8_clearInput, cX8_clearInput, 2, (some .int), 1, 20, wX8_clearInput) := rfl
theorem gX9_clearInput : gP.1[nX9_clearInput]? = some (yX9_clearInput, cX9_clearInput, 2, (some .int), 0, 0, wX9_clearInput) := rfl
theorem gX8_symbolOf : gP.1[nX8_symbolOf]? = some (yX8_symbolOf, cX8_symbolOf, 1, (some .int), 0, 0, wX8_symbolOf) := rfl
theorem gX8_isNonterminal : gP.1[nX8_isNonterminal]? = some (yX8_isNonterminal, cX8_isNonterminal, 1, (some .boolean), 0, 0, wX8_isNonterminal) := rfl
theorem gX3_stateAfter : gP.1[nX3_stateAfter]? = some (yX3_stateAfter, cX3_stateAfter, 3, (some .int), 1, 20, wX3_stateAfter) := rfl
theorem gX3_errorPlace : gP.1[nX3_errorPlace]? = some (yX3_errorPlace, cX3_errorPlace, 3, (some .int), 2, 42, wX3_errorPlace) := rfl
theorem gX8_firstError : gP.1[nX8_firstError]? = some (yX8_firstError, cX8_firstError, 1, (some .int), 3, 64, wX8_firstError) := rfl
theorem gX9_begin : gP.1[nX9_begin]? = some (yX9_begin, cX9_begin, 1, none, 0, 0, wX9_begin) := rfl
theorem gX9_symbolOf : gP.1[nX9_symbolOf]? = some (yX9_symbolOf, cX9_symbolOf, 1, (some .int), 1, 22, wX9_symbolOf) := rfl
theorem gX9_isNonterminal : gP.1[nX9_isNonterminal]? = some (yX9_isNonterminal, cX9_isNonterminal, 1, (some .boolean), 1, 22, wX9_isNonterminal) := rfl
theorem gX9_put : gP.1[nX9_put]? = some (yX9_put, cX9_put, 5, none, 0, 0, wX9_put) := rfl
theorem gX9_left : gP.1[nX9_left]? = some (yX9_left, cX9_left, 2, (some .int), 0, 0, wX9_left) := rfl
theorem gX9_takes : gP.1[nX9_takes]? = some (yX9_takes, cX9_takes, 3, (some .boolean), 2, 42, wX9_takes) := rfl
theorem gX9_rightLength : gP.1[nX9_rightLength]? = some (yX9_rightLength, cX9_rightLength, 2, (some .int), 3, 64, wX9_rightLength) := rfl
theorem gX9_firstError : gP.1[nX9_firstError]? = some (yX9_firstError, cX9_firstError, 1, (some .int), 4, 85, wX9_firstError) := rfl
theorem gX3_isGrammar : gP.1[nX3_isGrammar]? = some (yX3_isGrammar, cX3_isGrammar, 3, (some .boolean), 2, 42, wX3_isGrammar) := rfl
theorem gX2_clear : gP.1[nX2_clear]? = some (yX2_clear, cX2_clear, 1, none, 0, 0, wX2_clear) := rfl
theorem gX5_withoutRight : gP.1[nX5_withoutRight]? = some (yX5_withoutRight, cX5_withoutRight, 1, (some .long), 0, 0, wX5_withoutRight) := rfl
theorem gX2_placeOf : gP.1[nX2_placeOf]? = some (yX2_placeOf, cX2_placeOf, 4, (some .int), 0, 0, wX2_placeOf) := rfl
theorem gX2_add : gP.1[nX2_add]? = some (yX2_add, cX2_add, 4, none, 1, 26, wX2_add) := rfl
theorem gX5_cut : gP.1[nX5_cut]? = some (yX5_cut, cX5_cut, 5, (some .long), 0, 0, wX5_cut) := rfl
theorem gX5_length : gP.1[nX5_length]? = some (yX5_length, cX5_length, 3, (some .int), 0, 0, wX5_length) := rfl
theorem gX5_extended : gP.1[nX5_extended]? = some (yX5_extended, cX5_extended, 4, (some .long), 1, 22, wX5_extended) := rfl
theorem gX3_readInto : gP.1[nX3_readInto]? = some (yX3_readInto, cX3_readInto, 7, none, 2, 49, wX3_readInto) := rfl
theorem gX2_count : gP.1[nX2_count]? = some (yX2_count, cX2_count, 1, (some .int), 0, 0, wX2_count) := rfl
theorem gX8_load : gP.1[nX8_load]? = some (yX8_load, cX8_load, 1, (some .int), 3, 75, wX8_load) := rfl
theorem gX9_load : gP.1[nX9_load]? = some (yX9_load, cX9_load, 2, (some .int), 4, 85, wX9_load) := rfl
theorem gX8_isTerminal : gP.1[nX8_isTerminal]? = some (yX8_isTerminal, cX8_isTerminal, 1, (some .boolean), 0, 0, wX8_isTerminal) := rfl
theorem gX3_isWord : gP.1[nX3_isWord]? = some (yX3_isWord, cX3_isWord, 2, (some .boolean), 1, 20, wX3_isWord) := rfl
theorem gX3_codeAt : gP.1[nX3_codeAt]? = some (yX3_codeAt, cX3_codeAt, 2, (some .int), 0, 0, wX3_codeAt) := rfl
theorem gX4_read : gP.1[nX4_read]? = some (yX4_read, cX4_read, 3, none, 1, 21, wX4_read) := rfl
theorem gJ7_fill_53178 : gP.1[nJ7_fill_53178]? = some (yJ7_fill_53178, cJ7_fill_53178, 4, none, 0, 0, wJ7_fill_53178) := rfl
theorem gX2_at : gP.1[nX2_at]? = some (yX2_at, cX2_at, 2, (some .long), 0, 0, wX2_at) := rfl
theorem gX5_left : gP.1[nX5_left]? = some (yX5_left, cX5_left, 2, (some .int), 0, 0, wX5_left) := rfl
theorem gX5_symbolAt : gP.1[nX5_symbolAt]? = some (yX5_symbolAt, cX5_symbolAt, 3, (some .int), 0, 0, wX5_symbolAt) := rfl
theorem gX4_stands : gP.1[nX4_stands]? = some (yX4_stands, cX4_stands, 3, (some .boolean), 0, 0, wX4_stands) := rfl
theorem gX4_endsFrom : gP.1[nX4_endsFrom]? = some (yX4_endsFrom, cX4_endsFrom, 5, (some .int), 1, 22, wX4_endsFrom) := rfl
theorem gX4_endsOf : gP.1[nX4_endsOf]? = some (yX4_endsOf, cX4_endsOf, 7, (some .int), 2, 46, wX4_endsOf) := rfl
theorem gX4_addEnds : gP.1[nX4_addEnds]? = some (yX4_addEnds, cX4_addEnds, 7, (some .boolean), 3, 72, wX4_addEnds) := rfl
theorem gX4_derives : gP.1[nX4_derives]? = some (yX4_derives, cX4_derives, 5, (some .boolean), 4, 98, wX4_derives) := rfl
theorem gX8_bit : gP.1[nX8_bit]? = some (yX8_bit, cX8_bit, 1, (some .int), 0, 0, wX8_bit) := rfl
theorem gX8_accepts : gP.1[nX8_accepts]? = some (yX8_accepts, cX8_accepts, 1, (some .int), 5, 122, wX8_accepts) := rfl
theorem gX9_isWord : gP.1[nX9_isWord]? = some (yX9_isWord, cX9_isWord, 3, (some .boolean), 1, 22, wX9_isWord) := rfl
theorem gX9_takeWord : gP.1[nX9_takeWord]? = some (yX9_takeWord, cX9_takeWord, 2, none, 2, 42, wX9_takeWord) := rfl
theorem gX9_at : gP.1[nX9_at]? = some (yX9_at, cX9_at, 3, (some .int), 0, 0, wX9_at) := rfl
theorem gX9_goOver : gP.1[nX9_goOver]? = some (yX9_goOver, cX9_goOver, 5, (some .int), 2, 42, wX9_goOver) := rfl
theorem gX9_derives : gP.1[nX9_derives]? = some (yX9_derives, cX9_derives, 8, (some .boolean), 3, 66, wX9_derives) := rfl
theorem gX9_accepts : gP.1[nX9_accepts]? = some (yX9_accepts, cX9_accepts, 1, (some .int), 4, 93, wX9_accepts) := rfl
theorem gX2_hasEmpty : gP.1[nX2_hasEmpty]? = some (yX2_hasEmpty, cX2_hasEmpty, 2, (some .boolean), 1, 22, wX2_hasEmpty) := rfl
theorem gX5_isUnit : gP.1[nX5_isUnit]? = some (yX5_isUnit, cX5_isUnit, 2, (some .boolean), 1, 22, wX5_isUnit) := rfl
theorem gX5_rightSet : gP.1[nX5_rightSet]? = some (yX5_rightSet, cX5_rightSet, 5, (some .int), 1, 22, wX5_rightSet) := rfl
theorem gX8_isIn : gP.1[nX8_isIn]? = some (yX8_isIn, cX8_isIn, 2, (some .boolean), 0, 0, wX8_isIn) := rfl
theorem gX1_close : gP.1[nX1_close]? = some (yX1_close, cX1_close, 3, none, 1, 21, wX1_close) := rfl
theorem gX1_followUnits : gP.1[nX1_followUnits]? = some (yX1_followUnits, cX1_followUnits, 5, none, 2, 46, wX1_followUnits) := rfl
theorem gX1_loops : gP.1[nX1_loops]? = some (yX1_loops, cX1_loops, 3, (some .int), 0, 0, wX1_loops) := rfl
theorem gX8_isEndless : gP.1[nX8_isEndless]? = some (yX8_isEndless, cX8_isEndless, 1, (some .boolean), 3, 70, wX8_isEndless) := rfl
theorem gJ7_fill_d0a16 : gP.1[nJ7_fill_d0a16]? = some (yJ7_fill_d0a16, cJ7_fill_d0a16, 5, none, 0, 0, wJ7_fill_d0a16) := rfl
theorem gX2_hasUnit : gP.1[nX2_hasUnit]? = some (yX2_hasUnit, cX2_hasUnit, 2, (some .boolean), 2, 43, wX2_hasUnit) := rfl
theorem gX4_treesAt : gP.1[nX4_treesAt]? = some (yX4_treesAt, cX4_treesAt, 4, (some .long), 0, 0, wX4_treesAt) := rfl
theorem gX4_treesOfSymbol : gP.1[nX4_treesOfSymbol]? = some (yX4_treesOfSymbol, cX4_treesOfSymbol, 4, (some .long), 1, 23, wX4_treesOfSymbol) := rfl
theorem gX4_takeSymbol : gP.1[nX4_takeSymbol]? = some (yX4_takeSymbol, cX4_takeSymbol, 8, none, 2, 46, wX4_takeSymbol) := rfl
theorem gX4_waysThrough : gP.1[nX4_waysThrough]? = some (yX4_waysThrough, cX4_waysThrough, 7, (some .long), 3, 73, wX4_waysThrough) := rfl
theorem gX4_countPlain : gP.1[nX4_countPlain]? = some (yX4_countPlain, cX4_countPlain, 7, none, 4, 99, wX4_countPlain) := rfl
theorem gX4_spreadUnits : gP.1[nX4_spreadUnits]? = some (yX4_spreadUnits, cX4_spreadUnits, 7, none, 2, 43, wX4_spreadUnits) := rfl
theorem gX4_keepTotals : gP.1[nX4_keepTotals]? = some (yX4_keepTotals, cX4_keepTotals, 4, none, 0, 0, wX4_keepTotals) := rfl
theorem gX4_treesOf : gP.1[nX4_treesOf]? = some (yX4_treesOf, cX4_treesOf, 5, (some .long), 5, 125, wX4_treesOf) := rfl
theorem gX8_countTrees : gP.1[nX8_countTrees]? = some (yX8_countTrees, cX8_countTrees, 1, (some .long), 6, 149, wX8_countTrees) := rfl
theorem gX9_isEmpty : gP.1[nX9_isEmpty]? = some (yX9_isEmpty, cX9_isEmpty, 2, (some .boolean), 1, 22, wX9_isEmpty) := rfl
theorem gX9_hasEmpty : gP.1[nX9_hasEmpty]? = some (yX9_hasEmpty, cX9_hasEmpty, 3, (some .boolean), 2, 43, wX9_hasEmpty) := rfl
theorem gX9_clearLeads : gP.1[nX9_clearLeads]? = some (yX9_clearLeads, cX9_clearLeads, 2, none, 0, 0, wX9_clearLeads) := rfl
theorem gX9_isUnit : gP.1[nX9_isUnit]? = some (yX9_isUnit, cX9_isUnit, 2, (some .boolean), 2, 42, wX9_isUnit) := rfl
theorem gX9_closeLeads : gP.1[nX9_closeLeads]? = some (yX9_closeLeads, cX9_closeLeads, 3, none, 0, 0, wX9_closeLeads) := rfl
theorem gX9_layUnits : gP.1[nX9_layUnits]? = some (yX9_layUnits, cX9_layUnits, 2, none, 3, 63, wX9_layUnits) := rfl
theorem gX9_loops : gP.1[nX9_loops]? = some (yX9_loops, cX9_loops, 3, (some .int), 0, 0, wX9_loops) := rfl
theorem gX9_hasUnitCycle : gP.1[nX9_hasUnitCycle]? = some (yX9_hasUnitCycle, cX9_hasUnitCycle, 1, (some .boolean), 4, 84, wX9_hasUnitCycle) := rfl
theorem gX9_waysOf : gP.1[nX9_waysOf]? = some (yX9_waysOf, cX9_waysOf, 11, (some .long), 2, 42, wX9_waysOf) := rfl
theorem gX9_countStretch : gP.1[nX9_countStretch]? = some (yX9_countStretch, cX9_countStretch, 8, none, 3, 72, wX9_countStretch) := rfl
theorem gX9_countTrees : gP.1[nX9_countTrees]? = some (yX9_countTrees, cX9_countTrees, 3, (some .long), 5, 104, wX9_countTrees) := rfl
theorem gX8_productionCount : gP.1[nX8_productionCount]? = some (yX8_productionCount, cX8_productionCount, 1, (some .int), 1, 20, wX8_productionCount) := rfl
theorem gX9_productionCount : gP.1[nX9_productionCount]? = some (yX9_productionCount, cX9_productionCount, 1, (some .int), 0, 0, wX9_productionCount) := rfl
theorem gX8_codeOf : gP.1[nX8_codeOf]? = some (yX8_codeOf, cX8_codeOf, 1, (some .int), 1, 20, wX8_codeOf) := rfl
theorem gX8_symbol : gP.1[nX8_symbol]? = some (yX8_symbol, cX8_symbol, 5, (some .int), 2, 40, wX8_symbol) := rfl
theorem gX9_size : gP.1[nX9_size]? = some (yX9_size, cX9_size, 3, (some .int), 1, 22, wX9_size) := rfl
theorem gX9_codeOf : gP.1[nX9_codeOf]? = some (yX9_codeOf, cX9_codeOf, 1, (some .int), 2, 42, wX9_codeOf) := rfl
theorem gX9_symbol : gP.1[nX9_symbol]? = some (yX9_symbol, cX9_symbol, 3, (some .int), 3, 62, wX9_symbol) := rfl
theorem gX5_staysIn : gP.1[nX5_staysIn]? = some (yX5_staysIn, cX5_staysIn, 6, (some .boolean), 1, 22, wX5_staysIn) := rfl
theorem gX2_derivable : gP.1[nX2_derivable]? = some (yX2_derivable, cX2_derivable, 7, (some .int), 2, 47, wX2_derivable) := rfl
theorem gX2_nullable : gP.1[nX2_nullable]? = some (yX2_nullable, cX2_nullable, 1, (some .int), 3, 73, wX2_nullable) := rfl
theorem gX8_nullableSet : gP.1[nX8_nullableSet]? = some (yX8_nullableSet, cX8_nullableSet, 1, (some .int), 4, 93, wX8_nullableSet) := rfl
theorem gX9_allIn : gP.1[nX9_allIn]? = some (yX9_allIn, cX9_allIn, 8, (some .boolean), 2, 42, wX9_allIn) := rfl
theorem gX9_closedUnder : gP.1[nX9_closedUnder]? = some (yX9_closedUnder, cX9_closedUnder, 5, (some .int), 3, 69, wX9_closedUnder) := rfl
theorem gX9_nullables : gP.1[nX9_nullables]? = some (yX9_nullables, cX9_nullables, 1, (some .int), 4, 93, wX9_nullables) := rfl
theorem gX9_nullableSet : gP.1[nX9_nullableSet]? = some (yX9_nullableSet, cX9_nullableSet, 1, (some .int), 5, 113, wX9_nullableSet) := rfl
theorem gX2_productive : gP.1[nX2_productive]? = some (yX2_productive, cX2_productive, 1, (some .int), 3, 73, wX2_productive) := rfl
theorem gX8_productiveSet : gP.1[nX8_productiveSet]? = some (yX8_productiveSet, cX8_productiveSet, 1, (some .int), 4, 93, wX8_productiveSet) := rfl
theorem gX9_productives : gP.1[nX9_productives]? = some (yX9_productives, cX9_productives, 1, (some .int), 4, 93, wX9_productives) := rfl
theorem gX9_productiveSet : gP.1[nX9_productiveSet]? = some (yX9_productiveSet, cX9_productiveSet, 1, (some .int), 5, 113, wX9_productiveSet) := rfl
theorem gX1_followOccurrences : gP.1[nX1_followOccurrences]? = some (yX1_followOccurrences, cX1_followOccurrences, 5, none, 2, 46, wX1_followOccurrences) := rfl
theorem gX1_reachFrom : gP.1[nX1_reachFrom]? = some (yX1_reachFrom, cX1_reachFrom, 2, (some .int), 1, 20, wX1_reachFrom) := rfl
theorem gX8_reachableSet : gP.1[nX8_reachableSet]? = some (yX8_reachableSet, cX8_reachableSet, 1, (some .int), 3, 70, wX8_reachableSet) := rfl
theorem gX9_reached : gP.1[nX9_reached]? = some (yX9_reached, cX9_reached, 7, (some .int), 2, 42, wX9_reached) := rfl
theorem gX9_reachableSet : gP.1[nX9_reachableSet]? = some (yX9_reachableSet, cX9_reachableSet, 1, (some .int), 3, 68, wX9_reachableSet) := rfl
theorem gX1_leftEnds : gP.1[nX1_leftEnds]? = some (yX1_leftEnds, cX1_leftEnds, 7, (some .int), 1, 22, wX1_leftEnds) := rfl
theorem gX1_followLeftEnds : gP.1[nX1_followLeftEnds]? = some (yX1_followLeftEnds, cX1_followLeftEnds, 6, none, 2, 48, wX1_followLeftEnds) := rfl
theorem gX8_leftRecursiveSet : gP.1[nX8_leftRecursiveSet]? = some (yX8_leftRecursiveSet, cX8_leftRecursiveSet, 1, (some .int), 4, 93, wX8_leftRecursiveSet) := rfl
theorem gX9_recursives : gP.1[nX9_recursives]? = some (yX9_recursives, cX9_recursives, 6, (some .int), 5, 113, wX9_recursives) := rfl
theorem gX9_leftRecursiveSet : gP.1[nX9_leftRecursiveSet]? = some (yX9_leftRecursiveSet, cX9_leftRecursiveSet, 1, (some .int), 6, 138, wX9_leftRecursiveSet) := rfl
theorem gX8_unitReach : gP.1[nX8_unitReach]? = some (yX8_unitReach, cX8_unitReach, 2, (some .int), 3, 70, wX8_unitReach) := rfl
theorem gX9_isIndex : gP.1[nX9_isIndex]? = some (yX9_isIndex, cX9_isIndex, 1, (some .boolean), 1, 22, wX9_isIndex) := rfl
theorem gX9_unitReach : gP.1[nX9_unitReach]? = some (yX9_unitReach, cX9_unitReach, 2, (some .int), 4, 84, wX9_unitReach) := rfl
theorem gX0_beginnings : gP.1[nX0_beginnings]? = some (yX0_beginnings, cX0_beginnings, 8, (some .int), 1, 22, wX0_beginnings) := rfl
theorem gX0_grow : gP.1[nX0_grow]? = some (yX0_grow, cX0_grow, 4, (some .boolean), 0, 0, wX0_grow) := rfl
theorem gX0_findFirsts : gP.1[nX0_findFirsts]? = some (yX0_findFirsts, cX0_findFirsts, 7, none, 2, 49, wX0_findFirsts) := rfl
theorem gX0_followOf : gP.1[nX0_followOf]? = some (yX0_followOf, cX0_followOf, 2, (some .int), 1, 20, wX0_followOf) := rfl
theorem gX0_comingAfter : gP.1[nX0_comingAfter]? = some (yX0_comingAfter, cX0_comingAfter, 5, (some .int), 2, 49, wX0_comingAfter) := rfl
theorem gX0_passFollows : gP.1[nX0_passFollows]? = some (yX0_passFollows, cX0_passFollows, 7, (some .boolean), 3, 73, wX0_passFollows) := rfl
theorem gX0_findFollows : gP.1[nX0_findFollows]? = some (yX0_findFollows, cX0_findFollows, 5, none, 4, 99, wX0_findFollows) := rfl
theorem gX0_study : gP.1[nX0_study]? = some (yX0_study, cX0_study, 2, none, 5, 123, wX0_study) := rfl
theorem gX0_firstOf : gP.1[nX0_firstOf]? = some (yX0_firstOf, cX0_firstOf, 2, (some .int), 1, 20, wX0_firstOf) := rfl
theorem gX8_firstSet : gP.1[nX8_firstSet]? = some (yX8_firstSet, cX8_firstSet, 2, (some .int), 6, 144, wX8_firstSet) := rfl
theorem gX9_firstOf : gP.1[nX9_firstOf]? = some (yX9_firstOf, cX9_firstOf, 9, (some .int), 2, 42, wX9_firstOf) := rfl
theorem gX9_layFirsts : gP.1[nX9_layFirsts]? = some (yX9_layFirsts, cX9_layFirsts, 4, none, 5, 113, wX9_layFirsts) := rfl
theorem gX9_firstNow : gP.1[nX9_firstNow]? = some (yX9_firstNow, cX9_firstNow, 2, (some .int), 6, 136, wX9_firstNow) := rfl
theorem gX9_firstSet : gP.1[nX9_firstSet]? = some (yX9_firstSet, cX9_firstSet, 2, (some .int), 7, 157, wX9_firstSet) := rfl
theorem gX8_followSet : gP.1[nX8_followSet]? = some (yX8_followSet, cX8_followSet, 2, (some .int), 6, 144, wX8_followSet) := rfl
theorem gX9_layFollows : gP.1[nX9_layFollows]? = some (yX9_layFollows, cX9_layFollows, 6, none, 6, 136, wX9_layFollows) := rfl
theorem gX9_followNow : gP.1[nX9_followNow]? = some (yX9_followNow, cX9_followNow, 2, (some .int), 7, 161, wX9_followNow) := rfl
theorem gX9_followSet : gP.1[nX9_followSet]? = some (yX9_followSet, cX9_followSet, 2, (some .int), 8, 182, wX9_followSet) := rfl
theorem gX0_hasDistinctLookaheads : gP.1[nX0_hasDistinctLookaheads]? = some (yX0_hasDistinctLookaheads, cX0_hasDistinctLookaheads, 8, (some .boolean), 3, 73, wX0_hasDistinctLookaheads) := rfl
theorem gX8_isLl1 : gP.1[nX8_isLl1]? = some (yX8_isLl1, cX8_isLl1, 1, (some .int), 6, 144, wX8_isLl1) := rfl
theorem gX9_isPredictive : gP.1[nX9_isPredictive]? = some (yX9_isPredictive, cX9_isPredictive, 6, (some .boolean), 7, 161, wX9_isPredictive) := rfl
theorem gX9_isLl1 : gP.1[nX9_isLl1]? = some (yX9_isLl1, cX9_isLl1, 1, (some .int), 8, 186, wX9_isLl1) := rfl
theorem gX5_fitsChomsky : gP.1[nX5_fitsChomsky]? = some (yX5_fitsChomsky, cX5_fitsChomsky, 3, (some .boolean), 2, 47, wX5_fitsChomsky) := rfl
theorem gX8_isChomsky : gP.1[nX8_isChomsky]? = some (yX8_isChomsky, cX8_isChomsky, 2, (some .int), 3, 69, wX8_isChomsky) := rfl
theorem gX9_isInChomsky : gP.1[nX9_isInChomsky]? = some (yX9_isInChomsky, cX9_isInChomsky, 6, (some .boolean), 2, 44, wX9_isInChomsky) := rfl
theorem gX9_isChomsky : gP.1[nX9_isChomsky]? = some (yX9_isChomsky, cX9_isChomsky, 1, (some .int), 3, 69, wX9_isChomsky) := rfl
theorem gX5_fitsGreibach : gP.1[nX5_fitsGreibach]? = some (yX5_fitsGreibach, cX5_fitsGreibach, 2, (some .boolean), 2, 47, wX5_fitsGreibach) := rfl
theorem gX8_isGreibach : gP.1[nX8_isGreibach]? = some (yX8_isGreibach, cX8_isGreibach, 2, (some .int), 3, 68, wX8_isGreibach) := rfl
theorem gX9_isInGreibach : gP.1[nX9_isInGreibach]? = some (yX9_isInGreibach, cX9_isInGreibach, 4, (some .boolean), 2, 42, wX9_isInGreibach) := rfl
theorem gX9_isGreibach : gP.1[nX9_isGreibach]? = some (yX9_isGreibach, cX9_isGreibach, 1, (some .int), 3, 65, wX9_isGreibach) := rfl
theorem gX2_copyFrom : gP.1[nX2_copyFrom]? = some (yX2_copyFrom, cX2_copyFrom, 2, none, 1, 26, wX2_copyFrom) := rfl
theorem gX7_begin : gP.1[nX7_begin]? = some (yX7_begin, cX7_begin, 2, none, 2, 47, wX7_begin) := rfl
theorem gX7_beginStep : gP.1[nX7_beginStep]? = some (yX7_beginStep, cX7_beginStep, 1, none, 2, 47, wX7_beginStep) := rfl
theorem gX7_dropUseless : gP.1[nX7_dropUseless]? = some (yX7_dropUseless, cX7_dropUseless, 7, none, 4, 93, wX7_dropUseless) := rfl
theorem gX2_isTooLarge : gP.1[nX2_isTooLarge]? = some (yX2_isTooLarge, cX2_isTooLarge, 1, (some .boolean), 0, 0, wX2_isTooLarge) := rfl
theorem gX7_finish : gP.1[nX7_finish]? = some (yX7_finish, cX7_finish, 2, (some .int), 2, 47, wX7_finish) := rfl
theorem gX8_removeUseless : gP.1[nX8_removeUseless]? = some (yX8_removeUseless, cX8_removeUseless, 2, (some .int), 5, 119, wX8_removeUseless) := rfl
theorem gX9_start : gP.1[nX9_start]? = some (yX9_start, cX9_start, 2, none, 0, 0, wX9_start) := rfl
theorem gX9_step : gP.1[nX9_step]? = some (yX9_step, cX9_step, 2, none, 0, 0, wX9_step) := rfl
theorem gX9_finish : gP.1[nX9_finish]? = some (yX9_finish, cX9_finish, 2, (some .int), 0, 0, wX9_finish) := rfl
theorem gX9_removeUseless : gP.1[nX9_removeUseless]? = some (yX9_removeUseless, cX9_removeUseless, 5, (some .int), 5, 113, wX9_removeUseless) := rfl
theorem gJ6_bitCount_0f7a4 : gP.1[nJ6_bitCount_0f7a4]? = some (yJ6_bitCount_0f7a4, cJ6_bitCount_0f7a4, 1, (some .int), 0, 0, wJ6_bitCount_0f7a4) := rfl
theorem gX5_thinned : gP.1[nX5_thinned]? = some (yX5_thinned, cX5_thinned, 7, (some .long), 2, 45, wX5_thinned) := rfl
theorem gX7_addThinned : gP.1[nX7_addThinned]? = some (yX7_addThinned, cX7_addThinned, 7, none, 3, 71, wX7_addThinned) := rfl
theorem gX7_dropEmpty : gP.1[nX7_dropEmpty]? = some (yX7_dropEmpty, cX7_dropEmpty, 3, none, 4, 97, wX7_dropEmpty) := rfl
theorem gX8_removeEmpty : gP.1[nX8_removeEmpty]? = some (yX8_removeEmpty, cX8_removeEmpty, 1, (some .int), 5, 119, wX8_removeEmpty) := rfl
theorem gX9_putRow : gP.1[nX9_putRow]? = some (yX9_putRow, cX9_putRow, 5, none, 1, 24, wX9_putRow) := rfl
theorem gX9_putWithout : gP.1[nX9_putWithout]? = some (yX9_putWithout, cX9_putWithout, 10, none, 2, 48, wX9_putWithout) := rfl
theorem gX9_removeEmpty : gP.1[nX9_removeEmpty]? = some (yX9_removeEmpty, cX9_removeEmpty, 6, (some .int), 5, 113, wX9_removeEmpty) := rfl
theorem gX5_joined : gP.1[nX5_joined]? = some (yX5_joined, cX5_joined, 8, (some .long), 1, 22, wX5_joined) := rfl
theorem gX7_addLent : gP.1[nX7_addLent]? = some (yX7_addLent, cX7_addLent, 6, none, 2, 49, wX7_addLent) := rfl
theorem gX7_dropUnits : gP.1[nX7_dropUnits]? = some (yX7_dropUnits, cX7_dropUnits, 3, none, 3, 74, wX7_dropUnits) := rfl
theorem gX8_removeUnits : gP.1[nX8_removeUnits]? = some (yX8_removeUnits, cX8_removeUnits, 1, (some .int), 4, 96, wX8_removeUnits) := rfl
theorem gX9_addRow : gP.1[nX9_addRow]? = some (yX9_addRow, cX9_addRow, 6, none, 1, 22, wX9_addRow) := rfl
theorem gX9_removeUnits : gP.1[nX9_removeUnits]? = some (yX9_removeUnits, cX9_removeUnits, 4, (some .int), 4, 84, wX9_removeUnits) := rfl
theorem gX7_occursInLong : gP.1[nX7_occursInLong]? = some (yX7_occursInLong, cX7_occursInLong, 8, (some .boolean), 1, 22, wX7_occursInLong) := rfl
theorem gX2_leftSides : gP.1[nX2_leftSides]? = some (yX2_leftSides, cX2_leftSides, 3, (some .int), 1, 21, wX2_leftSides) := rfl
theorem gX2_freeNonterminal : gP.1[nX2_freeNonterminal]? = some (yX2_freeNonterminal, cX2_freeNonterminal, 3, (some .int), 2, 46, wX2_freeNonterminal) := rfl
theorem gX2_refuse : gP.1[nX2_refuse]? = some (yX2_refuse, cX2_refuse, 1, none, 0, 0, wX2_refuse) := rfl
theorem gX5_renamed : gP.1[nX5_renamed]? = some (yX5_renamed, cX5_renamed, 10, (some .long), 2, 45, wX5_renamed) := rfl
theorem gX7_nameTerminal : gP.1[nX7_nameTerminal]? = some (yX7_nameTerminal, cX7_nameTerminal, 8, none, 3, 74, wX7_nameTerminal) := rfl
theorem gX7_nameTerminals : gP.1[nX7_nameTerminals]? = some (yX7_nameTerminals, cX7_nameTerminals, 3, none, 4, 101, wX7_nameTerminals) := rfl
theorem gX7_firstLong : gP.1[nX7_firstLong]? = some (yX7_firstLong, cX7_firstLong, 2, (some .long), 1, 22, wX7_firstLong) := rfl
theorem gX2_remove : gP.1[nX2_remove]? = some (yX2_remove, cX2_remove, 4, none, 1, 26, wX2_remove) := rfl
theorem gX7_split : gP.1[nX7_split]? = some (yX7_split, cX7_split, 4, none, 3, 68, wX7_split) := rfl
theorem gX7_splitLong : gP.1[nX7_splitLong]? = some (yX7_splitLong, cX7_splitLong, 4, none, 4, 91, wX7_splitLong) := rfl
theorem gX8_toChomsky : gP.1[nX8_toChomsky]? = some (yX8_toChomsky, cX8_toChomsky, 1, (some .int), 5, 123, wX8_toChomsky) := rfl
theorem gX9_hasUnit : gP.1[nX9_hasUnit]? = some (yX9_hasUnit, cX9_hasUnit, 3, (some .boolean), 3, 63, wX9_hasUnit) := rfl
theorem gX9_mayNotStay : gP.1[nX9_mayNotStay]? = some (yX9_mayNotStay, cX9_mayNotStay, 5, (some .boolean), 2, 44, wX9_mayNotStay) := rfl
theorem gX9_freeOne : gP.1[nX9_freeOne]? = some (yX9_freeOne, cX9_freeOne, 4, (some .int), 2, 42, wX9_freeOne) := rfl
theorem gX9_veil : gP.1[nX9_veil]? = some (yX9_veil, cX9_veil, 7, none, 3, 68, wX9_veil) := rfl
theorem gX9_veilAll : gP.1[nX9_veilAll]? = some (yX9_veilAll, cX9_veilAll, 3, none, 4, 94, wX9_veilAll) := rfl
theorem gX9_cut : gP.1[nX9_cut]? = some (yX9_cut, cX9_cut, 4, (some .boolean), 3, 65, wX9_cut) := rfl
theorem gX9_toChomsky : gP.1[nX9_toChomsky]? = some (yX9_toChomsky, cX9_toChomsky, 2, (some .int), 5, 116, wX9_toChomsky) := rfl
theorem gX5_begins : gP.1[nX5_begins]? = some (yX5_begins, cX5_begins, 4, (some .boolean), 1, 22, wX5_begins) := rfl
theorem gX7_addExpansions : gP.1[nX7_addExpansions]? = some (yX7_addExpansions, cX7_addExpansions, 9, none, 2, 49, wX7_addExpansions) := rfl
theorem gX7_expandAll : gP.1[nX7_expandAll]? = some (yX7_expandAll, cX7_expandAll, 4, none, 3, 77, wX7_expandAll) := rfl
theorem gX7_isRecursive : gP.1[nX7_isRecursive]? = some (yX7_isRecursive, cX7_isRecursive, 3, (some .boolean), 2, 45, wX7_isRecursive) := rfl
theorem gX7_turnRecursion : gP.1[nX7_turnRecursion]? = some (yX7_turnRecursion, cX7_turnRecursion, 6, none, 3, 68, wX7_turnRecursion) := rfl
theorem gX7_treatLeft : gP.1[nX7_treatLeft]? = some (yX7_treatLeft, cX7_treatLeft, 4, none, 4, 100, wX7_treatLeft) := rfl
theorem gX7_dropLeftRecursion : gP.1[nX7_dropLeftRecursion]? = some (yX7_dropLeftRecursion, cX7_dropLeftRecursion, 3, none, 5, 123, wX7_dropLeftRecursion) := rfl
theorem gX8_removeLeftRecursion : gP.1[nX8_removeLeftRecursion]? = some (yX8_removeLeftRecursion, cX8_removeLeftRecursion, 1, (some .int), 6, 145, wX8_removeLeftRecursion) := rfl
theorem gX9_putTold : gP.1[nX9_putTold]? = some (yX9_putTold, cX9_putTold, 5, none, 2, 48, wX9_putTold) := rfl
theorem gX9_tell : gP.1[nX9_tell]? = some (yX9_tell, cX9_tell, 4, none, 3, 72, wX9_tell) := rfl
theorem gX9_beginsWithItself : gP.1[nX9_beginsWithItself]? = some (yX9_beginsWithItself, cX9_beginsWithItself, 3, (some .boolean), 1, 22, wX9_beginsWithItself) := rfl
theorem gX9_putTail : gP.1[nX9_putTail]? = some (yX9_putTail, cX9_putTail, 4, none, 2, 48, wX9_putTail) := rfl
theorem gX9_unwind : gP.1[nX9_unwind]? = some (yX9_unwind, cX9_unwind, 5, none, 3, 71, wX9_unwind) := rfl
theorem gX9_unwindAll : gP.1[nX9_unwindAll]? = some (yX9_unwindAll, cX9_unwindAll, 4, none, 4, 95, wX9_unwindAll) := rfl
theorem gX9_removeLeftRecursion : gP.1[nX9_removeLeftRecursion]? = some (yX9_removeLeftRecursion, cX9_removeLeftRecursion, 1, (some .int), 5, 118, wX9_removeLeftRecursion) := rfl
theorem gX7_sharedLength : gP.1[nX7_sharedLength]? = some (yX7_sharedLength, cX7_sharedLength, 6, (some .int), 1, 22, wX7_sharedLength) := rfl
theorem gX7_firstShared : gP.1[nX7_firstShared]? = some (yX7_firstShared, cX7_firstShared, 2, (some .int), 2, 47, wX7_firstShared) := rfl
theorem gX7_factor : gP.1[nX7_factor]? = some (yX7_factor, cX7_factor, 8, none, 3, 68, wX7_factor) := rfl
theorem gX7_factorPrefixes : gP.1[nX7_factorPrefixes]? = some (yX7_factorPrefixes, cX7_factorPrefixes, 3, none, 4, 95, wX7_factorPrefixes) := rfl
theorem gX8_leftFactor : gP.1[nX8_leftFactor]? = some (yX8_leftFactor, cX8_leftFactor, 1, (some .int), 5, 117, wX8_leftFactor) := rfl
theorem gX9_factor : gP.1[nX9_factor]? = some (yX9_factor, cX9_factor, 8, (some .boolean), 3, 65, wX9_factor) := rfl
theorem gX9_leftFactor : gP.1[nX9_leftFactor]? = some (yX9_leftFactor, cX9_leftFactor, 2, (some .int), 4, 92, wX9_leftFactor) := rfl
theorem gX7_firstWithNonterminal : gP.1[nX7_firstWithNonterminal]? = some (yX7_firstWithNonterminal, cX7_firstWithNonterminal, 2, (some .long), 1, 22, wX7_firstWithNonterminal) := rfl
theorem gX7_expandLeftEnds : gP.1[nX7_expandLeftEnds]? = some (yX7_expandLeftEnds, cX7_expandLeftEnds, 4, none, 3, 77, wX7_expandLeftEnds) := rfl
theorem gX8_toGreibach : gP.1[nX8_toGreibach]? = some (yX8_toGreibach, cX8_toGreibach, 1, (some .int), 6, 145, wX8_toGreibach) := rfl
theorem gX9_tellFirst : gP.1[nX9_tellFirst]? = some (yX9_tellFirst, cX9_tellFirst, 3, (some .boolean), 3, 72, wX9_tellFirst) := rfl
theorem gX9_toGreibach : gP.1[nX9_toGreibach]? = some (yX9_toGreibach, cX9_toGreibach, 2, (some .int), 5, 118, wX9_toGreibach) := rfl
theorem gX8_save : gP.1[nX8_save]? = some (yX8_save, cX8_save, 1, (some .int), 2, 47, wX8_save) := rfl
theorem gX9_save : gP.1[nX9_save]? = some (yX9_save, cX9_save, 2, (some .int), 0, 0, wX9_save) := rfl
theorem gX8_restore : gP.1[nX8_restore]? = some (yX8_restore, cX8_restore, 1, (some .int), 2, 47, wX8_restore) := rfl
theorem gX9_restore : gP.1[nX9_restore]? = some (yX9_restore, cX9_restore, 2, (some .int), 0, 0, wX9_restore) := rfl
theorem gX6_pairs : gP.1[nX6_pairs]? = some (yX6_pairs, cX6_pairs, 7, (some .long), 0, 0, wX6_pairs) := rfl
theorem gX6_readOn : gP.1[nX6_readOn]? = some (yX6_readOn, cX6_readOn, 11, none, 1, 26, wX6_readOn) := rfl
theorem gX6_readRight : gP.1[nX6_readRight]? = some (yX6_readRight, cX6_readRight, 6, none, 2, 56, wX6_readRight) := rfl
theorem gX6_keepRead : gP.1[nX6_keepRead]? = some (yX6_keepRead, cX6_keepRead, 4, (some .boolean), 1, 20, wX6_keepRead) := rfl
theorem gX6_study : gP.1[nX6_study]? = some (yX6_study, cX6_study, 5, none, 3, 81, wX6_study) := rfl
theorem gX6_ofLength : gP.1[nX6_ofLength]? = some (yX6_ofLength, cX6_ofLength, 2, (some .long), 0, 0, wX6_ofLength) := rfl
theorem gJ13_bitCount_95d88 : gP.1[nJ13_bitCount_95d88]? = some (yJ13_bitCount_95d88, cJ13_bitCount_95d88, 2, (some .int), 0, 0, wJ13_bitCount_95d88) := rfl
theorem gX8_countWords : gP.1[nX8_countWords]? = some (yX8_countWords, cX8_countWords, 2, (some .int), 4, 105, wX8_countWords) := rfl
theorem gX9_wordsOf : gP.1[nX9_wordsOf]? = some (yX9_wordsOf, cX9_wordsOf, 1, (some .int), 0, 0, wX9_wordsOf) := rfl
theorem gX9_layWord : gP.1[nX9_layWord]? = some (yX9_layWord, cX9_layWord, 5, (some .int), 0, 0, wX9_layWord) := rfl
theorem gX9_countNow : gP.1[nX9_countNow]? = some (yX9_countNow, cX9_countNow, 8, (some .int), 4, 93, wX9_countNow) := rfl
theorem gX9_countWords : gP.1[nX9_countWords]? = some (yX9_countWords, cX9_countWords, 2, (some .int), 5, 120, wX9_countWords) := rfl
theorem gX8_countDifferences : gP.1[nX8_countDifferences]? = some (yX8_countDifferences, cX8_countDifferences, 4, (some .int), 4, 105, wX8_countDifferences) := rfl
theorem gX9_countDifferences : gP.1[nX9_countDifferences]? = some (yX9_countDifferences, cX9_countDifferences, 2, (some .int), 5, 120, wX9_countDifferences) := rfl
theorem gX8_mixed : gP.1[nX8_mixed]? = some (yX8_mixed, cX8_mixed, 4, (some .long), 0, 0, wX8_mixed) := rfl
theorem gX8_hashOfProductions : gP.1[nX8_hashOfProductions]? = some (yX8_hashOfProductions, cX8_hashOfProductions, 10, (some .long), 2, 40, wX8_hashOfProductions) := rfl
theorem gX8_hashOfProperties : gP.1[nX8_hashOfProperties]? = some (yX8_hashOfProperties, cX8_hashOfProperties, 6, (some .long), 5, 113, wX8_hashOfProperties) := rfl
theorem gX8_digest : gP.1[nX8_digest]? = some (yX8_digest, cX8_digest, 4, (some .long), 6, 144, wX8_digest) := rfl
theorem gX9_mix : gP.1[nX9_mix]? = some (yX9_mix, cX9_mix, 3, none, 0, 0, wX9_mix) := rfl
theorem gX9_digest : gP.1[nX9_digest]? = some (yX9_digest, cX9_digest, 3, (some .long), 8, 186, wX9_digest) := rfl
