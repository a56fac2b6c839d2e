section
-- ===== PART A: goes FIRST, ahead of the names: the tables' words, and 'selects' of the private methods out of them =====
/-- a private method of a class that the tables say can be made, by its rows of tables_1 -/
def lw_okq (q : MethodName × Nat) : Prop := (q.1.cls ≠ "java/lang/invoke/MethodHandle" ∧ q.1.cls ≠ "java/lang/invoke/VarHandle") ∧ Cond.instantiable q.1.cls q.2 ∈ tables_1 ∧ Cond.privateMethod q.1 ∈ tables_1 ∧ Cond.instanceMethod q.1 ∈ tables_1
theorem lw_p0 : lw_okq (⟨"GrammarReshaper$Grammar", "placeOf", "(J)I"⟩, 3) := ⟨⟨by decide +kernel, by decide +kernel⟩, List.mem_of_getElem? (i := 39) (by decide +kernel), List.mem_of_getElem? (i := 242) (by decide +kernel), List.mem_of_getElem? (i := 243) (by decide +kernel)⟩
theorem lw_p1 : lw_okq (⟨"GrammarReshaper$Parser", "addEnds", "(J)Z"⟩, 8) := ⟨⟨by decide +kernel, by decide +kernel⟩, List.mem_of_getElem? (i := 82) (by decide +kernel), List.mem_of_getElem? (i := 300) (by decide +kernel), List.mem_of_getElem? (i := 301) (by decide +kernel)⟩
theorem lw_p2 : lw_okq (⟨"GrammarReshaper$Parser", "endsOf", "(JI)I"⟩, 8) := ⟨⟨by decide +kernel, by decide +kernel⟩, List.mem_of_getElem? (i := 82) (by decide +kernel), List.mem_of_getElem? (i := 307) (by decide +kernel), List.mem_of_getElem? (i := 308) (by decide +kernel)⟩
theorem lw_p3 : lw_okq (⟨"GrammarReshaper$Parser", "endsFrom", "(II)I"⟩, 8) := ⟨⟨by decide +kernel, by decide +kernel⟩, List.mem_of_getElem? (i := 82) (by decide +kernel), List.mem_of_getElem? (i := 315) (by decide +kernel), List.mem_of_getElem? (i := 316) (by decide +kernel)⟩
theorem lw_p4 : lw_okq (⟨"GrammarReshaper$Parser", "stands", "(II)Z"⟩, 8) := ⟨⟨by decide +kernel, by decide +kernel⟩, List.mem_of_getElem? (i := 82) (by decide +kernel), List.mem_of_getElem? (i := 320) (by decide +kernel), List.mem_of_getElem? (i := 321) (by decide +kernel)⟩
theorem lw_p5 : lw_okq (⟨"GrammarReshaper", "isEndless", "()Z"⟩, 9) := ⟨⟨by decide +kernel, by decide +kernel⟩, List.mem_of_getElem? (i := 17) (by decide +kernel), List.mem_of_getElem? (i := 332) (by decide +kernel), List.mem_of_getElem? (i := 333) (by decide +kernel)⟩
theorem lw_p6 : lw_okq (⟨"GrammarReshaper$Arrows", "close", "()V"⟩, 1) := ⟨⟨by decide +kernel, by decide +kernel⟩, List.mem_of_getElem? (i := 56) (by decide +kernel), List.mem_of_getElem? (i := 357) (by decide +kernel), List.mem_of_getElem? (i := 358) (by decide +kernel)⟩
theorem lw_p7 : lw_okq (⟨"GrammarReshaper$Parser", "countPlain", "(LGrammarReshaper$Grammar;II)V"⟩, 8) := ⟨⟨by decide +kernel, by decide +kernel⟩, List.mem_of_getElem? (i := 82) (by decide +kernel), List.mem_of_getElem? (i := 381) (by decide +kernel), List.mem_of_getElem? (i := 382) (by decide +kernel)⟩
theorem lw_p8 : lw_okq (⟨"GrammarReshaper$Parser", "waysThrough", "(JII)J"⟩, 8) := ⟨⟨by decide +kernel, by decide +kernel⟩, List.mem_of_getElem? (i := 82) (by decide +kernel), List.mem_of_getElem? (i := 386) (by decide +kernel), List.mem_of_getElem? (i := 387) (by decide +kernel)⟩
theorem lw_p9 : lw_okq (⟨"GrammarReshaper$Parser", "takeSymbol", "(III)V"⟩, 8) := ⟨⟨by decide +kernel, by decide +kernel⟩, List.mem_of_getElem? (i := 82) (by decide +kernel), List.mem_of_getElem? (i := 390) (by decide +kernel), List.mem_of_getElem? (i := 391) (by decide +kernel)⟩
theorem lw_p10 : lw_okq (⟨"GrammarReshaper$Parser", "treesOfSymbol", "(III)J"⟩, 8) := ⟨⟨by decide +kernel, by decide +kernel⟩, List.mem_of_getElem? (i := 82) (by decide +kernel), List.mem_of_getElem? (i := 394) (by decide +kernel), List.mem_of_getElem? (i := 395) (by decide +kernel)⟩
theorem lw_p11 : lw_okq (⟨"GrammarReshaper$Parser", "treesAt", "(III)J"⟩, 8) := ⟨⟨by decide +kernel, by decide +kernel⟩, List.mem_of_getElem? (i := 82) (by decide +kernel), List.mem_of_getElem? (i := 398) (by decide +kernel), List.mem_of_getElem? (i := 399) (by decide +kernel)⟩
theorem lw_p12 : lw_okq (⟨"GrammarReshaper$Parser", "spreadUnits", "(LGrammarReshaper$Grammar;)V"⟩, 8) := ⟨⟨by decide +kernel, by decide +kernel⟩, List.mem_of_getElem? (i := 82) (by decide +kernel), List.mem_of_getElem? (i := 403) (by decide +kernel), List.mem_of_getElem? (i := 404) (by decide +kernel)⟩
theorem lw_p13 : lw_okq (⟨"GrammarReshaper$Parser", "keepTotals", "(II)V"⟩, 8) := ⟨⟨by decide +kernel, by decide +kernel⟩, List.mem_of_getElem? (i := 82) (by decide +kernel), List.mem_of_getElem? (i := 407) (by decide +kernel), List.mem_of_getElem? (i := 408) (by decide +kernel)⟩
theorem lw_p14 : lw_okq (⟨"GrammarReshaper$Grammar", "derivable", "(I)I"⟩, 3) := ⟨⟨by decide +kernel, by decide +kernel⟩, List.mem_of_getElem? (i := 39) (by decide +kernel), List.mem_of_getElem? (i := 435) (by decide +kernel), List.mem_of_getElem? (i := 436) (by decide +kernel)⟩
theorem lw_p15 : lw_okq (⟨"GrammarReshaper$Analysis", "findFirsts", "(LGrammarReshaper$Grammar;)V"⟩, 3) := ⟨⟨by decide +kernel, by decide +kernel⟩, List.mem_of_getElem? (i := 66) (by decide +kernel), List.mem_of_getElem? (i := 492) (by decide +kernel), List.mem_of_getElem? (i := 493) (by decide +kernel)⟩
def lw_privs_1 : List (MethodName × Nat) := [(⟨"GrammarReshaper$Grammar", "placeOf", "(J)I"⟩, 3), (⟨"GrammarReshaper$Parser", "addEnds", "(J)Z"⟩, 8), (⟨"GrammarReshaper$Parser", "endsOf", "(JI)I"⟩, 8), (⟨"GrammarReshaper$Parser", "endsFrom", "(II)I"⟩, 8), (⟨"GrammarReshaper$Parser", "stands", "(II)Z"⟩, 8), (⟨"GrammarReshaper", "isEndless", "()Z"⟩, 9), (⟨"GrammarReshaper$Arrows", "close", "()V"⟩, 1), (⟨"GrammarReshaper$Parser", "countPlain", "(LGrammarReshaper$Grammar;II)V"⟩, 8), (⟨"GrammarReshaper$Parser", "waysThrough", "(JII)J"⟩, 8), (⟨"GrammarReshaper$Parser", "takeSymbol", "(III)V"⟩, 8), (⟨"GrammarReshaper$Parser", "treesOfSymbol", "(III)J"⟩, 8), (⟨"GrammarReshaper$Parser", "treesAt", "(III)J"⟩, 8), (⟨"GrammarReshaper$Parser", "spreadUnits", "(LGrammarReshaper$Grammar;)V"⟩, 8), (⟨"GrammarReshaper$Parser", "keepTotals", "(II)V"⟩, 8), (⟨"GrammarReshaper$Grammar", "derivable", "(I)I"⟩, 3), (⟨"GrammarReshaper$Analysis", "findFirsts", "(LGrammarReshaper$Grammar;)V"⟩, 3)]
theorem lw_r1 : ∀ q ∈ lw_privs_1, lw_okq q := List.forall_mem_cons.mpr ⟨lw_p0, List.forall_mem_cons.mpr ⟨lw_p1, List.forall_mem_cons.mpr ⟨lw_p2, List.forall_mem_cons.mpr ⟨lw_p3, List.forall_mem_cons.mpr ⟨lw_p4, List.forall_mem_cons.mpr ⟨lw_p5, List.forall_mem_cons.mpr ⟨lw_p6, List.forall_mem_cons.mpr ⟨lw_p7, List.forall_mem_cons.mpr ⟨lw_p8, List.forall_mem_cons.mpr ⟨lw_p9, List.forall_mem_cons.mpr ⟨lw_p10, List.forall_mem_cons.mpr ⟨lw_p11, List.forall_mem_cons.mpr ⟨lw_p12, List.forall_mem_cons.mpr ⟨lw_p13, List.forall_mem_cons.mpr ⟨lw_p14, List.forall_mem_cons.mpr ⟨lw_p15, fun _ h => absurd h List.not_mem_nil⟩⟩⟩⟩⟩⟩⟩⟩⟩⟩⟩⟩⟩⟩⟩⟩
theorem lw_p16 : lw_okq (⟨"GrammarReshaper$Analysis", "beginnings", "(JI)I"⟩, 3) := ⟨⟨by decide +kernel, by decide +kernel⟩, List.mem_of_getElem? (i := 66) (by decide +kernel), List.mem_of_getElem? (i := 500) (by decide +kernel), List.mem_of_getElem? (i := 501) (by decide +kernel)⟩
theorem lw_p17 : lw_okq (⟨"GrammarReshaper$Analysis", "findFollows", "(LGrammarReshaper$Grammar;)V"⟩, 3) := ⟨⟨by decide +kernel, by decide +kernel⟩, List.mem_of_getElem? (i := 66) (by decide +kernel), List.mem_of_getElem? (i := 512) (by decide +kernel), List.mem_of_getElem? (i := 513) (by decide +kernel)⟩
theorem lw_p18 : lw_okq (⟨"GrammarReshaper$Analysis", "passFollows", "(J)Z"⟩, 3) := ⟨⟨by decide +kernel, by decide +kernel⟩, List.mem_of_getElem? (i := 66) (by decide +kernel), List.mem_of_getElem? (i := 516) (by decide +kernel), List.mem_of_getElem? (i := 517) (by decide +kernel)⟩
theorem lw_p19 : lw_okq (⟨"GrammarReshaper$Analysis", "comingAfter", "(JI)I"⟩, 3) := ⟨⟨by decide +kernel, by decide +kernel⟩, List.mem_of_getElem? (i := 66) (by decide +kernel), List.mem_of_getElem? (i := 520) (by decide +kernel), List.mem_of_getElem? (i := 521) (by decide +kernel)⟩
theorem lw_p20 : lw_okq (⟨"GrammarReshaper$Transformer", "beginStep", "()V"⟩, 2) := ⟨⟨by decide +kernel, by decide +kernel⟩, List.mem_of_getElem? (i := 138) (by decide +kernel), List.mem_of_getElem? (i := 580) (by decide +kernel), List.mem_of_getElem? (i := 581) (by decide +kernel)⟩
theorem lw_p21 : lw_okq (⟨"GrammarReshaper$Transformer", "addThinned", "(JI)V"⟩, 2) := ⟨⟨by decide +kernel, by decide +kernel⟩, List.mem_of_getElem? (i := 138) (by decide +kernel), List.mem_of_getElem? (i := 611) (by decide +kernel), List.mem_of_getElem? (i := 612) (by decide +kernel)⟩
theorem lw_p22 : lw_okq (⟨"GrammarReshaper$Transformer", "addLent", "(II)V"⟩, 2) := ⟨⟨by decide +kernel, by decide +kernel⟩, List.mem_of_getElem? (i := 138) (by decide +kernel), List.mem_of_getElem? (i := 638) (by decide +kernel), List.mem_of_getElem? (i := 639) (by decide +kernel)⟩
theorem lw_p23 : lw_okq (⟨"GrammarReshaper$Transformer", "occursInLong", "(II)Z"⟩, 2) := ⟨⟨by decide +kernel, by decide +kernel⟩, List.mem_of_getElem? (i := 138) (by decide +kernel), List.mem_of_getElem? (i := 657) (by decide +kernel), List.mem_of_getElem? (i := 658) (by decide +kernel)⟩
theorem lw_p24 : lw_okq (⟨"GrammarReshaper$Transformer", "nameTerminal", "(II)V"⟩, 2) := ⟨⟨by decide +kernel, by decide +kernel⟩, List.mem_of_getElem? (i := 138) (by decide +kernel), List.mem_of_getElem? (i := 661) (by decide +kernel), List.mem_of_getElem? (i := 662) (by decide +kernel)⟩
theorem lw_p25 : lw_okq (⟨"GrammarReshaper$Transformer", "firstLong", "()J"⟩, 2) := ⟨⟨by decide +kernel, by decide +kernel⟩, List.mem_of_getElem? (i := 138) (by decide +kernel), List.mem_of_getElem? (i := 687) (by decide +kernel), List.mem_of_getElem? (i := 688) (by decide +kernel)⟩
theorem lw_p26 : lw_okq (⟨"GrammarReshaper$Transformer", "split", "(J)V"⟩, 2) := ⟨⟨by decide +kernel, by decide +kernel⟩, List.mem_of_getElem? (i := 138) (by decide +kernel), List.mem_of_getElem? (i := 692) (by decide +kernel), List.mem_of_getElem? (i := 693) (by decide +kernel)⟩
theorem lw_p27 : lw_okq (⟨"GrammarReshaper$Transformer", "treatLeft", "(II)V"⟩, 2) := ⟨⟨by decide +kernel, by decide +kernel⟩, List.mem_of_getElem? (i := 138) (by decide +kernel), List.mem_of_getElem? (i := 710) (by decide +kernel), List.mem_of_getElem? (i := 711) (by decide +kernel)⟩
theorem lw_p28 : lw_okq (⟨"GrammarReshaper$Transformer", "expandAll", "(II)V"⟩, 2) := ⟨⟨by decide +kernel, by decide +kernel⟩, List.mem_of_getElem? (i := 138) (by decide +kernel), List.mem_of_getElem? (i := 714) (by decide +kernel), List.mem_of_getElem? (i := 715) (by decide +kernel)⟩
theorem lw_p29 : lw_okq (⟨"GrammarReshaper$Transformer", "addExpansions", "(J)V"⟩, 2) := ⟨⟨by decide +kernel, by decide +kernel⟩, List.mem_of_getElem? (i := 138) (by decide +kernel), List.mem_of_getElem? (i := 721) (by decide +kernel), List.mem_of_getElem? (i := 722) (by decide +kernel)⟩
theorem lw_p30 : lw_okq (⟨"GrammarReshaper$Transformer", "turnRecursion", "(I)V"⟩, 2) := ⟨⟨by decide +kernel, by decide +kernel⟩, List.mem_of_getElem? (i := 138) (by decide +kernel), List.mem_of_getElem? (i := 725) (by decide +kernel), List.mem_of_getElem? (i := 726) (by decide +kernel)⟩
theorem lw_p31 : lw_okq (⟨"GrammarReshaper$Transformer", "isRecursive", "(I)Z"⟩, 2) := ⟨⟨by decide +kernel, by decide +kernel⟩, List.mem_of_getElem? (i := 138) (by decide +kernel), List.mem_of_getElem? (i := 729) (by decide +kernel), List.mem_of_getElem? (i := 730) (by decide +kernel)⟩
def lw_privs_2 : List (MethodName × Nat) := [(⟨"GrammarReshaper$Analysis", "beginnings", "(JI)I"⟩, 3), (⟨"GrammarReshaper$Analysis", "findFollows", "(LGrammarReshaper$Grammar;)V"⟩, 3), (⟨"GrammarReshaper$Analysis", "passFollows", "(J)Z"⟩, 3), (⟨"GrammarReshaper$Analysis", "comingAfter", "(JI)I"⟩, 3), (⟨"GrammarReshaper$Transformer", "beginStep", "()V"⟩, 2), (⟨"GrammarReshaper$Transformer", "addThinned", "(JI)V"⟩, 2), (⟨"GrammarReshaper$Transformer", "addLent", "(II)V"⟩, 2), (⟨"GrammarReshaper$Transformer", "occursInLong", "(II)Z"⟩, 2), (⟨"GrammarReshaper$Transformer", "nameTerminal", "(II)V"⟩, 2), (⟨"GrammarReshaper$Transformer", "firstLong", "()J"⟩, 2), (⟨"GrammarReshaper$Transformer", "split", "(J)V"⟩, 2), (⟨"GrammarReshaper$Transformer", "treatLeft", "(II)V"⟩, 2), (⟨"GrammarReshaper$Transformer", "expandAll", "(II)V"⟩, 2), (⟨"GrammarReshaper$Transformer", "addExpansions", "(J)V"⟩, 2), (⟨"GrammarReshaper$Transformer", "turnRecursion", "(I)V"⟩, 2), (⟨"GrammarReshaper$Transformer", "isRecursive", "(I)Z"⟩, 2)]
theorem lw_r2 : ∀ q ∈ lw_privs_2, lw_okq q := List.forall_mem_cons.mpr ⟨lw_p16, List.forall_mem_cons.mpr ⟨lw_p17, List.forall_mem_cons.mpr ⟨lw_p18, List.forall_mem_cons.mpr ⟨lw_p19, List.forall_mem_cons.mpr ⟨lw_p20, List.forall_mem_cons.mpr ⟨lw_p21, List.forall_mem_cons.mpr ⟨lw_p22, List.forall_mem_cons.mpr ⟨lw_p23, List.forall_mem_cons.mpr ⟨lw_p24, List.forall_mem_cons.mpr ⟨lw_p25, List.forall_mem_cons.mpr ⟨lw_p26, List.forall_mem_cons.mpr ⟨lw_p27, List.forall_mem_cons.mpr ⟨lw_p28, List.forall_mem_cons.mpr ⟨lw_p29, List.forall_mem_cons.mpr ⟨lw_p30, List.forall_mem_cons.mpr ⟨lw_p31, fun _ h => absurd h List.not_mem_nil⟩⟩⟩⟩⟩⟩⟩⟩⟩⟩⟩⟩⟩⟩⟩⟩
theorem lw_p32 : lw_okq (⟨"GrammarReshaper$Transformer", "firstShared", "()I"⟩, 2) := ⟨⟨by decide +kernel, by decide +kernel⟩, List.mem_of_getElem? (i := 138) (by decide +kernel), List.mem_of_getElem? (i := 741) (by decide +kernel), List.mem_of_getElem? (i := 742) (by decide +kernel)⟩
theorem lw_p33 : lw_okq (⟨"GrammarReshaper$Transformer", "factor", "(I)V"⟩, 2) := ⟨⟨by decide +kernel, by decide +kernel⟩, List.mem_of_getElem? (i := 138) (by decide +kernel), List.mem_of_getElem? (i := 749) (by decide +kernel), List.mem_of_getElem? (i := 750) (by decide +kernel)⟩
theorem lw_p34 : lw_okq (⟨"GrammarReshaper$Transformer", "firstWithNonterminal", "()J"⟩, 2) := ⟨⟨by decide +kernel, by decide +kernel⟩, List.mem_of_getElem? (i := 138) (by decide +kernel), List.mem_of_getElem? (i := 762) (by decide +kernel), List.mem_of_getElem? (i := 763) (by decide +kernel)⟩
theorem lw_p35 : lw_okq (⟨"GrammarReshaper$ShortWords", "readRight", "(J)V"⟩, 6) := ⟨⟨by decide +kernel, by decide +kernel⟩, List.mem_of_getElem? (i := 113) (by decide +kernel), List.mem_of_getElem? (i := 787) (by decide +kernel), List.mem_of_getElem? (i := 788) (by decide +kernel)⟩
theorem lw_p36 : lw_okq (⟨"GrammarReshaper$ShortWords", "readOn", "(JJJ)V"⟩, 6) := ⟨⟨by decide +kernel, by decide +kernel⟩, List.mem_of_getElem? (i := 113) (by decide +kernel), List.mem_of_getElem? (i := 794) (by decide +kernel), List.mem_of_getElem? (i := 795) (by decide +kernel)⟩
theorem lw_p37 : lw_okq (⟨"GrammarReshaper$ShortWords", "keepRead", "(I)Z"⟩, 6) := ⟨⟨by decide +kernel, by decide +kernel⟩, List.mem_of_getElem? (i := 113) (by decide +kernel), List.mem_of_getElem? (i := 802) (by decide +kernel), List.mem_of_getElem? (i := 803) (by decide +kernel)⟩
theorem lw_p38 : lw_okq (⟨"GrammarReshaper", "hashOfProductions", "(J)J"⟩, 9) := ⟨⟨by decide +kernel, by decide +kernel⟩, List.mem_of_getElem? (i := 17) (by decide +kernel), List.mem_of_getElem? (i := 826) (by decide +kernel), List.mem_of_getElem? (i := 827) (by decide +kernel)⟩
theorem lw_p39 : lw_okq (⟨"GrammarReshaper", "hashOfProperties", "(J)J"⟩, 9) := ⟨⟨by decide +kernel, by decide +kernel⟩, List.mem_of_getElem? (i := 17) (by decide +kernel), List.mem_of_getElem? (i := 834) (by decide +kernel), List.mem_of_getElem? (i := 835) (by decide +kernel)⟩
theorem lw_p40 : lw_okq (⟨"GrammarReshaperModel", "rightLength", "()I"⟩, 29) := ⟨⟨by decide +kernel, by decide +kernel⟩, List.mem_of_getElem? (i := 846) (by decide +kernel), List.mem_of_getElem? (i := 955) (by decide +kernel), List.mem_of_getElem? (i := 956) (by decide +kernel)⟩
theorem lw_p41 : lw_okq (⟨"GrammarReshaperModel", "begin", "()V"⟩, 29) := ⟨⟨by decide +kernel, by decide +kernel⟩, List.mem_of_getElem? (i := 846) (by decide +kernel), List.mem_of_getElem? (i := 959) (by decide +kernel), List.mem_of_getElem? (i := 960) (by decide +kernel)⟩
theorem lw_p42 : lw_okq (⟨"GrammarReshaperModel", "takes", "(I)Z"⟩, 29) := ⟨⟨by decide +kernel, by decide +kernel⟩, List.mem_of_getElem? (i := 846) (by decide +kernel), List.mem_of_getElem? (i := 963) (by decide +kernel), List.mem_of_getElem? (i := 964) (by decide +kernel)⟩
theorem lw_p43 : lw_okq (⟨"GrammarReshaperModel", "put", "(J)V"⟩, 29) := ⟨⟨by decide +kernel, by decide +kernel⟩, List.mem_of_getElem? (i := 846) (by decide +kernel), List.mem_of_getElem? (i := 973) (by decide +kernel), List.mem_of_getElem? (i := 974) (by decide +kernel)⟩
theorem lw_p44 : lw_okq (⟨"GrammarReshaperModel", "isWord", "()Z"⟩, 29) := ⟨⟨by decide +kernel, by decide +kernel⟩, List.mem_of_getElem? (i := 846) (by decide +kernel), List.mem_of_getElem? (i := 988) (by decide +kernel), List.mem_of_getElem? (i := 989) (by decide +kernel)⟩
theorem lw_p45 : lw_okq (⟨"GrammarReshaperModel", "takeWord", "()V"⟩, 29) := ⟨⟨by decide +kernel, by decide +kernel⟩, List.mem_of_getElem? (i := 846) (by decide +kernel), List.mem_of_getElem? (i := 992) (by decide +kernel), List.mem_of_getElem? (i := 993) (by decide +kernel)⟩
theorem lw_p46 : lw_okq (⟨"GrammarReshaperModel", "derives", "([JI)Z"⟩, 29) := ⟨⟨by decide +kernel, by decide +kernel⟩, List.mem_of_getElem? (i := 846) (by decide +kernel), List.mem_of_getElem? (i := 996) (by decide +kernel), List.mem_of_getElem? (i := 997) (by decide +kernel)⟩
theorem lw_p47 : lw_okq (⟨"GrammarReshaperModel", "goOver", "(II)I"⟩, 29) := ⟨⟨by decide +kernel, by decide +kernel⟩, List.mem_of_getElem? (i := 846) (by decide +kernel), List.mem_of_getElem? (i := 1003) (by decide +kernel), List.mem_of_getElem? (i := 1004) (by decide +kernel)⟩
def lw_privs_3 : List (MethodName × Nat) := [(⟨"GrammarReshaper$Transformer", "firstShared", "()I"⟩, 2), (⟨"GrammarReshaper$Transformer", "factor", "(I)V"⟩, 2), (⟨"GrammarReshaper$Transformer", "firstWithNonterminal", "()J"⟩, 2), (⟨"GrammarReshaper$ShortWords", "readRight", "(J)V"⟩, 6), (⟨"GrammarReshaper$ShortWords", "readOn", "(JJJ)V"⟩, 6), (⟨"GrammarReshaper$ShortWords", "keepRead", "(I)Z"⟩, 6), (⟨"GrammarReshaper", "hashOfProductions", "(J)J"⟩, 9), (⟨"GrammarReshaper", "hashOfProperties", "(J)J"⟩, 9), (⟨"GrammarReshaperModel", "rightLength", "()I"⟩, 29), (⟨"GrammarReshaperModel", "begin", "()V"⟩, 29), (⟨"GrammarReshaperModel", "takes", "(I)Z"⟩, 29), (⟨"GrammarReshaperModel", "put", "(J)V"⟩, 29), (⟨"GrammarReshaperModel", "isWord", "()Z"⟩, 29), (⟨"GrammarReshaperModel", "takeWord", "()V"⟩, 29), (⟨"GrammarReshaperModel", "derives", "([JI)Z"⟩, 29), (⟨"GrammarReshaperModel", "goOver", "(II)I"⟩, 29)]
theorem lw_r3 : ∀ q ∈ lw_privs_3, lw_okq q := List.forall_mem_cons.mpr ⟨lw_p32, List.forall_mem_cons.mpr ⟨lw_p33, List.forall_mem_cons.mpr ⟨lw_p34, List.forall_mem_cons.mpr ⟨lw_p35, List.forall_mem_cons.mpr ⟨lw_p36, List.forall_mem_cons.mpr ⟨lw_p37, List.forall_mem_cons.mpr ⟨lw_p38, List.forall_mem_cons.mpr ⟨lw_p39, List.forall_mem_cons.mpr ⟨lw_p40, List.forall_mem_cons.mpr ⟨lw_p41, List.forall_mem_cons.mpr ⟨lw_p42, List.forall_mem_cons.mpr ⟨lw_p43, List.forall_mem_cons.mpr ⟨lw_p44, List.forall_mem_cons.mpr ⟨lw_p45, List.forall_mem_cons.mpr ⟨lw_p46, List.forall_mem_cons.mpr ⟨lw_p47, fun _ h => absurd h List.not_mem_nil⟩⟩⟩⟩⟩⟩⟩⟩⟩⟩⟩⟩⟩⟩⟩⟩
theorem lw_p48 : lw_okq (⟨"GrammarReshaperModel", "hasEmpty", "()Z"⟩, 29) := ⟨⟨by decide +kernel, by decide +kernel⟩, List.mem_of_getElem? (i := 846) (by decide +kernel), List.mem_of_getElem? (i := 1012) (by decide +kernel), List.mem_of_getElem? (i := 1013) (by decide +kernel)⟩
theorem lw_p49 : lw_okq (⟨"GrammarReshaperModel", "hasUnitCycle", "()Z"⟩, 29) := ⟨⟨by decide +kernel, by decide +kernel⟩, List.mem_of_getElem? (i := 846) (by decide +kernel), List.mem_of_getElem? (i := 1019) (by decide +kernel), List.mem_of_getElem? (i := 1020) (by decide +kernel)⟩
theorem lw_p50 : lw_okq (⟨"GrammarReshaperModel", "layUnits", "()V"⟩, 29) := ⟨⟨by decide +kernel, by decide +kernel⟩, List.mem_of_getElem? (i := 846) (by decide +kernel), List.mem_of_getElem? (i := 1023) (by decide +kernel), List.mem_of_getElem? (i := 1024) (by decide +kernel)⟩
theorem lw_p51 : lw_okq (⟨"GrammarReshaperModel", "clearLeads", "()V"⟩, 29) := ⟨⟨by decide +kernel, by decide +kernel⟩, List.mem_of_getElem? (i := 846) (by decide +kernel), List.mem_of_getElem? (i := 1027) (by decide +kernel), List.mem_of_getElem? (i := 1028) (by decide +kernel)⟩
theorem lw_p52 : lw_okq (⟨"GrammarReshaperModel", "closeLeads", "()V"⟩, 29) := ⟨⟨by decide +kernel, by decide +kernel⟩, List.mem_of_getElem? (i := 846) (by decide +kernel), List.mem_of_getElem? (i := 1034) (by decide +kernel), List.mem_of_getElem? (i := 1035) (by decide +kernel)⟩
theorem lw_p53 : lw_okq (⟨"GrammarReshaperModel", "loops", "()I"⟩, 29) := ⟨⟨by decide +kernel, by decide +kernel⟩, List.mem_of_getElem? (i := 846) (by decide +kernel), List.mem_of_getElem? (i := 1038) (by decide +kernel), List.mem_of_getElem? (i := 1039) (by decide +kernel)⟩
theorem lw_p54 : lw_okq (⟨"GrammarReshaperModel", "countStretch", "(II)V"⟩, 29) := ⟨⟨by decide +kernel, by decide +kernel⟩, List.mem_of_getElem? (i := 846) (by decide +kernel), List.mem_of_getElem? (i := 1043) (by decide +kernel), List.mem_of_getElem? (i := 1044) (by decide +kernel)⟩
theorem lw_p55 : lw_okq (⟨"GrammarReshaperModel", "waysOf", "(JII)J"⟩, 29) := ⟨⟨by decide +kernel, by decide +kernel⟩, List.mem_of_getElem? (i := 846) (by decide +kernel), List.mem_of_getElem? (i := 1047) (by decide +kernel), List.mem_of_getElem? (i := 1048) (by decide +kernel)⟩
theorem lw_p56 : lw_okq (⟨"GrammarReshaperModel", "nullables", "()I"⟩, 29) := ⟨⟨by decide +kernel, by decide +kernel⟩, List.mem_of_getElem? (i := 846) (by decide +kernel), List.mem_of_getElem? (i := 1069) (by decide +kernel), List.mem_of_getElem? (i := 1070) (by decide +kernel)⟩
theorem lw_p57 : lw_okq (⟨"GrammarReshaperModel", "closedUnder", "(Z)I"⟩, 29) := ⟨⟨by decide +kernel, by decide +kernel⟩, List.mem_of_getElem? (i := 846) (by decide +kernel), List.mem_of_getElem? (i := 1073) (by decide +kernel), List.mem_of_getElem? (i := 1074) (by decide +kernel)⟩
theorem lw_p58 : lw_okq (⟨"GrammarReshaperModel", "productives", "()I"⟩, 29) := ⟨⟨by decide +kernel, by decide +kernel⟩, List.mem_of_getElem? (i := 846) (by decide +kernel), List.mem_of_getElem? (i := 1084) (by decide +kernel), List.mem_of_getElem? (i := 1085) (by decide +kernel)⟩
theorem lw_p59 : lw_okq (⟨"GrammarReshaperModel", "recursives", "()I"⟩, 29) := ⟨⟨by decide +kernel, by decide +kernel⟩, List.mem_of_getElem? (i := 846) (by decide +kernel), List.mem_of_getElem? (i := 1099) (by decide +kernel), List.mem_of_getElem? (i := 1100) (by decide +kernel)⟩
theorem lw_p60 : lw_okq (⟨"GrammarReshaperModel", "firstNow", "(I)I"⟩, 29) := ⟨⟨by decide +kernel, by decide +kernel⟩, List.mem_of_getElem? (i := 846) (by decide +kernel), List.mem_of_getElem? (i := 1114) (by decide +kernel), List.mem_of_getElem? (i := 1115) (by decide +kernel)⟩
theorem lw_p61 : lw_okq (⟨"GrammarReshaperModel", "layFirsts", "()V"⟩, 29) := ⟨⟨by decide +kernel, by decide +kernel⟩, List.mem_of_getElem? (i := 846) (by decide +kernel), List.mem_of_getElem? (i := 1118) (by decide +kernel), List.mem_of_getElem? (i := 1119) (by decide +kernel)⟩
theorem lw_p62 : lw_okq (⟨"GrammarReshaperModel", "firstOf", "(JII)I"⟩, 29) := ⟨⟨by decide +kernel, by decide +kernel⟩, List.mem_of_getElem? (i := 846) (by decide +kernel), List.mem_of_getElem? (i := 1122) (by decide +kernel), List.mem_of_getElem? (i := 1123) (by decide +kernel)⟩
theorem lw_p63 : lw_okq (⟨"GrammarReshaperModel", "followNow", "(I)I"⟩, 29) := ⟨⟨by decide +kernel, by decide +kernel⟩, List.mem_of_getElem? (i := 846) (by decide +kernel), List.mem_of_getElem? (i := 1130) (by decide +kernel), List.mem_of_getElem? (i := 1131) (by decide +kernel)⟩
def lw_privs_4 : List (MethodName × Nat) := [(⟨"GrammarReshaperModel", "hasEmpty", "()Z"⟩, 29), (⟨"GrammarReshaperModel", "hasUnitCycle", "()Z"⟩, 29), (⟨"GrammarReshaperModel", "layUnits", "()V"⟩, 29), (⟨"GrammarReshaperModel", "clearLeads", "()V"⟩, 29), (⟨"GrammarReshaperModel", "closeLeads", "()V"⟩, 29), (⟨"GrammarReshaperModel", "loops", "()I"⟩, 29), (⟨"GrammarReshaperModel", "countStretch", "(II)V"⟩, 29), (⟨"GrammarReshaperModel", "waysOf", "(JII)J"⟩, 29), (⟨"GrammarReshaperModel", "nullables", "()I"⟩, 29), (⟨"GrammarReshaperModel", "closedUnder", "(Z)I"⟩, 29), (⟨"GrammarReshaperModel", "productives", "()I"⟩, 29), (⟨"GrammarReshaperModel", "recursives", "()I"⟩, 29), (⟨"GrammarReshaperModel", "firstNow", "(I)I"⟩, 29), (⟨"GrammarReshaperModel", "layFirsts", "()V"⟩, 29), (⟨"GrammarReshaperModel", "firstOf", "(JII)I"⟩, 29), (⟨"GrammarReshaperModel", "followNow", "(I)I"⟩, 29)]
theorem lw_r4 : ∀ q ∈ lw_privs_4, lw_okq q := List.forall_mem_cons.mpr ⟨lw_p48, List.forall_mem_cons.mpr ⟨lw_p49, List.forall_mem_cons.mpr ⟨lw_p50, List.forall_mem_cons.mpr ⟨lw_p51, List.forall_mem_cons.mpr ⟨lw_p52, List.forall_mem_cons.mpr ⟨lw_p53, List.forall_mem_cons.mpr ⟨lw_p54, List.forall_mem_cons.mpr ⟨lw_p55, List.forall_mem_cons.mpr ⟨lw_p56, List.forall_mem_cons.mpr ⟨lw_p57, List.forall_mem_cons.mpr ⟨lw_p58, List.forall_mem_cons.mpr ⟨lw_p59, List.forall_mem_cons.mpr ⟨lw_p60, List.forall_mem_cons.mpr ⟨lw_p61, List.forall_mem_cons.mpr ⟨lw_p62, List.forall_mem_cons.mpr ⟨lw_p63, fun _ h => absurd h List.not_mem_nil⟩⟩⟩⟩⟩⟩⟩⟩⟩⟩⟩⟩⟩⟩⟩⟩
theorem lw_p64 : lw_okq (⟨"GrammarReshaperModel", "layFollows", "()V"⟩, 29) := ⟨⟨by decide +kernel, by decide +kernel⟩, List.mem_of_getElem? (i := 846) (by decide +kernel), List.mem_of_getElem? (i := 1134) (by decide +kernel), List.mem_of_getElem? (i := 1135) (by decide +kernel)⟩
theorem lw_p65 : lw_okq (⟨"GrammarReshaperModel", "isPredictive", "()Z"⟩, 29) := ⟨⟨by decide +kernel, by decide +kernel⟩, List.mem_of_getElem? (i := 846) (by decide +kernel), List.mem_of_getElem? (i := 1142) (by decide +kernel), List.mem_of_getElem? (i := 1143) (by decide +kernel)⟩
theorem lw_p66 : lw_okq (⟨"GrammarReshaperModel", "isInChomsky", "()Z"⟩, 29) := ⟨⟨by decide +kernel, by decide +kernel⟩, List.mem_of_getElem? (i := 846) (by decide +kernel), List.mem_of_getElem? (i := 1150) (by decide +kernel), List.mem_of_getElem? (i := 1151) (by decide +kernel)⟩
theorem lw_p67 : lw_okq (⟨"GrammarReshaperModel", "isInGreibach", "()Z"⟩, 29) := ⟨⟨by decide +kernel, by decide +kernel⟩, List.mem_of_getElem? (i := 846) (by decide +kernel), List.mem_of_getElem? (i := 1158) (by decide +kernel), List.mem_of_getElem? (i := 1159) (by decide +kernel)⟩
theorem lw_p68 : lw_okq (⟨"GrammarReshaperModel", "start", "()V"⟩, 29) := ⟨⟨by decide +kernel, by decide +kernel⟩, List.mem_of_getElem? (i := 846) (by decide +kernel), List.mem_of_getElem? (i := 1166) (by decide +kernel), List.mem_of_getElem? (i := 1167) (by decide +kernel)⟩
theorem lw_p69 : lw_okq (⟨"GrammarReshaperModel", "step", "()V"⟩, 29) := ⟨⟨by decide +kernel, by decide +kernel⟩, List.mem_of_getElem? (i := 846) (by decide +kernel), List.mem_of_getElem? (i := 1170) (by decide +kernel), List.mem_of_getElem? (i := 1171) (by decide +kernel)⟩
theorem lw_p70 : lw_okq (⟨"GrammarReshaperModel", "finish", "()I"⟩, 29) := ⟨⟨by decide +kernel, by decide +kernel⟩, List.mem_of_getElem? (i := 846) (by decide +kernel), List.mem_of_getElem? (i := 1174) (by decide +kernel), List.mem_of_getElem? (i := 1175) (by decide +kernel)⟩
theorem lw_p71 : lw_okq (⟨"GrammarReshaperModel", "putWithout", "(JII)V"⟩, 29) := ⟨⟨by decide +kernel, by decide +kernel⟩, List.mem_of_getElem? (i := 846) (by decide +kernel), List.mem_of_getElem? (i := 1182) (by decide +kernel), List.mem_of_getElem? (i := 1183) (by decide +kernel)⟩
theorem lw_p72 : lw_okq (⟨"GrammarReshaperModel", "putRow", "(I)V"⟩, 29) := ⟨⟨by decide +kernel, by decide +kernel⟩, List.mem_of_getElem? (i := 846) (by decide +kernel), List.mem_of_getElem? (i := 1186) (by decide +kernel), List.mem_of_getElem? (i := 1187) (by decide +kernel)⟩
theorem lw_p73 : lw_okq (⟨"GrammarReshaperModel", "addRow", "(JII)V"⟩, 29) := ⟨⟨by decide +kernel, by decide +kernel⟩, List.mem_of_getElem? (i := 846) (by decide +kernel), List.mem_of_getElem? (i := 1194) (by decide +kernel), List.mem_of_getElem? (i := 1195) (by decide +kernel)⟩
theorem lw_p74 : lw_okq (⟨"GrammarReshaperModel", "hasUnit", "()Z"⟩, 29) := ⟨⟨by decide +kernel, by decide +kernel⟩, List.mem_of_getElem? (i := 846) (by decide +kernel), List.mem_of_getElem? (i := 1202) (by decide +kernel), List.mem_of_getElem? (i := 1203) (by decide +kernel)⟩
theorem lw_p75 : lw_okq (⟨"GrammarReshaperModel", "veilAll", "(Z)V"⟩, 29) := ⟨⟨by decide +kernel, by decide +kernel⟩, List.mem_of_getElem? (i := 846) (by decide +kernel), List.mem_of_getElem? (i := 1206) (by decide +kernel), List.mem_of_getElem? (i := 1207) (by decide +kernel)⟩
theorem lw_p76 : lw_okq (⟨"GrammarReshaperModel", "veil", "(IZ)V"⟩, 29) := ⟨⟨by decide +kernel, by decide +kernel⟩, List.mem_of_getElem? (i := 846) (by decide +kernel), List.mem_of_getElem? (i := 1210) (by decide +kernel), List.mem_of_getElem? (i := 1211) (by decide +kernel)⟩
theorem lw_p77 : lw_okq (⟨"GrammarReshaperModel", "freeOne", "()I"⟩, 29) := ⟨⟨by decide +kernel, by decide +kernel⟩, List.mem_of_getElem? (i := 846) (by decide +kernel), List.mem_of_getElem? (i := 1217) (by decide +kernel), List.mem_of_getElem? (i := 1218) (by decide +kernel)⟩
theorem lw_p78 : lw_okq (⟨"GrammarReshaperModel", "cut", "()Z"⟩, 29) := ⟨⟨by decide +kernel, by decide +kernel⟩, List.mem_of_getElem? (i := 846) (by decide +kernel), List.mem_of_getElem? (i := 1221) (by decide +kernel), List.mem_of_getElem? (i := 1222) (by decide +kernel)⟩
theorem lw_p79 : lw_okq (⟨"GrammarReshaperModel", "unwindAll", "()V"⟩, 29) := ⟨⟨by decide +kernel, by decide +kernel⟩, List.mem_of_getElem? (i := 846) (by decide +kernel), List.mem_of_getElem? (i := 1229) (by decide +kernel), List.mem_of_getElem? (i := 1230) (by decide +kernel)⟩
def lw_privs_5 : List (MethodName × Nat) := [(⟨"GrammarReshaperModel", "layFollows", "()V"⟩, 29), (⟨"GrammarReshaperModel", "isPredictive", "()Z"⟩, 29), (⟨"GrammarReshaperModel", "isInChomsky", "()Z"⟩, 29), (⟨"GrammarReshaperModel", "isInGreibach", "()Z"⟩, 29), (⟨"GrammarReshaperModel", "start", "()V"⟩, 29), (⟨"GrammarReshaperModel", "step", "()V"⟩, 29), (⟨"GrammarReshaperModel", "finish", "()I"⟩, 29), (⟨"GrammarReshaperModel", "putWithout", "(JII)V"⟩, 29), (⟨"GrammarReshaperModel", "putRow", "(I)V"⟩, 29), (⟨"GrammarReshaperModel", "addRow", "(JII)V"⟩, 29), (⟨"GrammarReshaperModel", "hasUnit", "()Z"⟩, 29), (⟨"GrammarReshaperModel", "veilAll", "(Z)V"⟩, 29), (⟨"GrammarReshaperModel", "veil", "(IZ)V"⟩, 29), (⟨"GrammarReshaperModel", "freeOne", "()I"⟩, 29), (⟨"GrammarReshaperModel", "cut", "()Z"⟩, 29), (⟨"GrammarReshaperModel", "unwindAll", "()V"⟩, 29)]
theorem lw_r5 : ∀ q ∈ lw_privs_5, lw_okq q := List.forall_mem_cons.mpr ⟨lw_p64, List.forall_mem_cons.mpr ⟨lw_p65, List.forall_mem_cons.mpr ⟨lw_p66, List.forall_mem_cons.mpr ⟨lw_p67, List.forall_mem_cons.mpr ⟨lw_p68, List.forall_mem_cons.mpr ⟨lw_p69, List.forall_mem_cons.mpr ⟨lw_p70, List.forall_mem_cons.mpr ⟨lw_p71, List.forall_mem_cons.mpr ⟨lw_p72, List.forall_mem_cons.mpr ⟨lw_p73, List.forall_mem_cons.mpr ⟨lw_p74, List.forall_mem_cons.mpr ⟨lw_p75, List.forall_mem_cons.mpr ⟨lw_p76, List.forall_mem_cons.mpr ⟨lw_p77, List.forall_mem_cons.mpr ⟨lw_p78, List.forall_mem_cons.mpr ⟨lw_p79, fun _ h => absurd h List.not_mem_nil⟩⟩⟩⟩⟩⟩⟩⟩⟩⟩⟩⟩⟩⟩⟩⟩
theorem lw_p80 : lw_okq (⟨"GrammarReshaperModel", "tell", "(II)V"⟩, 29) := ⟨⟨by decide +kernel, by decide +kernel⟩, List.mem_of_getElem? (i := 846) (by decide +kernel), List.mem_of_getElem? (i := 1233) (by decide +kernel), List.mem_of_getElem? (i := 1234) (by decide +kernel)⟩
theorem lw_p81 : lw_okq (⟨"GrammarReshaperModel", "putTold", "(JI)V"⟩, 29) := ⟨⟨by decide +kernel, by decide +kernel⟩, List.mem_of_getElem? (i := 846) (by decide +kernel), List.mem_of_getElem? (i := 1237) (by decide +kernel), List.mem_of_getElem? (i := 1238) (by decide +kernel)⟩
theorem lw_p82 : lw_okq (⟨"GrammarReshaperModel", "unwind", "(I)V"⟩, 29) := ⟨⟨by decide +kernel, by decide +kernel⟩, List.mem_of_getElem? (i := 846) (by decide +kernel), List.mem_of_getElem? (i := 1241) (by decide +kernel), List.mem_of_getElem? (i := 1242) (by decide +kernel)⟩
theorem lw_p83 : lw_okq (⟨"GrammarReshaperModel", "beginsWithItself", "(J)Z"⟩, 29) := ⟨⟨by decide +kernel, by decide +kernel⟩, List.mem_of_getElem? (i := 846) (by decide +kernel), List.mem_of_getElem? (i := 1245) (by decide +kernel), List.mem_of_getElem? (i := 1246) (by decide +kernel)⟩
theorem lw_p84 : lw_okq (⟨"GrammarReshaperModel", "putTail", "(JI)V"⟩, 29) := ⟨⟨by decide +kernel, by decide +kernel⟩, List.mem_of_getElem? (i := 846) (by decide +kernel), List.mem_of_getElem? (i := 1249) (by decide +kernel), List.mem_of_getElem? (i := 1250) (by decide +kernel)⟩
theorem lw_p85 : lw_okq (⟨"GrammarReshaperModel", "factor", "()Z"⟩, 29) := ⟨⟨by decide +kernel, by decide +kernel⟩, List.mem_of_getElem? (i := 846) (by decide +kernel), List.mem_of_getElem? (i := 1257) (by decide +kernel), List.mem_of_getElem? (i := 1258) (by decide +kernel)⟩
theorem lw_p86 : lw_okq (⟨"GrammarReshaperModel", "tellFirst", "()Z"⟩, 29) := ⟨⟨by decide +kernel, by decide +kernel⟩, List.mem_of_getElem? (i := 846) (by decide +kernel), List.mem_of_getElem? (i := 1265) (by decide +kernel), List.mem_of_getElem? (i := 1266) (by decide +kernel)⟩
theorem lw_p87 : lw_okq (⟨"GrammarReshaperModel", "countNow", "(IZ)I"⟩, 29) := ⟨⟨by decide +kernel, by decide +kernel⟩, List.mem_of_getElem? (i := 846) (by decide +kernel), List.mem_of_getElem? (i := 1281) (by decide +kernel), List.mem_of_getElem? (i := 1282) (by decide +kernel)⟩
theorem lw_p88 : lw_okq (⟨"GrammarReshaperModel", "layWord", "(II)I"⟩, 29) := ⟨⟨by decide +kernel, by decide +kernel⟩, List.mem_of_getElem? (i := 846) (by decide +kernel), List.mem_of_getElem? (i := 1288) (by decide +kernel), List.mem_of_getElem? (i := 1289) (by decide +kernel)⟩
theorem lw_p89 : lw_okq (⟨"GrammarReshaperModel", "mix", "(J)V"⟩, 29) := ⟨⟨by decide +kernel, by decide +kernel⟩, List.mem_of_getElem? (i := 846) (by decide +kernel), List.mem_of_getElem? (i := 1301) (by decide +kernel), List.mem_of_getElem? (i := 1302) (by decide +kernel)⟩
def lw_privs_6 : List (MethodName × Nat) := [(⟨"GrammarReshaperModel", "tell", "(II)V"⟩, 29), (⟨"GrammarReshaperModel", "putTold", "(JI)V"⟩, 29), (⟨"GrammarReshaperModel", "unwind", "(I)V"⟩, 29), (⟨"GrammarReshaperModel", "beginsWithItself", "(J)Z"⟩, 29), (⟨"GrammarReshaperModel", "putTail", "(JI)V"⟩, 29), (⟨"GrammarReshaperModel", "factor", "()Z"⟩, 29), (⟨"GrammarReshaperModel", "tellFirst", "()Z"⟩, 29), (⟨"GrammarReshaperModel", "countNow", "(IZ)I"⟩, 29), (⟨"GrammarReshaperModel", "layWord", "(II)I"⟩, 29), (⟨"GrammarReshaperModel", "mix", "(J)V"⟩, 29)]
theorem lw_r6 : ∀ q ∈ lw_privs_6, lw_okq q := List.forall_mem_cons.mpr ⟨lw_p80, List.forall_mem_cons.mpr ⟨lw_p81, List.forall_mem_cons.mpr ⟨lw_p82, List.forall_mem_cons.mpr ⟨lw_p83, List.forall_mem_cons.mpr ⟨lw_p84, List.forall_mem_cons.mpr ⟨lw_p85, List.forall_mem_cons.mpr ⟨lw_p86, List.forall_mem_cons.mpr ⟨lw_p87, List.forall_mem_cons.mpr ⟨lw_p88, List.forall_mem_cons.mpr ⟨lw_p89, fun _ h => absurd h List.not_mem_nil⟩⟩⟩⟩⟩⟩⟩⟩⟩⟩
def lw_privs : List (MethodName × Nat) := lw_privs_1 ++ (lw_privs_2 ++ (lw_privs_3 ++ (lw_privs_4 ++ (lw_privs_5 ++ (lw_privs_6)))))
def lw_tbl : List Cond := k2_sels lw_privs ++ tables_1
theorem lw_privs_ok : ∀ q ∈ lw_privs, lw_okq q := by
  show ∀ q ∈ lw_privs_1 ++ (lw_privs_2 ++ (lw_privs_3 ++ (lw_privs_4 ++ (lw_privs_5 ++ (lw_privs_6))))), lw_okq q
  exact List.forall_mem_append.mpr ⟨lw_r1, List.forall_mem_append.mpr ⟨lw_r2, List.forall_mem_append.mpr ⟨lw_r3, List.forall_mem_append.mpr ⟨lw_r4, List.forall_mem_append.mpr ⟨lw_r5, lw_r6⟩⟩⟩⟩⟩
-- ===== end of PART A; then your names; then what follows =====
end
section
/-! THE PURE MACHINE: a small interpreter over two memories (ints and longs, by cell and place) for a program given as rows; below it the theorem that the real machine does what it does. -/
abbrev si_M : Type := (Nat → Nat → Int32) × (Nat → Nat → Int64)
/-- a cell: an object (class number, codes of its fields: 0 int, 1 long, 2 boolean, t + 3 the cell t), or an array (longs or ints, its length) -/
abbrev si_kd : Type := (Nat × List Nat) ⊕ (Bool × Nat)
/-- pc, instruction, length, numbers, an int, a long, dead locals -/
abbrev si_row : Type := Nat × Instr × Nat × List Nat × Int32 × Int64 × List Nat
/-- name, bytes, locals, answer, room for frames, room for words, rows -/
abbrev si_mi : Type := MethodName × ByteArray × Nat × Option FieldType × Nat × Nat × List si_row
abbrev si_O : Type := Option Value × si_M
/-- what an instruction does: it answers; it goes on (one way or the other); it calls -/
abbrev si_D : Type := si_O ⊕ (Bool × Nat × Nat × List Value × List Value × si_M) ⊕ (Nat × List Value × Nat × Nat × List Value × List Value × si_M)
def si_sI (σ : si_M) (k j : Nat) (v : Int32) : si_M := (fun a b => if a = k then (if b = j then v else σ.1 a b) else σ.1 a b, σ.2)
def si_sJ (σ : si_M) (k j : Nat) (v : Int64) : si_M := (σ.1, fun a b => if a = k then (if b = j then v else σ.2 a b) else σ.2 a b)
/-- a whole row of longs is written -/
def si_sA (σ : si_M) (k : Nat) (f : Nat → Int64) : si_M := (σ.1, fun a b => if a = k then f b else σ.2 a b)
abbrev si_U : Value := .retAddr 0
def si_in (i : Int32) (n : Nat) : Bool := decide (0 ≤ i) && decide (i.toNatClampNeg < n)
def si_ishl (x y : Int32) : Int32 := x <<< (y &&& 31)
def si_ishr (x y : Int32) : Int32 := x >>> (y &&& 31)
def si_iushr (x y : Int32) : Int32 := (x.toUInt32 >>> (y.toUInt32 &&& Int32.toUInt32 31)).toInt32
def si_lshl (x : Int64) (y : Int32) : Int64 := x <<< (y.toInt64 &&& 63)
def si_lshr (x : Int64) (y : Int32) : Int64 := x >>> (y.toInt64 &&& 63)
def si_lushr (x : Int64) (y : Int32) : Int64 := (x.toUInt64 >>> (y.toInt64.toUInt64 &&& Int64.toUInt64 63)).toInt64
def si_irem (x y : Int32) : Int32 := x - x / y * y
def si_clr (L : List Value) : List Nat → List Value
  | [] => L
  | i :: is => si_clr (L.set i si_U) is
/-- a store at i takes a long at i - 1 away -/
def si_off (L : List Value) (i : Nat) : List Value := match i with
  | 0 => L
  | j + 1 => match L[j]? with
    | some (.long _) => L.set j si_U
    | some (.double _) => L.set j si_U
    | _ => L
def si_put1 (L : List Value) (i : Nat) (v : Value) : List Value := (si_off L i).set i v
def si_put2 (L : List Value) (i : Nat) (v : Value) : List Value := ((si_off L i).set i v).set (i + 1) si_U
def si_lay : List Value → List Value
  | [] => []
  | .long x :: vs => .long x :: si_U :: si_lay vs
  | .double x :: vs => .double x :: si_U :: si_lay vs
  | v :: vs => v :: si_lay vs
def si_ent (n : Nat) (as : List Value) : List Value := si_lay as ++ List.replicate (n - (si_lay as).length) si_U
def si_pv (σ : si_M) (k j : Nat) (c : Nat) : Value := match c with
  | 0 => .int (σ.1 k j)
  | 1 => .long (σ.2 k j)
  | 2 => .int (σ.1 k j)
  | t + 3 => .ref t
def si_j (p : Nat) (L st : List Value) (σ : si_M) : Option si_D := some (.inr (.inl (true, p, 0, L, st, σ)))
def si_br (c : Bool) (p q : Nat) (L st : List Value) (σ : si_M) : Option si_D := some (.inr (.inl (c, p, q, L, st, σ)))
/-- a test that must hold: else there is no way on -/
def si_if (c : Bool) (p : Nat) (L st : List Value) (σ : si_M) : Option si_D := some (.inr (.inl (c, p, 65535, L, st, σ)))
def si_ldI (nx i : Nat) (L st : List Value) (σ : si_M) : Option si_D := match L[i]? with
  | some (.int x) => si_j nx L (.int x :: st) σ
  | _ => none
def si_ldL (nx i : Nat) (L st : List Value) (σ : si_M) : Option si_D := match L[i]? with
  | some (.long x) => si_j nx L (.long x :: st) σ
  | _ => none
def si_ldA (nx i : Nat) (L st : List Value) (σ : si_M) : Option si_D := match L[i]? with
  | some (.ref x) => si_j nx L (.ref x :: st) σ
  | _ => none
def si_stI (nx i : Nat) (L st : List Value) (σ : si_M) : Option si_D := match st with
  | .int x :: r => if i < L.length then si_j nx (si_put1 L i (.int x)) r σ else none
  | _ => none
def si_stA (nx i : Nat) (L st : List Value) (σ : si_M) : Option si_D := match st with
  | .ref x :: r => if i < L.length then si_j nx (si_put1 L i (.ref x)) r σ else none
  | _ => none
def si_stL (nx i : Nat) (L st : List Value) (σ : si_M) : Option si_D := match st with
  | .long x :: r => if i + 1 < L.length then si_j nx (si_put2 L i (.long x)) r σ else none
  | _ => none
def si_i2 (f : Int32 → Int32 → Int32) (nx : Nat) (L st : List Value) (σ : si_M) : Option si_D := match st with
  | .int y :: .int x :: r => si_j nx L (.int (f x y) :: r) σ
  | _ => none
def si_l2 (f : Int64 → Int64 → Int64) (nx : Nat) (L st : List Value) (σ : si_M) : Option si_D := match st with
  | .long y :: .long x :: r => si_j nx L (.long (f x y) :: r) σ
  | _ => none
def si_ls (f : Int64 → Int32 → Int64) (nx : Nat) (L st : List Value) (σ : si_M) : Option si_D := match st with
  | .int y :: .long x :: r => si_j nx L (.long (f x y) :: r) σ
  | _ => none
def si_i1 (f : Int32 → Bool) (nx : Nat) (xs : List Nat) (L st : List Value) (σ : si_M) : Option si_D := match st, xs with
  | .int x :: r, [t] => si_br (f x) t nx L r σ
  | _, _ => none
def si_ic (f : Int32 → Int32 → Bool) (nx : Nat) (xs : List Nat) (L st : List Value) (σ : si_M) : Option si_D := match st, xs with
  | .int y :: .int x :: r, [t] => si_br (f x y) t nx L r σ
  | _, _ => none
def si_cat (st : List Value) : Nat := (st.map fun v => v.category).sum
/-- an instruction -/
def si_ins (ret : Option FieldType) (sh : List si_kd) (nx : Nat) (i : Instr) (xs : List Nat) (ci : Int32) (cl : Int64) (L st : List Value) (σ : si_M) : Option si_D := match i with
  | .iconst _ => si_j nx L (.int ci :: st) σ
  | .bipush _ => si_j nx L (.int ci :: st) σ
  | .sipush _ => si_j nx L (.int ci :: st) σ
  | .ldc _ => si_j nx L (.int ci :: st) σ
  | .ldc_w _ => si_j nx L (.int ci :: st) σ
  | .lconst _ => si_j nx L (.long cl :: st) σ
  | .ldc2_w _ => si_j nx L (.long cl :: st) σ
  | .iload_n k => si_ldI nx k L st σ
  | .iload k => si_ldI nx k L st σ
  | .lload_n k => si_ldL nx k L st σ
  | .lload k => si_ldL nx k L st σ
  | .aload_n k => si_ldA nx k L st σ
  | .aload k => si_ldA nx k L st σ
  | .istore_n k => si_stI nx k L st σ
  | .istore k => si_stI nx k L st σ
  | .lstore_n k => si_stL nx k L st σ
  | .lstore k => si_stL nx k L st σ
  | .astore_n k => si_stA nx k L st σ
  | .astore k => si_stA nx k L st σ
  | .iinc k _ => match L[k]? with
    | some (.int x) => si_j nx (si_put1 L k (.int (x + ci))) st σ
    | _ => none
  | .iadd => si_i2 (fun x y => x + y) nx L st σ
  | .isub => si_i2 (fun x y => x - y) nx L st σ
  | .imul => si_i2 (fun x y => x * y) nx L st σ
  | .iand => si_i2 (fun x y => x &&& y) nx L st σ
  | .ior => si_i2 (fun x y => x ||| y) nx L st σ
  | .ixor => si_i2 (fun x y => x ^^^ y) nx L st σ
  | .ishl => si_i2 si_ishl nx L st σ
  | .ishr => si_i2 si_ishr nx L st σ
  | .iushr => si_i2 si_iushr nx L st σ
  | .idiv => match st with
    | .int y :: .int x :: r => si_if (!decide (y = 0)) nx L (.int (x / y) :: r) σ
    | _ => none
  | .irem => match st with
    | .int y :: .int x :: r => si_if (!decide (y = 0)) nx L (.int (si_irem x y) :: r) σ
    | _ => none
  | .ladd => si_l2 (fun x y => x + y) nx L st σ
  | .lsub => si_l2 (fun x y => x - y) nx L st σ
  | .lmul => si_l2 (fun x y => x * y) nx L st σ
  | .land => si_l2 (fun x y => x &&& y) nx L st σ
  | .lor => si_l2 (fun x y => x ||| y) nx L st σ
  | .lxor => si_l2 (fun x y => x ^^^ y) nx L st σ
  | .lshl => si_ls si_lshl nx L st σ
  | .lshr => si_ls si_lshr nx L st σ
  | .lushr => si_ls si_lushr nx L st σ
  | .lcmp => match st with
    | .long y :: .long x :: r => si_j nx L (.int (lg_cmp x y) :: r) σ
    | _ => none
  | .i2l => match st with
    | .int x :: r => si_j nx L (.long x.toInt64 :: r) σ
    | _ => none
  | .l2i => match st with
    | .long x :: r => si_j nx L (.int x.toInt32 :: r) σ
    | _ => none
  | .dup => match st with
    | .int x :: r => si_j nx L (.int x :: .int x :: r) σ
    | .ref x :: r => si_j nx L (.ref x :: .ref x :: r) σ
    | _ => none
  | .dup2 => match st with
    | .long x :: r => si_j nx L (.long x :: .long x :: r) σ
    | .int x :: .ref y :: r => si_j nx L (.int x :: .ref y :: .int x :: .ref y :: r) σ
    | _ => none
  | .pop => match st with
    | .int _ :: r => si_j nx L r σ
    | _ => none
  | .goto _ => match xs with
    | [t] => si_j t L st σ
    | _ => none
  | .ifCond .eq _ => si_i1 (fun x => decide (x = 0)) nx xs L st σ
  | .ifCond .ne _ => si_i1 (fun x => !decide (x = 0)) nx xs L st σ
  | .ifCond .lt _ => si_i1 (fun x => decide (x < 0)) nx xs L st σ
  | .ifCond .ge _ => si_i1 (fun x => decide (0 ≤ x)) nx xs L st σ
  | .ifCond .gt _ => si_i1 (fun x => decide (0 < x)) nx xs L st σ
  | .ifCond .le _ => si_i1 (fun x => decide (x ≤ 0)) nx xs L st σ
  | .if_icmp .eq _ => si_ic (fun x y => decide (x = y)) nx xs L st σ
  | .if_icmp .ne _ => si_ic (fun x y => !decide (x = y)) nx xs L st σ
  | .if_icmp .lt _ => si_ic (fun x y => decide (x < y)) nx xs L st σ
  | .if_icmp .ge _ => si_ic (fun x y => decide (y ≤ x)) nx xs L st σ
  | .if_icmp .gt _ => si_ic (fun x y => decide (y < x)) nx xs L st σ
  | .if_icmp .le _ => si_ic (fun x y => decide (x ≤ y)) nx xs L st σ
  | .getfield _ => match st, xs with
    | .ref k :: r, [ct, j, _] => match sh[k]? with
      | some (.inl (ct', cs)) => match Nat.beq ct' ct, cs[j]? with
        | true, some c => si_j nx L (si_pv σ k j c :: r) σ
        | _, _ => none
      | _ => none
    | _, _ => none
  | .putfield _ => match st, xs with
    | .int v :: .ref k :: r, [ct, j, _] => match sh[k]? with
      | some (.inl (ct', cs)) => match Nat.beq ct' ct, cs[j]? with
        | true, some 0 => si_j nx L r (si_sI σ k j v)
        | true, some 2 => si_if (decide (v = 0) || decide (v = 1)) nx L r (si_sI σ k j v)
        | _, _ => none
      | _ => none
    | .long v :: .ref k :: r, [ct, j, _] => match sh[k]? with
      | some (.inl (ct', cs)) => match Nat.beq ct' ct, cs[j]? with
        | true, some 1 => si_j nx L r (si_sJ σ k j v)
        | _, _ => none
      | _ => none
    | _, _ => none
  | .iaload => match st with
    | .int i :: .ref k :: r => match sh[k]? with
      | some (.inr (false, n)) => si_if (si_in i n) nx L (.int (σ.1 k i.toNatClampNeg) :: r) σ
      | _ => none
    | _ => none
  | .laload => match st with
    | .int i :: .ref k :: r => match sh[k]? with
      | some (.inr (true, n)) => si_if (si_in i n) nx L (.long (σ.2 k i.toNatClampNeg) :: r) σ
      | _ => none
    | _ => none
  | .iastore => match st with
    | .int v :: .int i :: .ref k :: r => match sh[k]? with
      | some (.inr (false, n)) => si_if (si_in i n) nx L r (si_sI σ k i.toNatClampNeg v)
      | _ => none
    | _ => none
  | .lastore => match st with
    | .long v :: .int i :: .ref k :: r => match sh[k]? with
      | some (.inr (true, n)) => si_if (si_in i n) nx L r (si_sJ σ k i.toNatClampNeg v)
      | _ => none
    | _ => none
  | .arraylength => match st with
    | .ref k :: r => match sh[k]? with
      | some (.inr (_, n)) => si_j nx L (.int (nI n) :: r) σ
      | _ => none
    | _ => none
  | .ireturn => match st, ret with
    | [.int v], some .int => some (.inl (some (.int v), σ))
    | [.int v], some .boolean => some (.inl (some (.int (v &&& 1)), σ))
    | _, _ => none
  | .lreturn => match st, ret with
    | [.long v], some .long => some (.inl (some (.long v), σ))
    | _, _ => none
  | .return_ => match st, ret with
    | [], none => some (.inl (none, σ))
    | _, _ => none
  | .invokestatic _ => match xs with
    | [_, _, _, _] => match st with
      | .int n :: .int dp :: .ref k1 :: .int sp :: .ref k0 :: r => match sh[k0]?, sh[k1]? with
        | some (.inr (true, n0)), some (.inr (true, n1)) => si_if (decide (0 ≤ sp) && decide (0 ≤ dp) && decide (0 ≤ n) && decide (sp.toNatClampNeg + n.toNatClampNeg ≤ n0) && decide (dp.toNatClampNeg + n.toNatClampNeg ≤ n1) && Nat.ble (si_cat r) 8) nx L r (si_sA σ k1 (va_cpy (σ.2 k0) (σ.2 k1) sp.toNatClampNeg dp.toNatClampNeg n.toNatClampNeg))
        | _, _ => none
      | _ => none
    | c :: na :: rc :: _ => match Nat.ble na st.length && Nat.ble (si_cat (st.drop na)) 8 with
      | true => some (.inr (.inr (c, (st.take na).reverse, rc, nx, L, st.drop na, σ)))
      | false => none
    | _ => none
  | .invokevirtual _ => match xs with
    | c :: na :: rc :: ct :: _ => match st[na]? with
      | some (.ref k) => match sh[k]? with
        | some (.inl (ct', _)) => match Nat.beq ct' ct && Nat.ble (si_cat (st.drop (na + 1))) 8 with
          | true => some (.inr (.inr (c, .ref k :: (st.take na).reverse, rc, nx, L, st.drop (na + 1), σ)))
          | false => none
        | _ => none
      | _ => none
    | _ => none
  | _ => none
def si_ret (rc : Nat) (x : Option si_O) (k : List Value → si_M → Option si_O) (r : List Value) : Option si_O := match rc with
  | 0 => match x with
    | some (none, τ) => k r τ
    | _ => none
  | 1 => match x with
    | some (some (.int v), τ) => k (.int v :: r) τ
    | _ => none
  | 2 => match x with
    | some (some (.long v), τ) => k (.long v :: r) τ
    | _ => none
  | _ => none
def si_drv (call : Nat → List Value → si_M → Option si_O) (k : Nat → List Value → List Value → si_M → Option si_O) : Option si_D → Option si_O
  | none => none
  | some (.inl r) => some r
  | some (.inr (.inl (c, a, b, L, st, σ))) => cond c (k a L st σ) (k b L st σ)
  | some (.inr (.inr (m, as, rc, p, L, r, σ))) => si_ret rc (call m as σ) (fun st τ => k p L st τ) r
def si_get : List si_row → Nat → Option si_row
  | [], _ => none
  | r :: rs, pc => match Nat.beq r.1 pc with
    | true => some r
    | false => si_get rs pc
def si_pre (ret : Option FieldType) (sh : List si_kd) (rows : List si_row) (pc : Nat) (L st : List Value) (σ : si_M) : Option si_D := match si_get rows pc with
  | none => none
  | some (p, i, len, xs, ci, cl, dead) => si_ins ret sh (p + len) i xs ci cl (si_clr L dead) st σ
abbrev si_P : Type := List si_mi × List si_kd
def si_run (P : si_P) : Nat → Nat → Nat → List Value → List Value → si_M → Option si_O
  | 0, _, _, _, _, _ => none
  | n + 1, m, pc, L, st, σ => match P.1[m]? with
    | none => none
    | some (_, _, _, ret, _, _, rows) => si_drv (fun c as τ => match P.1[c]? with
        | none => none
        | some (_, _, mL, _) => match Nat.ble (si_lay as).length mL with
          | true => si_run P n c 0 (si_ent mL as) [] τ
          | false => none) (fun p L st τ => si_run P n m p L st τ) (si_pre ret P.2 rows pc L st σ)
end
section
/-! HOW THE PURE MACHINE'S THINGS STAND IN THE REAL ONE'S -/
def si_v (sz : Nat) : Value → Value
  | .ref k => .ref (sz + k)
  | v => v
def si_ce (dA : Bool → ClassId) (sz : Nat) (σ : si_M) (k : Nat) : si_kd → va_E
  | .inl (ct, cs) => .inr (ct, (List.range cs.length).map fun j => si_v sz (si_pv σ k j (cs.getD j 0)))
  | .inr (false, n) => .inl (dA false, n, .inl (σ.1 k))
  | .inr (true, n) => .inl (dA true, n, .inr (.inl (σ.2 k)))
def si_W (dA : Bool → ClassId) (sz : Nat) (sh : List si_kd) (σ : si_M) : va_W := (List.range sh.length).map fun k => (sz + k, si_ce dA sz σ k (sh.getD k (.inl (0, []))))
theorem si_W_at {dA : Bool → ClassId} {sz : Nat} {sh : List si_kd} {σ : si_M} {k : Nat} {d : si_kd} (h : sh[k]? = some d) : (si_W dA sz sh σ)[k]? = some (sz + k, si_ce dA sz σ k d) := by
  have hk : k < sh.length := (List.getElem?_eq_some_iff.mp h).1
  unfold si_W
  rw [List.getElem?_map, List.getElem?_range hk]
  simp [List.getD, h]
theorem si_W_of {dA : Bool → ClassId} {sz : Nat} {sh : List si_kd} {σ : si_M} {k : Nat} {q : Nat × va_E} (h : (si_W dA sz sh σ)[k]? = some q) : k < sh.length ∧ q.1 = sz + k := by
  unfold si_W at h
  rw [List.getElem?_map] at h
  by_cases hk : k < sh.length
  · rw [List.getElem?_range hk] at h
    simp at h
    exact ⟨hk, by rw [← h]⟩
  · rw [List.getElem?_eq_none (by simpa using hk)] at h
    cases h
theorem si_W_D (dA : Bool → ClassId) (sz : Nat) (sh : List si_kd) (σ : si_M) : va_D (fun q => sz ≤ q) (si_W dA sz sh σ) := by
  refine ⟨fun i j p q hp hq hpq => ?_, fun k q hq => ?_⟩
  · have h1 := (si_W_of hp).2
    have h2 := (si_W_of hq).2
    omega
  · rw [(si_W_of hq).2]; omega
theorem si_W_set {dA : Bool → ClassId} {sz : Nat} {sh : List si_kd} {σ τ : si_M} {k : Nat} {d : si_kd} {x : va_E} (h : sh[k]? = some d) (hx : si_ce dA sz τ k d = x) (ho : ∀ j d', j ≠ k → si_ce dA sz τ j d' = si_ce dA sz σ j d') : (si_W dA sz sh σ).set k (sz + k, x) = si_W dA sz sh τ := by
  have hk : k < sh.length := (List.getElem?_eq_some_iff.mp h).1
  apply List.ext_getElem?
  intro j
  rw [List.getElem?_set]
  by_cases hj : k = j
  · subst hj
    rw [si_W_at (σ := τ) h, hx]
    simp [si_W, hk]
  · simp only [hj, if_false]
    unfold si_W
    rw [List.getElem?_map, List.getElem?_map]
    by_cases hl : j < sh.length
    · rw [List.getElem?_range hl]
      simp [ho j _ (fun e => hj e.symm)]
    · rw [List.getElem?_eq_none (by simpa using hl)]
      rfl
theorem si_pv_ne {σ τ : si_M} {k : Nat} (h1 : τ.1 k = σ.1 k) (h2 : τ.2 k = σ.2 k) (j c : Nat) : si_pv τ k j c = si_pv σ k j c := by
  unfold si_pv
  rw [h1, h2]
theorem si_ce_ne {dA : Bool → ClassId} {sz : Nat} {σ τ : si_M} {k : Nat} (h1 : τ.1 k = σ.1 k) (h2 : τ.2 k = σ.2 k) (d : si_kd) : si_ce dA sz τ k d = si_ce dA sz σ k d := by
  rcases d with ⟨ct, cs⟩ | ⟨b, n⟩
  · simp only [si_ce, si_pv_ne h1 h2]
  · cases b <;> simp [si_ce, h1, h2]
theorem si_sI_row (σ : si_M) (k j : Nat) (v : Int32) : (si_sI σ k j v).1 k = upd (σ.1 k) j v := by
  funext b
  simp [si_sI, upd]
theorem si_sJ_row (σ : si_M) (k j : Nat) (v : Int64) : (si_sJ σ k j v).2 k = vp_updL (σ.2 k) j v := by
  funext b
  simp [si_sJ, vp_updL]
theorem si_sA_row (σ : si_M) (k : Nat) (f : Nat → Int64) : (si_sA σ k f).2 k = f := by
  funext b
  simp [si_sA]
theorem si_sI_o (σ : si_M) {k q : Nat} (h : q ≠ k) (j : Nat) (v : Int32) : (si_sI σ k j v).1 q = σ.1 q ∧ (si_sI σ k j v).2 q = σ.2 q := ⟨by funext b; simp [si_sI, h], rfl⟩
theorem si_sJ_o (σ : si_M) {k q : Nat} (h : q ≠ k) (j : Nat) (v : Int64) : (si_sJ σ k j v).1 q = σ.1 q ∧ (si_sJ σ k j v).2 q = σ.2 q := ⟨rfl, by funext b; simp [si_sJ, h]⟩
theorem si_sA_o (σ : si_M) {k q : Nat} (h : q ≠ k) (f : Nat → Int64) : (si_sA σ k f).1 q = σ.1 q ∧ (si_sA σ k f).2 q = σ.2 q := ⟨rfl, by funext b; simp [si_sA, h]⟩
/-- the fields of an object behind a store of one of them -/
theorem si_flds {sz : Nat} {σ τ : si_M} {k j : Nat} {cs : List Nat} {v : Value} (hj : j < cs.length) (hv : si_v sz (si_pv τ k j (cs.getD j 0)) = v) (ho : ∀ i c, i ≠ j → si_pv τ k i c = si_pv σ k i c) : ((List.range cs.length).map fun i => si_v sz (si_pv σ k i (cs.getD i 0))).set j v = (List.range cs.length).map fun i => si_v sz (si_pv τ k i (cs.getD i 0)) := by
  apply List.ext_getElem?
  intro i
  rw [List.getElem?_set]
  by_cases hi : j = i
  · subst hi
    simp [hj, ← hv]
  · simp only [hi, if_false]
    rw [List.getElem?_map, List.getElem?_map]
    by_cases hl : i < cs.length
    · rw [List.getElem?_range hl]
      simp [ho i _ (fun e => hi e.symm)]
    · rw [List.getElem?_eq_none (by simpa using hl)]
      rfl
theorem si_in_vp {i : Int32} {n : Nat} (h : si_in i n = true) : vp_in i n := by
  unfold si_in at h
  rw [Bool.and_eq_true, decide_eq_true_eq, decide_eq_true_eq] at h
  intro hh
  rcases hh with hh | hh
  · exact absurd h.1 (Int32.not_le.mpr hh)
  · omega
/-- the locals that are known -/
def si_as (sz : Nat) : Nat → List Value → List (Nat × Value)
  | _, [] => []
  | i, v :: L => match v with
    | .retAddr _ => si_as sz (i + 1) L
    | v => (i, si_v sz v) :: si_as sz (i + 1) L
theorem si_as_mem {sz : Nat} {L : List Value} : ∀ {i : Nat} {q : Nat × Value}, q ∈ si_as sz i L ↔ ∃ (j : Nat) (v : Value), L[j]? = some v ∧ (∀ p, v ≠ .retAddr p) ∧ q = (i + j, si_v sz v) := by
  induction L with
  | nil => intro i q; simp [si_as]
  | cons w L ih =>
    intro i q
    have step : (∃ (j : Nat) (v : Value), (w :: L)[j]? = some v ∧ (∀ p, v ≠ .retAddr p) ∧ q = (i + j, si_v sz v)) ↔ ((∀ p, w ≠ .retAddr p) ∧ q = (i, si_v sz w)) ∨ ∃ (j : Nat) (v : Value), L[j]? = some v ∧ (∀ p, v ≠ .retAddr p) ∧ q = (i + 1 + j, si_v sz v) := by
      constructor
      · rintro ⟨j, v, h1, h2, h3⟩
        cases j with
        | zero => simp at h1; subst h1; exact Or.inl ⟨h2, h3⟩
        | succ j => exact Or.inr ⟨j, v, by simpa using h1, h2, by rw [h3]; congr 1; omega⟩
      · rintro (⟨h2, h3⟩ | ⟨j, v, h1, h2, h3⟩)
        · exact ⟨0, w, by simp, h2, h3⟩
        · exact ⟨j + 1, v, by simpa using h1, h2, by rw [h3]; congr 1; omega⟩
    rw [step, ← ih]
    cases w <;> simp [si_as]
/-- the real locals hold the known ones -/
def si_L (sz : Nat) (L : List Value) (ls : Array Slot) (n : Nat) : Prop := lv_has ls n (si_as sz 0 L)
theorem si_L_get {sz : Nat} {L : List Value} {ls : Array Slot} {n i : Nat} {v : Value} (h : si_L sz L ls n) (hi : L[i]? = some v) (hv : ∀ p, v ≠ .retAddr p) : ls[i]? = some (.val (si_v sz v)) := by
  refine h.2.2 (i, si_v sz v) (si_as_mem.mpr ⟨i, v, hi, hv, by simp⟩)
theorem lv_has.less {ls : Array Slot} {n : Nat} {l l' : List (Nat × Value)} (h : lv_has ls n l) (hs : ∀ q ∈ l', q ∈ l) : lv_has ls n l' := ⟨h.1, h.2.1, fun q hq => h.2.2 q (hs q hq)⟩
theorem si_clr_get {L : List Value} {ds : List Nat} : ∀ {j : Nat} {v : Value}, (si_clr L ds)[j]? = some v → (∀ p, v ≠ .retAddr p) → L[j]? = some v := by
  induction ds generalizing L with
  | nil => intro j v h _; exact h
  | cons d ds ih =>
    intro j v h hv
    have h1 := ih h hv
    rw [List.getElem?_set] at h1
    split at h1
    · split at h1
      · cases h1; exact absurd rfl (hv 0)
      · cases h1
    · exact h1
theorem si_clr_len {L : List Value} {ds : List Nat} : (si_clr L ds).length = L.length := by
  induction ds generalizing L with
  | nil => rfl
  | cons d ds ih => simp only [si_clr]; rw [ih]; simp
theorem si_L_clr {sz : Nat} {L : List Value} {ls : Array Slot} {n : Nat} (h : si_L sz L ls n) (ds : List Nat) : si_L sz (si_clr L ds) ls n := by
  refine lv_has.less h fun q hq => ?_
  obtain ⟨j, v, h1, h2, h3⟩ := si_as_mem.mp hq
  exact si_as_mem.mpr ⟨j, v, si_clr_get h1 h2, h2, h3⟩
theorem si_off_get {L : List Value} {i j : Nat} {v : Value} (h : (si_off L i)[j]? = some v) (hv : ∀ p, v ≠ .retAddr p) : L[j]? = some v ∧ ¬ (j + 1 = i ∧ v.category = 2) := by
  have aux : ∀ (i : Nat), (L.set i si_U)[j]? = some v → L[j]? = some v ∧ ¬ (j + 1 = i + 1 ∧ v.category = 2) := by
    intro i h
    rw [List.getElem?_set] at h
    split at h
    · split at h
      · cases h; exact absurd rfl (hv 0)
      · cases h
    · exact ⟨h, fun e => by omega⟩
  unfold si_off at h
  split at h
  · exact ⟨h, fun e => by omega⟩
  · rename_i i
    split at h
    · exact aux i h
    · exact aux i h
    · rename_i hx hy
      refine ⟨h, fun e => ?_⟩
      obtain ⟨e1, e2⟩ := e
      have e4 : j = i := by omega
      subst e4
      cases v with
      | long x => exact hx x h
      | double x => exact hy x h
      | _ => cases e2
theorem si_off_len {L : List Value} {i : Nat} : (si_off L i).length = L.length := by
  unfold si_off
  split
  · rfl
  · split <;> simp
theorem si_v_cat (sz : Nat) (v : Value) : (si_v sz v).category = v.category := by cases v <;> rfl
theorem si_L_put1 {sz : Nat} {L : List Value} {ls : Array Slot} {n i : Nat} {v : Value} (hv : ∀ p, v ≠ .retAddr p) (h : lv_has ls n ((i, si_v sz v) :: (si_as sz 0 L).filter (fun q => !(q.1 == i) && !(q.1 + 1 == i && q.2.category == 2)))) : si_L sz (si_put1 L i v) ls n := by
  refine lv_has.less h fun q hq => ?_
  obtain ⟨j, w, h1, h2, h3⟩ := si_as_mem.mp hq
  unfold si_put1 at h1
  rw [List.getElem?_set] at h1
  split at h1
  · rename_i e
    split at h1
    · cases h1
      rw [h3, ← e]
      simp
    · cases h1
  · rename_i e
    obtain ⟨h4, h5⟩ := si_off_get h1 h2
    refine List.mem_cons_of_mem _ (List.mem_filter.mpr ⟨si_as_mem.mpr ⟨j, w, h4, h2, h3⟩, ?_⟩)
    rw [h3]
    have e1 : ¬ (0 + j = i) := by omega
    have e2 : ¬ (0 + j + 1 = i ∧ (si_v sz w).category = 2) := by
      rintro ⟨a, b⟩
      rw [si_v_cat] at b
      exact h5 ⟨by omega, b⟩
    simp only [Bool.and_eq_true, Bool.not_eq_true', beq_eq_false_iff_ne, ne_eq, Bool.and_eq_false_iff]
    refine ⟨e1, ?_⟩
    by_cases a : 0 + j + 1 = i
    · exact Or.inr fun b => e2 ⟨a, b⟩
    · exact Or.inl a
theorem si_L_put2 {sz : Nat} {L : List Value} {ls : Array Slot} {n i : Nat} {v : Value} (hv : ∀ p, v ≠ .retAddr p) (h : lv_has ls n ((i, si_v sz v) :: (si_as sz 0 L).filter (fun q => !(q.1 == i) && (!(q.1 == i + 1) && !(q.1 + 1 == i && q.2.category == 2))))) : si_L sz (si_put2 L i v) ls n := by
  refine lv_has.less h fun q hq => ?_
  obtain ⟨j, w, h1, h2, h3⟩ := si_as_mem.mp hq
  unfold si_put2 at h1
  rw [List.getElem?_set] at h1
  split at h1
  · split at h1
    · cases h1; exact absurd rfl (h2 0)
    · cases h1
  rename_i e0
  rw [List.getElem?_set] at h1
  split at h1
  · rename_i e
    split at h1
    · cases h1
      rw [h3, ← e]
      simp
    · cases h1
  · rename_i e
    obtain ⟨h4, h5⟩ := si_off_get h1 h2
    refine List.mem_cons_of_mem _ (List.mem_filter.mpr ⟨si_as_mem.mpr ⟨j, w, h4, h2, h3⟩, ?_⟩)
    rw [h3]
    have e1 : ¬ (0 + j = i) := by omega
    have e2 : ¬ (0 + j + 1 = i ∧ (si_v sz w).category = 2) := by
      rintro ⟨a, b⟩
      rw [si_v_cat] at b
      exact h5 ⟨by omega, b⟩
    have e3 : ¬ (0 + j = i + 1) := by omega
    simp only [Bool.and_eq_true, Bool.not_eq_true', beq_eq_false_iff_ne, ne_eq, Bool.and_eq_false_iff]
    refine ⟨e1, e3, ?_⟩
    by_cases a : 0 + j + 1 = i
    · exact Or.inr fun b => e2 ⟨a, b⟩
    · exact Or.inl a
end
section
/-! THE CHECK OF A PROGRAM'S ROWS, AND THE THEOREM: the real machine follows the pure one -/
def si_wi (i : Nat) (w : Jvm.Cond) : Bool := decide (lw_tbl[i]? = some w)
theorem si_wi_mem {i : Nat} {w : Jvm.Cond} (h : si_wi i w = true) : w ∈ lw_tbl := List.mem_of_getElem? (of_decide_eq_true h)
/-- the link of a static call: plain, or to a nest mate's private method -/
def si_lk (own : String) (k : Nat) (y : MethodName) (i : Nat) : Bool := match lw_tbl[i]? with
  | some (.methodLink o j z) => decide (o = own ∧ j = k ∧ z = y)
  | some (.methodLinkNest o j z _) => decide (o = own ∧ j = k ∧ z = y)
  | _ => false
theorem si_lk_mem {own : String} {k i : Nat} {y : MethodName} (h : si_lk own k y i = true) : Jvm.Cond.methodLink own k y ∈ lw_tbl ∨ ∃ host, Jvm.Cond.methodLinkNest own k y host ∈ lw_tbl := by
  unfold si_lk at h
  split at h
  · rename_i o j z hw
    obtain ⟨rfl, rfl, rfl⟩ := of_decide_eq_true h
    exact Or.inl (List.mem_of_getElem? hw)
  · rename_i o j z host hw
    obtain ⟨rfl, rfl, rfl⟩ := of_decide_eq_true h
    exact Or.inr ⟨host, List.mem_of_getElem? hw⟩
  · cases h
def si_np (y : MethodName) (n : Nat) : Bool := decide (y.cls ≠ "java/lang/invoke/MethodHandle" ∧ y.cls ≠ "java/lang/invoke/VarHandle") && decide ((parseMethodDescriptor y.desc).map (fun d => d.parameters.length) = some n)
def si_cok (mt : List si_mi) (cl : List vw_C) (own : String) (fr lo k : Nat) (xs : List Nat) (virt : Bool) : Bool := match virt, xs with
  | false, [w1, w2, w3, w4] => si_wi w1 (.methodLink own k arraycopyName) && si_wi w2 (.native arraycopyName) && si_wi w3 (.static arraycopyName) && si_wi w4 (.initialized "java/lang/System") && Nat.ble 1 fr && Nat.ble (8 + (nativeFrameWords "java/lang/System" "arraycopy" 5 + 11)) lo
  | false, [c, na, _, w1, w2, w3, w4] => match mt[c]? with
    | some (y, bs, mL, ret, fr2, lo2, _) => si_lk own k y w1 && si_wi w2 (.static y) && si_wi w3 (.initialized y.cls) && si_wi w4 (.code y bs mL ret) && si_np y na && Nat.ble (fr2 + 1) fr && Nat.ble (8 + (mL + 11) + lo2) lo
    | none => false
  | true, [c, na, _, ct, w1, w2, w3, w4, w5] => match mt[c]?, cl[ct]? with
    | some (y, bs, mL, ret, fr2, lo2, _), some (C, _, _) => decide (y.cls = C) && si_wi w1 (.methodLink own k y) && si_wi w2 (.instanceMethod y) && si_wi w3 (.initialized y.cls) && si_wi w4 (.code y bs mL ret) && si_wi w5 (.selects y.cls y y) && si_np y na && Nat.ble (fr2 + 1) fr && Nat.ble (8 + (mL + 11) + lo2) lo
    | _, _ => false
  | _, _ => false
def si_fok (cl : List vw_C) (own : String) (k : Nat) (xs : List Nat) (put : Bool) : Bool := match xs with
  | [ct, j, w] => match cl[ct]? with
    | some (_, T, N) => Nat.blt j N && si_wi w (.fieldLink own k (T j).1 (T j).2.1 (T j).2.2.1) && (!put || !(T j).2.2.2)
    | none => false
  | _ => false
def si_tok (pc : Nat) (off : Int) (xs : List Nat) : Bool := match xs with
  | [t] => decide ((pc : Int) + off = (t : Int))
  | _ => false
def si_kok (xs : List Nat) (w : Jvm.Cond) : Bool := match xs with
  | [i] => si_wi i w
  | _ => false
/-- what is asked of a row beside its decoding -/
def si_iok (mt : List si_mi) (cl : List vw_C) (own : String) (fr lo pc : Nat) (i : Instr) (xs : List Nat) (ci : Int32) (cL : Int64) : Bool := match i with
  | .iconst n => decide (Int32.ofInt n = ci)
  | .bipush n => decide ((Int8.ofInt n).toInt32 = ci)
  | .sipush n => decide ((Int16.ofInt n).toInt32 = ci)
  | .ldc k => si_kok xs (.constant own k ci)
  | .ldc_w k => si_kok xs (.constant own k ci)
  | .lconst n => decide (Int64.ofNat (n : Nat) = cL)
  | .ldc2_w k => si_kok xs (.constantLong own k cL)
  | .iinc _ n => decide (Int32.ofInt n = ci)
  | .goto off => si_tok pc off xs
  | .ifCond _ off => si_tok pc off xs
  | .if_icmp _ off => si_tok pc off xs
  | .getfield k => si_fok cl own k xs false
  | .putfield k => si_fok cl own k xs true
  | .invokestatic k => si_cok mt cl own fr lo k xs false
  | .invokevirtual k => si_cok mt cl own fr lo k xs true
  | _ => true
def si_len (i : Instr) : Nat := match i with
  | .bipush _ | .ldc _ | .iload _ | .lload _ | .aload _ | .istore _ | .lstore _ | .astore _ => 2
  | .sipush _ | .ldc_w _ | .ldc2_w _ | .iinc _ _ | .goto _ | .ifCond _ _ | .if_icmp _ _ | .getfield _ | .putfield _ | .invokestatic _ | .invokevirtual _ => 3
  | _ => 1
def si_rok (mt : List si_mi) (cl : List vw_C) (y : MethodName) (bs : ByteArray) (fr lo : Nat) (r : si_row) : Bool := match r with
  | (pc, i, len, xs, ci, cL, _) => decide (decode bs pc = .ok (i, len)) && Nat.beq len (si_len i) && si_iok mt cl y.cls fr lo pc i xs ci cL
def si_mok (mt : List si_mi) (cl : List vw_C) (m : si_mi) : Bool := match m with
  | (y, bs, _, _, fr, lo, rows) => plainName y.cls && rows.all (si_rok mt cl y bs fr lo)
/-- what the classes' tables must say -/
def si_clok (cl : List vw_C) : Prop := ∀ (ct : Nat) (C : String) (T : u_T) (N : Nat), cl[ct]? = some (C, T, N) → (∀ w ∈ u_ws C T N, w ∈ lw_tbl) ∧ (∃ ty : Nat → FieldType, ∀ k, k < N → parseFieldDescriptor (T k).2.2.1 = some (ty k)) ∧ ∀ a, a < N → ∀ b, b < N → a ≠ b → (T a).2.1 ≠ (T b).2.1
/-- the codes of the cells' fields are their types -/
def si_shok (cl : List vw_C) (sh : List si_kd) : Prop := ∀ (k ct : Nat) (cs : List Nat), sh[k]? = some (.inl (ct, cs)) → ∃ (C : String) (T : u_T), cl[ct]? = some (C, T, cs.length) ∧ ∀ (j c : Nat), cs[j]? = some c → parseFieldDescriptor (T j).2.2.1 = (match c with | 0 => some .int | 1 => some .long | 2 => some .boolean | _ => parseFieldDescriptor (T j).2.2.1)
def si_good : Prop := ∀ w ∈ lw_tbl, (w.onTables && w.keeps) = true ∨ ∃ ty, w = Jvm.Cond.arrayClass ty
def si_Pc (D : va_G) (dA : Bool → ClassId) (cl : List vw_C) (sz : Nat) (sh : List si_kd) (as : List Value) (σ : si_M) : Array Value → State → Prop := va_Pc (as.map (si_v sz)) (fun U => va_P D cl (si_W dA sz sh σ) U.heap ∧ va_K D cl [(dA false, .int), (dA true, .long)] U)
def si_Qc (D : va_G) (dA : Bool → ClassId) (cl : List vw_C) (sz : Nat) (sh : List si_kd) (o : si_O) : Array Value → State → Outcome → State → Prop := fun _ st oc t => oc = .returned (o.1.map (si_v sz)) ∧ va_P D cl (si_W dA sz sh o.2) t.heap ∧ va_F (fun q => sz ≤ q) st t
def si_fr (sz : Nat) : Addr → Prop := fun q => sz ≤ q
def si_rm (fr lo : Nat) : Room := { frames := fr, cells := 0, slots := 0, locals := lo }
/-- a call of a method that makes nothing, goes on -/
theorem si_goes {p : Program} {l : Launch} {e : Env} {R : Room} {s : State} {m : MethodId} {args : Array Value} {below : List Frame} {meth : Method} {c : Code} {H : Heap} {locs : List Loc} {cells slots : Nat} {Q : State → Prop} {pc : Nat} {ls : Array Slot} {rest st0 : List Value} {H0 : Heap} {D : va_G} {dA : Bool → ClassId} {cl : List vw_C} {sz : Nat} {sh : List si_kd} {o : si_O} {a : Array Value}
    (hr : va_Run p l e R s m args below meth c H locs cells slots 0 0 (F0 m pc ls st0) rest (si_Qc D dA cl sz sh o a) (si_fr sz)) (hS : va_S (fun q => sz ≤ q) H0 H locs)
    (kk : ∀ (H1 : Heap) (locs1 : List Loc), va_P D cl (si_W dA sz sh o.2) H1 → va_S (fun q => sz ≤ q) H0 H1 locs1 → W p l e R s m args below meth c H1 locs1 cells slots Q (F0 m (pc + 3) ls ((o.1.map (si_v sz)).toList ++ rest))) : W p l e R s m args below meth c H locs cells slots Q (F0 m pc ls st0) := by
  intro T hT X
  obtain ⟨v, st₀, t, T', L, h0, X', hL, e1, e2, ⟨hv, hp, hz, hk⟩, st⟩ := hr T hT X
  cases hv
  rw [h0] at hz hk
  obtain ⟨t2, a1, b1⟩ := kk T'.heap (locs ++ L) (by rw [e1]; exact hp)
    ⟨Nat.le_trans hS.1 (by rw [e1]; exact hz), fun q h1 h2 => by rw [e1, hk q (Nat.lt_of_lt_of_le h1 hS.1) h2]; exact hS.2.1 q h1 h2, fun q hq => by
      rcases List.mem_append.mp hq with h | h
      · exact hS.2.2 q h
      · exact hL q h⟩ T' rfl X'
  exact ⟨t2, st t2 a1, b1⟩
section SIM
variable {p : Program} {l : Launch} {e : Env} {s : State} {m : MethodId} {args : Array Value} {below : List Frame} {meth : Method} {c : Code} {D : va_G} {dA : Bool → ClassId} {cl : List vw_C} {sz : Nat} {sh : List si_kd} {mt : List si_mi} {R : Room} {cells slots : Nat} {Q : State → Prop} {bs : ByteArray} {own : String} {mL : Nat} {H0 : Heap}
/-- what holds all through a method's body -/
def si_Ctx (p : Program) (s : State) (m : MethodId) (args : Array Value) (c : Code) (D : va_G) (dA : Bool → ClassId) (cl : List vw_C) (bs : ByteArray) (own : String) (mL : Nat) : Prop := p.tables.exec = Jvm.exec ∧ c.code = bs ∧ c.maxLocals = mL ∧ s.vm.findClass own = some m.cls ∧ (∀ w ∈ lw_tbl, w.before args s = true) ∧ va_K D cl [(dA false, .int), (dA true, .long)] s
/-- what holds at a point of it -/
def si_At (s : State) (D : va_G) (dA : Bool → ClassId) (cl : List vw_C) (sz : Nat) (sh : List si_kd) (mL : Nat) (H0 : Heap) (σ : si_M) (L : List Value) (H : Heap) (locs : List Loc) (ls : Array Slot) : Prop := L.length = mL ∧ va_P D cl (si_W dA sz sh σ) H ∧ va_S (fun q => sz ≤ q) H0 H locs ∧ si_L sz L ls mL
theorem si_jw {call : Nat → List Value → si_M → Option si_O} {k : Nat → List Value → List Value → si_M → Option si_O} {o : si_O} {pc : Nat} {L st : List Value} {σ : si_M} (h : si_drv call k (si_j pc L st σ) = some o) : k pc L st σ = some o := h
theorem si_ifw {call : Nat → List Value → si_M → Option si_O} {k : Nat → List Value → List Value → si_M → Option si_O} {o : si_O} {c : Bool} {pc : Nat} {L st : List Value} {σ : si_M} (hk0 : ∀ L st σ, k 65535 L st σ = none) (h : si_drv call k (si_if c pc L st σ) = some o) : c = true ∧ k pc L st σ = some o := by
  cases c with
  | true => exact ⟨rfl, h⟩
  | false => exact absurd ((hk0 L st σ).symm.trans h) (by simp)
theorem si_brw {call : Nat → List Value → si_M → Option si_O} {k : Nat → List Value → List Value → si_M → Option si_O} {o : si_O} {c : Bool} {a b : Nat} {L st : List Value} {σ : si_M} (h : si_drv call k (si_br c a b L st σ) = some o) : (c = true → k a L st σ = some o) ∧ (c = false → k b L st σ = some o) := by
  cases c with
  | true => exact ⟨fun _ => h, (fun e => by cases e)⟩
  | false => exact ⟨(fun e => by cases e), fun _ => h⟩
theorem si_P_I {H : Heap} {σ : si_M} {k n : Nat} (h : sh[k]? = some (.inr (false, n))) : (si_W dA sz sh σ)[k]? = some (sz + k, .inl (dA false, n, .inl (σ.1 k))) := si_W_at h
theorem si_P_J {H : Heap} {σ : si_M} {k n : Nat} (h : sh[k]? = some (.inr (true, n))) : (si_W dA sz sh σ)[k]? = some (sz + k, .inl (dA true, n, .inr (.inl (σ.2 k)))) := si_W_at h
theorem si_P_O {H : Heap} {σ : si_M} {k ct : Nat} {cs : List Nat} (h : sh[k]? = some (.inl (ct, cs))) : (si_W dA sz sh σ)[k]? = some (sz + k, .inr (ct, (List.range cs.length).map fun j => si_v sz (si_pv σ k j (cs.getD j 0)))) := si_W_at h
theorem si_len1 {len : Nat} {n : Nat} (h : Nat.beq len n = true) : len = n := Nat.eq_of_beq_eq_true h
set_option maxHeartbeats 8000000 in
set_option maxRecDepth 100000 in
/-- one instruction that neither calls nor answers -/
theorem si_step {call : Nat → List Value → si_M → Option si_O} {k : Nat → List Value → List Value → si_M → Option si_O} {o : si_O} {ret : Option FieldType} {pc len : Nat} {i : Instr} {xs : List Nat} {ci : Int32} {cL : Int64} {L st : List Value} {σ : si_M} {fr lo : Nat} {H : Heap} {locs : List Loc} {ls : Array Slot}
    (hcl : si_clok cl) (hsh : si_shok cl sh) (X : si_Ctx p s m args c D dA cl bs own mL) (hR : Nat.ble 1 fr = true → 1 ≤ R.frames) (hR2 : lo ≤ R.locals)
    (hk0 : ∀ L st σ, k 65535 L st σ = none)
    (hk : ∀ pc' L' st' σ' H' locs' ls', k pc' L' st' σ' = some o → si_At s D dA cl sz sh mL H0 σ' L' H' locs' ls' → W p l e R s m args below meth c H' locs' cells slots Q (F0 m pc' ls' (st'.map (si_v sz))))
    (hcS : ∀ n c' na rc tl, i = .invokestatic n → xs = c' :: na :: rc :: tl → tl.length ≠ 1 → na ≤ st.length → si_cat (st.drop na) ≤ 8 → si_ret rc (call c' (st.take na).reverse σ) (fun st τ => k (pc + 3) L st τ) (st.drop na) = some o → W p l e R s m args below meth c H locs cells slots Q (F0 m pc ls (st.map (si_v sz))))
    (hcV : ∀ n c' na rc ct tl q cs, i = .invokevirtual n → xs = c' :: na :: rc :: ct :: tl → st[na]? = some (.ref q) → sh[q]? = some (.inl (ct, cs)) → si_cat (st.drop (na + 1)) ≤ 8 → si_ret rc (call c' (.ref q :: (st.take na).reverse) σ) (fun st τ => k (pc + 3) L st τ) (st.drop (na + 1)) = some o → W p l e R s m args below meth c H locs cells slots Q (F0 m pc ls (st.map (si_v sz))))
    (hend : (i = .ireturn ∨ i = .lreturn ∨ i = .return_) → si_ins ret sh (pc + len) i xs ci cL L st σ = some (.inl o) → W p l e R s m args below meth c H locs cells slots Q (F0 m pc ls (st.map (si_v sz))))
    (hd : decode bs pc = .ok (i, len)) (hlen : len = si_len i) (hok : si_iok mt cl own fr lo pc i xs ci cL = true)
    (A : si_At s D dA cl sz sh mL H0 σ L H locs ls) (h : si_drv call k (si_ins ret sh (pc + len) i xs ci cL L st σ) = some o) :
    W p l e R s m args below meth c H locs cells slots Q (F0 m pc ls (st.map (si_v sz))) := by
  obtain ⟨hx, hb, hml, hown, hts, hK⟩ := X
  obtain ⟨hL, hP, hS, hl⟩ := id A
  have hD := si_W_D dA sz sh σ
  subst hlen
  cases i with
  | iconst n =>
    exact lv_iconst hx hb hd (of_decide_eq_true hok) (hk _ _ _ _ _ _ _ h A)
  | bipush n =>
    exact lv_bipush hx hb hd (of_decide_eq_true hok) (hk _ _ _ _ _ _ _ h A)
  | sipush n =>
    exact lv_sipush hx hb hd (of_decide_eq_true hok) (hk _ _ _ _ _ _ _ h A)
  | lconst n =>
    exact lv_lconst hx hb hd (of_decide_eq_true hok) (hk _ _ _ _ _ _ _ h A)
  | ldc n =>
    simp only [si_iok, si_kok] at hok
    split at hok
    · exact lv_ldc hx hb hown (hts _ (si_wi_mem hok)) hd (hk _ _ _ _ _ _ _ h A)
    · cases hok
  | ldc_w n =>
    simp only [si_iok, si_kok] at hok
    split at hok
    · exact lv_ldcw hx hb hown (hts _ (si_wi_mem hok)) hd (hk _ _ _ _ _ _ _ h A)
    · cases hok
  | ldc2_w n =>
    simp only [si_iok, si_kok] at hok
    split at hok
    · exact lv_ldc2 hx hb hown (hts _ (si_wi_mem hok)) hd (hk _ _ _ _ _ _ _ h A)
    · cases hok
  | iload_n n =>
    simp only [si_ins, si_ldI] at h
    split at h
    · rename_i x hx2
      exact lv_iload_n hx hb hd rfl (si_L_get hl hx2 (fun _ e => by cases e)) (hk _ _ _ _ _ _ _ h A)
    · cases h
  | iload n =>
    simp only [si_ins, si_ldI] at h
    split at h
    · rename_i x hx2
      exact lv_iload hx hb hd (si_L_get hl hx2 (fun _ e => by cases e)) (hk _ _ _ _ _ _ _ h A)
    · cases h
  | lload_n n =>
    simp only [si_ins, si_ldL] at h
    split at h
    · rename_i x hx2
      exact lv_lload_n hx hb hd rfl (si_L_get hl hx2 (fun _ e => by cases e)) (hk _ _ _ _ _ _ _ h A)
    · cases h
  | lload n =>
    simp only [si_ins, si_ldL] at h
    split at h
    · rename_i x hx2
      exact lv_lload hx hb hd (si_L_get hl hx2 (fun _ e => by cases e)) (hk _ _ _ _ _ _ _ h A)
    · cases h
  | aload_n n =>
    simp only [si_ins, si_ldA] at h
    split at h
    · rename_i x hx2
      exact lv_aload_n hx hb hd rfl (si_L_get hl hx2 (fun _ e => by cases e)) (hk _ _ _ _ _ _ _ h A)
    · cases h
  | aload n =>
    simp only [si_ins, si_ldA] at h
    split at h
    · rename_i x hx2
      exact lv_aload hx hb hd (si_L_get hl hx2 (fun _ e => by cases e)) (hk _ _ _ _ _ _ _ h A)
    · cases h
  | istore_n n =>
    simp only [si_ins, si_stI] at h
    split at h
    · rename_i x r
      split at h
      · rename_i hlt
        exact lv_istore_n hx hb hd rfl hl (by rw [hL] at hlt; exact hlt) rfl (fun ls' hl' => hk _ _ _ _ _ _ _ h ⟨by simp [si_put1, si_off_len]; exact hL, hP, hS, si_L_put1 (fun _ e => by cases e) hl'⟩)
      · cases h
    · cases h
  | istore n =>
    simp only [si_ins, si_stI] at h
    split at h
    · rename_i x r
      split at h
      · rename_i hlt
        exact lv_istore hx hb hd hl (by rw [hL] at hlt; exact hlt) rfl (fun ls' hl' => hk _ _ _ _ _ _ _ h ⟨by simp [si_put1, si_off_len]; exact hL, hP, hS, si_L_put1 (fun _ e => by cases e) hl'⟩)
      · cases h
    · cases h
  | astore_n n =>
    simp only [si_ins, si_stA] at h
    split at h
    · rename_i x r
      split at h
      · rename_i hlt
        exact lv_astore_n hx hb hd rfl hl (by rw [hL] at hlt; exact hlt) rfl (fun ls' hl' => hk _ _ _ _ _ _ _ h ⟨by simp [si_put1, si_off_len]; exact hL, hP, hS, si_L_put1 (fun _ e => by cases e) hl'⟩)
      · cases h
    · cases h
  | astore n =>
    simp only [si_ins, si_stA] at h
    split at h
    · rename_i x r
      split at h
      · rename_i hlt
        exact lv_astore hx hb hd hl (by rw [hL] at hlt; exact hlt) rfl (fun ls' hl' => hk _ _ _ _ _ _ _ h ⟨by simp [si_put1, si_off_len]; exact hL, hP, hS, si_L_put1 (fun _ e => by cases e) hl'⟩)
      · cases h
    · cases h
  | lstore_n n =>
    simp only [si_ins, si_stL] at h
    split at h
    · rename_i x r
      split at h
      · rename_i hlt
        exact lv_lstore_n hx hb hd rfl hl (by rw [hL] at hlt; exact hlt) rfl (fun ls' hl' => hk _ _ _ _ _ _ _ h ⟨by simp [si_put2, si_off_len]; exact hL, hP, hS, si_L_put2 (fun _ e => by cases e) hl'⟩)
      · cases h
    · cases h
  | lstore n =>
    simp only [si_ins, si_stL] at h
    split at h
    · rename_i x r
      split at h
      · rename_i hlt
        exact lv_lstore hx hb hd hl (by rw [hL] at hlt; exact hlt) rfl (fun ls' hl' => hk _ _ _ _ _ _ _ h ⟨by simp [si_put2, si_off_len]; exact hL, hP, hS, si_L_put2 (fun _ e => by cases e) hl'⟩)
      · cases h
    · cases h
  | iinc n d =>
    simp only [si_ins] at h
    split at h
    · rename_i x hx2
      have hlt : (n : Nat) < mL := by rw [← hL]; exact (List.getElem?_eq_some_iff.mp hx2).1
      obtain ⟨q, hq⟩ := List.getElem?_of_mem (si_as_mem.mpr ⟨n, .int x, hx2, (fun _ e => by cases e), rfl⟩ : _ ∈ si_as sz 0 L)
      rw [Nat.zero_add] at hq
      have hci : Int32.ofInt d = ci := of_decide_eq_true hok
      exact lv_iinc hx hb hd hl hq (by rw [hci]) hlt rfl (fun ls' hl' => hk _ _ _ _ _ _ _ h ⟨by simp [si_put1, si_off_len]; exact hL, hP, hS, si_L_put1 (fun _ e => by cases e) hl'⟩)
    · cases h
  | iadd =>
    simp only [si_ins, si_i2] at h
    split at h
    · exact lv_iadd hx hb hd (hk _ _ _ _ _ _ _ h A)
    · cases h
  | isub =>
    simp only [si_ins, si_i2] at h
    split at h
    · exact lv_isub hx hb hd (hk _ _ _ _ _ _ _ h A)
    · cases h
  | imul =>
    simp only [si_ins, si_i2] at h
    split at h
    · exact lv_imul hx hb hd (hk _ _ _ _ _ _ _ h A)
    · cases h
  | iand =>
    simp only [si_ins, si_i2] at h
    split at h
    · exact lv_iand hx hb hd (hk _ _ _ _ _ _ _ h A)
    · cases h
  | ior =>
    simp only [si_ins, si_i2] at h
    split at h
    · exact lv_ior hx hb hd (hk _ _ _ _ _ _ _ h A)
    · cases h
  | ixor =>
    simp only [si_ins, si_i2] at h
    split at h
    · exact lv_ixor hx hb hd (hk _ _ _ _ _ _ _ h A)
    · cases h
  | ishl =>
    simp only [si_ins, si_i2] at h
    split at h
    · exact lv_ishl hx hb hd (hk _ _ _ _ _ _ _ h A)
    · cases h
  | ishr =>
    simp only [si_ins, si_i2] at h
    split at h
    · exact lv_ishr hx hb hd (hk _ _ _ _ _ _ _ h A)
    · cases h
  | iushr =>
    simp only [si_ins, si_i2] at h
    split at h
    · exact lv_iushr hx hb hd rfl (hk _ _ _ _ _ _ _ h A)
    · cases h
  | ladd =>
    simp only [si_ins, si_l2] at h
    split at h
    · exact lv_ladd hx hb hd (hk _ _ _ _ _ _ _ h A)
    · cases h
  | lsub =>
    simp only [si_ins, si_l2] at h
    split at h
    · exact lv_lsub hx hb hd (hk _ _ _ _ _ _ _ h A)
    · cases h
  | lmul =>
    simp only [si_ins, si_l2] at h
    split at h
    · exact lv_lmul hx hb hd (hk _ _ _ _ _ _ _ h A)
    · cases h
  | land =>
    simp only [si_ins, si_l2] at h
    split at h
    · exact lv_land hx hb hd (hk _ _ _ _ _ _ _ h A)
    · cases h
  | lor =>
    simp only [si_ins, si_l2] at h
    split at h
    · exact lv_lor hx hb hd (hk _ _ _ _ _ _ _ h A)
    · cases h
  | lxor =>
    simp only [si_ins, si_l2] at h
    split at h
    · exact lv_lxor hx hb hd (hk _ _ _ _ _ _ _ h A)
    · cases h
  | lshl =>
    simp only [si_ins, si_ls] at h
    split at h
    · exact lv_lshl hx hb hd rfl (hk _ _ _ _ _ _ _ h A)
    · cases h
  | lshr =>
    simp only [si_ins, si_ls] at h
    split at h
    · exact lv_lshr hx hb hd rfl (hk _ _ _ _ _ _ _ h A)
    · cases h
  | lushr =>
    simp only [si_ins, si_ls] at h
    split at h
    · exact lv_lushr hx hb hd rfl (hk _ _ _ _ _ _ _ h A)
    · cases h
  | idiv =>
    simp only [si_ins] at h
    split at h
    · obtain ⟨h1, h2⟩ := si_ifw hk0 h
      exact lv_idiv hx hb hd (by simpa using h1) (hk _ _ _ _ _ _ _ h2 A)
    · cases h
  | irem =>
    simp only [si_ins] at h
    split at h
    · obtain ⟨h1, h2⟩ := si_ifw hk0 h
      exact lv_irem hx hb hd (by simpa using h1) (hk _ _ _ _ _ _ _ h2 A)
    · cases h
  | lcmp =>
    simp only [si_ins] at h
    split at h
    · exact W.lcmp hx hb hd (hk _ _ _ _ _ _ _ h A)
    · cases h
  | i2l =>
    simp only [si_ins] at h
    split at h
    · exact lv_i2l hx hb hd rfl (hk _ _ _ _ _ _ _ h A)
    · cases h
  | l2i =>
    simp only [si_ins] at h
    split at h
    · exact lv_l2i hx hb hd rfl (hk _ _ _ _ _ _ _ h A)
    · cases h
  | dup =>
    simp only [si_ins] at h
    split at h
    · exact lv_dup hx hb hd rfl (hk _ _ _ _ _ _ _ h A)
    · exact lv_dup hx hb hd rfl (hk _ _ _ _ _ _ _ h A)
    · cases h
  | dup2 =>
    simp only [si_ins] at h
    split at h
    · exact lv_dup2_2 hx hb hd rfl (hk _ _ _ _ _ _ _ h A)
    · exact lv_dup2_11 hx hb hd rfl rfl (hk _ _ _ _ _ _ _ h A)
    · cases h
  | pop =>
    simp only [si_ins] at h
    split at h
    · exact lv_pop hx hb hd rfl (hk _ _ _ _ _ _ _ h A)
    · cases h
  | goto off =>
    simp only [si_ins] at h
    simp only [si_iok, si_tok] at hok
    split at h
    · exact lv_goto hx hb hd (of_decide_eq_true hok) (hk _ _ _ _ _ _ _ h A)
    · cases h
  | ifCond cnd off =>
    cases cnd with
    | eq =>
      simp only [si_ins, si_i1] at h
      simp only [si_iok, si_tok] at hok
      split at h
      · have hh := si_brw h
        exact lv_if_eq hx hb hd (of_decide_eq_true hok) (fun hc => hk _ _ _ _ _ _ _ (hh.1 (decide_eq_true hc)) A) (fun hc => hk _ _ _ _ _ _ _ (hh.2 (decide_eq_false hc)) A)
      · cases h
    | ne =>
      simp only [si_ins, si_i1] at h
      simp only [si_iok, si_tok] at hok
      split at h
      · have hh := si_brw h
        exact lv_if_ne hx hb hd (of_decide_eq_true hok) (fun hc => hk _ _ _ _ _ _ _ (hh.1 (by simpa using hc)) A) (fun hc => hk _ _ _ _ _ _ _ (hh.2 (by simpa using hc)) A)
      · cases h
    | lt =>
      simp only [si_ins, si_i1] at h
      simp only [si_iok, si_tok] at hok
      split at h
      · have hh := si_brw h
        exact lv_if_lt hx hb hd (of_decide_eq_true hok) (fun hc => hk _ _ _ _ _ _ _ (hh.1 (decide_eq_true hc)) A) (fun hc => hk _ _ _ _ _ _ _ (hh.2 (decide_eq_false hc)) A)
      · cases h
    | ge =>
      simp only [si_ins, si_i1] at h
      simp only [si_iok, si_tok] at hok
      split at h
      · have hh := si_brw h
        exact lv_if_ge hx hb hd (of_decide_eq_true hok) (fun hc => hk _ _ _ _ _ _ _ (hh.1 (decide_eq_true hc)) A) (fun hc => hk _ _ _ _ _ _ _ (hh.2 (decide_eq_false hc)) A)
      · cases h
    | gt =>
      simp only [si_ins, si_i1] at h
      simp only [si_iok, si_tok] at hok
      split at h
      · have hh := si_brw h
        exact lv_if_gt hx hb hd (of_decide_eq_true hok) (fun hc => hk _ _ _ _ _ _ _ (hh.1 (decide_eq_true hc)) A) (fun hc => hk _ _ _ _ _ _ _ (hh.2 (decide_eq_false hc)) A)
      · cases h
    | le =>
      simp only [si_ins, si_i1] at h
      simp only [si_iok, si_tok] at hok
      split at h
      · have hh := si_brw h
        exact lv_if_le hx hb hd (of_decide_eq_true hok) (fun hc => hk _ _ _ _ _ _ _ (hh.1 (decide_eq_true hc)) A) (fun hc => hk _ _ _ _ _ _ _ (hh.2 (decide_eq_false hc)) A)
      · cases h
  | if_icmp cnd off =>
    cases cnd with
    | eq =>
      simp only [si_ins, si_ic] at h
      simp only [si_iok, si_tok] at hok
      split at h
      · have hh := si_brw h
        exact lv_icmp_eq hx hb hd (of_decide_eq_true hok) (fun hc => hk _ _ _ _ _ _ _ (hh.1 (decide_eq_true hc)) A) (fun hc => hk _ _ _ _ _ _ _ (hh.2 (decide_eq_false hc)) A)
      · cases h
    | ne =>
      simp only [si_ins, si_ic] at h
      simp only [si_iok, si_tok] at hok
      split at h
      · have hh := si_brw h
        exact lv_icmp_ne hx hb hd (of_decide_eq_true hok) (fun hc => hk _ _ _ _ _ _ _ (hh.1 (by simpa using hc)) A) (fun hc => hk _ _ _ _ _ _ _ (hh.2 (by simpa using hc)) A)
      · cases h
    | lt =>
      simp only [si_ins, si_ic] at h
      simp only [si_iok, si_tok] at hok
      split at h
      · have hh := si_brw h
        exact lv_icmp_lt hx hb hd (of_decide_eq_true hok) (fun hc => hk _ _ _ _ _ _ _ (hh.1 (decide_eq_true hc)) A) (fun hc => hk _ _ _ _ _ _ _ (hh.2 (decide_eq_false hc)) A)
      · cases h
    | ge =>
      simp only [si_ins, si_ic] at h
      simp only [si_iok, si_tok] at hok
      split at h
      · have hh := si_brw h
        exact lv_icmp_ge hx hb hd (of_decide_eq_true hok) (fun hc => hk _ _ _ _ _ _ _ (hh.1 (decide_eq_true hc)) A) (fun hc => hk _ _ _ _ _ _ _ (hh.2 (decide_eq_false hc)) A)
      · cases h
    | gt =>
      simp only [si_ins, si_ic] at h
      simp only [si_iok, si_tok] at hok
      split at h
      · have hh := si_brw h
        exact lv_icmp_gt hx hb hd (of_decide_eq_true hok) (fun hc => hk _ _ _ _ _ _ _ (hh.1 (decide_eq_true hc)) A) (fun hc => hk _ _ _ _ _ _ _ (hh.2 (decide_eq_false hc)) A)
      · cases h
    | le =>
      simp only [si_ins, si_ic] at h
      simp only [si_iok, si_tok] at hok
      split at h
      · have hh := si_brw h
        exact lv_icmp_le hx hb hd (of_decide_eq_true hok) (fun hc => hk _ _ _ _ _ _ _ (hh.1 (decide_eq_true hc)) A) (fun hc => hk _ _ _ _ _ _ _ (hh.2 (decide_eq_false hc)) A)
      · cases h
  | getfield n =>
    simp only [si_ins] at h
    split at h
    · rename_i q r ct j w3
      split at h
      · rename_i ct2 cs hsk
        split at h
        · rename_i cc he hj
          have ect : ct2 = ct := Nat.eq_of_beq_eq_true he
          subst ect
          simp only [si_iok, si_fok] at hok
          obtain ⟨C, T, hc, hty⟩ := hsh q ct2 cs hsk
          rw [hc] at hok
          simp only [Bool.and_eq_true] at hok
          obtain ⟨hin, -⟩ := hcl ct2 C T cs.length hc
          have hlt : j < cs.length := (List.getElem?_eq_some_iff.mp hj).1
          exact va_get hx hb hts hin hown hK hP q (si_P_O (H := H) hsk) hc j hlt (hts _ (si_wi_mem hok.1.2)) (fun _ h9 => h9) (by have e9 := (List.getElem?_eq_some_iff.mp hj).2; simp [hlt, e9]) hd (hk _ _ _ _ _ _ _ h A)
        · cases h
      · cases h
    · cases h
  | putfield n =>
    simp only [si_ins] at h
    split at h
    · rename_i v q r ct j w3
      split at h
      · rename_i ct2 cs hsk
        split at h
        · rename_i he hj
          have ect : ct2 = ct := Nat.eq_of_beq_eq_true he
          subst ect
          simp only [si_iok, si_fok] at hok
          obtain ⟨C, T, hc, hty⟩ := hsh q ct2 cs hsk
          rw [hc] at hok
          simp only [Bool.and_eq_true] at hok
          obtain ⟨hin, ⟨ty0, hty0⟩, hnm⟩ := hcl ct2 C T cs.length hc
          have hlt : j < cs.length := (List.getElem?_eq_some_iff.mp hj).1
          exact va_put hx hb hts hin ty0 hty0 hnm hown hK hP hD hS q (si_P_O (H := H) hsk) hc j hlt (hts _ (si_wi_mem hok.1.2)) (fun _ h9 => h9) (by simpa using hok.2) (ty := .int) (hty j _ hj) rfl rfl (by simp [hlt]) hd (fun H' locs' hP' hD' hS' => hk _ _ _ _ _ _ _ h ⟨hL, by
              rw [si_flds (τ := si_sI σ q j v) hlt (by simp [hj, si_pv, si_v, si_sI]) (fun a b hab => by unfold si_pv; split <;> simp [si_sI, hab])] at hP'
              rw [si_W_set (dA := dA) (sz := sz) (σ := σ) (τ := si_sI σ q j v) (x := .inr (ct2, List.map (fun i => si_v sz (si_pv (si_sI σ q j v) q i (cs.getD i 0))) (List.range cs.length))) hsk rfl (fun a d had => si_ce_ne (si_sI_o σ had j v).1 (si_sI_o σ had j v).2 d)] at hP'
              exact hP', hS', hl⟩)
        · rename_i he hj
          have ect : ct2 = ct := Nat.eq_of_beq_eq_true he
          subst ect
          simp only [si_iok, si_fok] at hok
          obtain ⟨C, T, hc, hty⟩ := hsh q ct2 cs hsk
          rw [hc] at hok
          simp only [Bool.and_eq_true] at hok
          obtain ⟨hin, ⟨ty0, hty0⟩, hnm⟩ := hcl ct2 C T cs.length hc
          have hlt : j < cs.length := (List.getElem?_eq_some_iff.mp hj).1
          obtain ⟨hv, h⟩ := si_ifw hk0 h
          have hv2 : v = 0 ∨ v = 1 := by simpa using hv
          exact va_put hx hb hts hin ty0 hty0 hnm hown hK hP hD hS q (si_P_O (H := H) hsk) hc j hlt (hts _ (si_wi_mem hok.1.2)) (fun _ h9 => h9) (by simpa using hok.2) (ty := .boolean) (hty j _ hj) (by rcases hv2 with rfl | rfl <;> rfl) (by rcases hv2 with rfl | rfl <;> rfl) (by simp [hlt]) hd (fun H' locs' hP' hD' hS' => hk _ _ _ _ _ _ _ h ⟨hL, by
              rw [si_flds (τ := si_sI σ q j v) hlt (by simp [hj, si_pv, si_v, si_sI]) (fun a b hab => by unfold si_pv; split <;> simp [si_sI, hab])] at hP'
              rw [si_W_set (dA := dA) (sz := sz) (σ := σ) (τ := si_sI σ q j v) (x := .inr (ct2, List.map (fun i => si_v sz (si_pv (si_sI σ q j v) q i (cs.getD i 0))) (List.range cs.length))) hsk rfl (fun a d had => si_ce_ne (si_sI_o σ had j v).1 (si_sI_o σ had j v).2 d)] at hP'
              exact hP', hS', hl⟩)
        · cases h
      · cases h
    · rename_i v q r ct j w3
      split at h
      · rename_i ct2 cs hsk
        split at h
        · rename_i he hj
          have ect : ct2 = ct := Nat.eq_of_beq_eq_true he
          subst ect
          simp only [si_iok, si_fok] at hok
          obtain ⟨C, T, hc, hty⟩ := hsh q ct2 cs hsk
          rw [hc] at hok
          simp only [Bool.and_eq_true] at hok
          obtain ⟨hin, ⟨ty0, hty0⟩, hnm⟩ := hcl ct2 C T cs.length hc
          have hlt : j < cs.length := (List.getElem?_eq_some_iff.mp hj).1
          exact va_put hx hb hts hin ty0 hty0 hnm hown hK hP hD hS q (si_P_O (H := H) hsk) hc j hlt (hts _ (si_wi_mem hok.1.2)) (fun _ h9 => h9) (by simpa using hok.2) (ty := .long) (hty j _ hj) rfl rfl (by simp [hlt]) hd (fun H' locs' hP' hD' hS' => hk _ _ _ _ _ _ _ h ⟨hL, by
              rw [si_flds (τ := si_sJ σ q j v) hlt (by simp [hj, si_pv, si_v, si_sJ]) (fun a b hab => by unfold si_pv; split <;> simp [si_sJ, hab])] at hP'
              rw [si_W_set (dA := dA) (sz := sz) (σ := σ) (τ := si_sJ σ q j v) (x := .inr (ct2, List.map (fun i => si_v sz (si_pv (si_sJ σ q j v) q i (cs.getD i 0))) (List.range cs.length))) hsk rfl (fun a d had => si_ce_ne (si_sJ_o σ had j v).1 (si_sJ_o σ had j v).2 d)] at hP'
              exact hP', hS', hl⟩)
        · cases h
      · cases h
    · cases h
  | iaload =>
    simp only [si_ins] at h
    split at h
    · split at h
      · rename_i n hsk
        obtain ⟨h1, h2⟩ := si_ifw hk0 h
        exact va_iald hx hb hK hP _ 0 (si_P_I (H := H) hsk) rfl (si_in_vp h1) hd (hk _ _ _ _ _ _ _ h2 A)
      · cases h
    · cases h
  | laload =>
    simp only [si_ins] at h
    split at h
    · split at h
      · rename_i n hsk
        obtain ⟨h1, h2⟩ := si_ifw hk0 h
        exact va_lald hx hb hK hP _ 1 (si_P_J (H := H) hsk) rfl (si_in_vp h1) hd (hk _ _ _ _ _ _ _ h2 A)
      · cases h
    · cases h
  | iastore =>
    simp only [si_ins] at h
    split at h
    · rename_i v j q r
      split at h
      · rename_i n hsk
        obtain ⟨h1, h2⟩ := si_ifw hk0 h
        exact va_iast hx hb hK hP hD hS q 0 (si_P_I (H := H) hsk) rfl (si_in_vp h1) hd (fun H' locs' hP' hD' hS' => hk _ _ _ _ _ _ _ h2 ⟨hL, by
          rw [si_W_set (τ := si_sI σ q j.toNatClampNeg v) hsk (by simp only [si_ce, si_sI_row]) (fun a d had => si_ce_ne (si_sI_o σ had _ v).1 (si_sI_o σ had _ v).2 d)] at hP'
          exact hP', hS', hl⟩)
      · cases h
    · cases h
  | lastore =>
    simp only [si_ins] at h
    split at h
    · rename_i v j q r
      split at h
      · rename_i n hsk
        obtain ⟨h1, h2⟩ := si_ifw hk0 h
        exact va_last hx hb hK hP hD hS q 1 (si_P_J (H := H) hsk) rfl (si_in_vp h1) hd (fun H' locs' hP' hD' hS' => hk _ _ _ _ _ _ _ h2 ⟨hL, by
          rw [si_W_set (τ := si_sJ σ q j.toNatClampNeg v) hsk (by simp only [si_ce, si_sJ_row]) (fun a d had => si_ce_ne (si_sJ_o σ had _ v).1 (si_sJ_o σ had _ v).2 d)] at hP'
          exact hP', hS', hl⟩)
      · cases h
    · cases h
  | arraylength =>
    simp only [si_ins] at h
    split at h
    · rename_i q r
      split at h
      · rename_i b n hsk
        cases b
        · exact va_alen hx hb hK hP q 0 (si_P_I (H := H) hsk) rfl rfl hd (hk _ _ _ _ _ _ _ h A)
        · exact va_alen hx hb hK hP q 1 (si_P_J (H := H) hsk) rfl rfl hd (hk _ _ _ _ _ _ _ h A)
      · cases h
    · cases h
  | ireturn =>
    generalize hins : si_ins ret sh _ _ xs ci cL L st σ = d at h
    have hd3 : ∃ o2, d = some (.inl o2) := by
      rw [← hins] at h ⊢
      simp only [si_ins] at h ⊢
      split at h <;> first | exact ⟨_, rfl⟩ | cases h
    obtain ⟨o2, rfl⟩ := hd3
    have h9 : some o2 = some o := h
    cases h9
    exact hend (by simp) hins
  | lreturn =>
    generalize hins : si_ins ret sh _ _ xs ci cL L st σ = d at h
    have hd3 : ∃ o2, d = some (.inl o2) := by
      rw [← hins] at h ⊢
      simp only [si_ins] at h ⊢
      split at h <;> first | exact ⟨_, rfl⟩ | cases h
    obtain ⟨o2, rfl⟩ := hd3
    have h9 : some o2 = some o := h
    cases h9
    exact hend (by simp) hins
  | return_ =>
    generalize hins : si_ins ret sh _ _ xs ci cL L st σ = d at h
    have hd3 : ∃ o2, d = some (.inl o2) := by
      rw [← hins] at h ⊢
      simp only [si_ins] at h ⊢
      split at h <;> first | exact ⟨_, rfl⟩ | cases h
    obtain ⟨o2, rfl⟩ := hd3
    have h9 : some o2 = some o := h
    cases h9
    exact hend (by simp) hins
  | invokestatic n =>
    simp only [si_iok] at hok
    generalize hins : si_ins ret sh _ _ xs ci cL L st σ = d at h
    simp only [si_ins] at hins
    split at hins
    · rename_i w1 w2 w3 w4
      split at hins
      · rename_i cnt dp k1 sp k0 r
        split at hins
        · rename_i n0 n1 h0 h1
          subst hins
          obtain ⟨ht, h2⟩ := si_ifw hk0 h
          simp only [Bool.and_eq_true, decide_eq_true_eq] at ht
          obtain ⟨⟨⟨⟨⟨t1, t2⟩, t3⟩, t4⟩, t5⟩, t6⟩ := ht
          simp only [si_cok, Bool.and_eq_true] at hok
          obtain ⟨⟨⟨⟨⟨q1, q2⟩, q3⟩, q4⟩, q5⟩, q6⟩ := hok
          have e6 : si_cat r ≤ 8 := Nat.le_of_ble_eq_true t6
          have e7 : 8 + (nativeFrameWords "java/lang/System" "arraycopy" 5 + 11) ≤ lo := Nat.le_of_ble_eq_true q6
          have e8 : ((r.map (si_v sz)).map fun v => v.category).sum = si_cat r := by
            unfold si_cat
            rw [List.map_map]
            congr 1
            apply List.map_congr_left
            intro a _
            exact si_v_cat sz a
          exact va_copyl hx hb (by rw [hml]; exact hl.1.symm) hown (hts _ (si_wi_mem q1)) (hts _ (si_wi_mem q2)) (hts _ (si_wi_mem q3)) (hts _ (si_wi_mem q4)) hK hP hD hS k0 k1 1 1 (si_P_J (H := H) h0) (si_P_J (H := H) h1) rfl rfl rfl (Int32.not_lt.mpr t1) (Int32.not_lt.mpr t2) (Int32.not_lt.mpr t3) t4 t5 (fun _ _ => rfl) (hR q5) (by rw [e8]; omega) hd (fun H' locs' hP' hD' hS' => hk _ _ _ _ _ _ _ h2 ⟨hL, by
            rw [si_W_set (τ := si_sA σ k1 (va_cpy (σ.2 k0) (σ.2 k1) sp.toNatClampNeg dp.toNatClampNeg cnt.toNatClampNeg)) h1 (by simp only [si_ce, si_sA_row]) (fun a d had => si_ce_ne (si_sA_o σ had _).1 (si_sA_o σ had _).2 d)] at hP'
            exact hP', hS', hl⟩)
        · subst hins; cases h
      · subst hins; cases h
    · rename_i c2 na rc tl hne
      split at hins
      · rename_i hb2
        subst hins
        rw [Bool.and_eq_true] at hb2
        exact hcS _ _ _ _ _ rfl rfl (fun e1 => by obtain ⟨z, rfl⟩ := List.length_eq_one_iff.mp e1; exact hne _ rfl) (Nat.le_of_ble_eq_true hb2.1) (Nat.le_of_ble_eq_true hb2.2) h
      · subst hins; cases h
    · subst hins; cases h
  | invokevirtual n =>
    simp only [si_ins] at h
    split at h
    · rename_i c2 na rc ct tl
      split at h
      · rename_i q hq
        split at h
        · rename_i ct2 cs hsk
          split at h
          · rename_i hb2
            rw [Bool.and_eq_true] at hb2
            have ect : ct2 = ct := Nat.eq_of_beq_eq_true hb2.1
            subst ect
            exact hcV _ _ _ _ _ _ _ _ rfl rfl hq hsk (Nat.le_of_ble_eq_true hb2.2) h
          · cases h
        · cases h
      · cases h
    · cases h
  | _ => cases h
end SIM
end
section
/-! CALLS AND ANSWERS: the contract of every method out of the pure machine's run -/
theorem si_zret {p : Program} {l : Launch} {e : Env} {R : Room} {s : State} {m : MethodId} {args : Array Value} {below : List Frame} {meth : Method} {c : Code} {H : Heap} {locs : List Loc} {cells slots : Nat} {cc : ByteArray} {Qc : Array Value → State → Outcome → State → Prop} {free : Addr → Prop} {v v2 : Int32} {ty : FieldType} (hexec : p.tables.exec = Jvm.exec) (hb : c.code = cc) (hr : meth.sig.returnType = some ty) (hn : narrow ty (.int v) = .int v2)
    (hq : ∀ t : State, t.heap = H → s.WarmedH t.vm → Qc args s (.returned (some (.int v2))) t) (hf : ∀ q ∈ locs, free q.base)
    {pc : Nat} {ls : Array Slot} (hdg : decode cc pc = .ok (.ireturn, 1)) (hlocks : meth.locks = false) : W p l e R s m args below meth c H locs cells slots (MQ below Qc args s cells slots free) (F0 m pc ls [.int v]) := by
  intro T hT X
  have hlocks : meth.locks = false := hlocks
  obtain ⟨fs, hret, hrun, hended, hW, hframe⟩ := X.leave (v := some (.int v2)) (fun h => by rw [hr] at h; cases h)
  have hmeth' : T.vm.method? m = some meth := X.method'
  refine ⟨T.setFrames fs, ?_, .returned (some (.int v2)), hrun, hended, hq _ hT hW, locs, ⟨⟨_, rfl⟩, hW, hframe⟩, hf⟩
  jvm_step X.here [X.here.top, hexec, hb, hdg, hmeth', hr, hn]
  (try refine ⟨rfl, ?_⟩); (try refine ⟨rfl, ?_⟩)
  first | (intro acts; rw [hret _ acts rfl rfl rfl]) | rw [hret _ _ rfl rfl rfl]
  exact Steps.refl _
theorem si_catm (sz : Nat) (r : List Value) : ((r.map (si_v sz)).map fun v => v.category).sum = si_cat r := by
  unfold si_cat
  rw [List.map_map]
  congr 1
  apply List.map_congr_left
  intro a _
  exact si_v_cat sz a
theorem si_goodw (hg : si_good) {y : MethodName} {bs : ByteArray} {mL : Nat} {ret : Option FieldType} (h : Jvm.Cond.code y bs mL ret ∈ lw_tbl) : GoodIn lw_tbl (Jvm.Cond.code y bs mL ret :: lw_tbl) := by
  intro w hw
  rcases List.mem_cons.mp hw with rfl | hw
  · exact ⟨h, hg _ h⟩
  · exact ⟨hw, hg _ hw⟩
theorem si_K_blind {D : va_G} {dA : Bool → ClassId} {cl : List vw_C} {sz : Nat} {sh : List si_kd} {as : List Value} {σ : si_M} : FrameBlind (si_Pc D dA cl sz sh as σ) := by
  intro a U g mk q
  obtain ⟨q0, q1, q2⟩ := q
  exact ⟨q0, q1, va_K.moved (u := U) (U := U.calling g mk a) (Vm.Alike.refl U.vm) q2⟩
theorem si_npw {y : MethodName} {n : Nat} (h : si_np y n = true) : y.cls ≠ "java/lang/invoke/MethodHandle" ∧ y.cls ≠ "java/lang/invoke/VarHandle" ∧ (parseMethodDescriptor y.desc).map (fun d => d.parameters.length) = some n := by
  unfold si_np at h
  rw [Bool.and_eq_true] at h
  have h1 := of_decide_eq_true h.1
  exact ⟨h1.1, h1.2, of_decide_eq_true h.2⟩
theorem si_retw {rc : Nat} {x : Option si_O} {k : List Value → si_M → Option si_O} {r : List Value} {o : si_O} (h : si_ret rc x k r = some o) : ∃ o2 : si_O, x = some o2 ∧ k (o2.1.toList ++ r) o2.2 = some o := by
  unfold si_ret at h
  split at h
  · split at h
    · exact ⟨_, rfl, h⟩
    · cases h
  · split at h
    · exact ⟨_, rfl, h⟩
    · cases h
  · split at h
    · exact ⟨_, rfl, h⟩
    · cases h
  · cases h
def si_Met (l : Launch) (D : va_G) (dA : Bool → ClassId) (cl : List vw_C) (sz : Nat) (P : si_P) (n : Nat) : Prop :=
  ∀ (m : Nat) (y : MethodName) (bs : ByteArray) (mL : Nat) (ret : Option FieldType) (fr lo : Nat) (rows : List si_row), P.1[m]? = some (y, bs, mL, ret, fr, lo, rows) → ∀ (as : List Value) (σ : si_M) (o : si_O), (si_lay as).length ≤ mL → si_run P n m 0 (si_ent mL as) [] σ = some o →
    Met l y (Jvm.Cond.code y bs mL ret :: lw_tbl) (si_rm fr lo) (si_Pc D dA cl sz P.2 as σ) (si_Qc D dA cl sz P.2 o) 0 0 (si_fr sz)
def si_call (P : si_P) (n : Nat) : Nat → List Value → si_M → Option si_O := fun c as τ => match P.1[c]? with
  | none => none
  | some (_, _, mL, _) => match Nat.ble (si_lay as).length mL with
    | true => si_run P n c 0 (si_ent mL as) [] τ
    | false => none
section MET
variable {p : Program} {l : Launch} {e : Env} {s : State} {m : MethodId} {args : Array Value} {below : List Frame} {meth : Method} {c : Code} {D : va_G} {dA : Bool → ClassId} {cl : List vw_C} {sz : Nat} {P : si_P} {R : Room} {cells slots : Nat} {Q : State → Prop} {bs : ByteArray} {own : String} {mL : Nat} {H0 : Heap} {H : Heap} {locs : List Loc} {ls : Array Slot}
set_option maxHeartbeats 4000000 in
theorem si_stat (hg : si_good) {n : Nat} (hM : si_Met l D dA cl sz P n) (X : si_Ctx p s m args c D dA cl bs own mL) {pc idx c2 na rc fr lo : Nat} {tl : List Nat} {st L : List Value} {σ : si_M} {o : si_O} {k : List Value → si_M → Option si_O} (hfr : fr ≤ R.frames) (hlo : lo ≤ R.locals) (hce : cells ≤ R.cells) (hsl : slots ≤ R.slots)
    (htl : tl.length ≠ 1) (hok : si_cok P.1 cl own fr lo idx (c2 :: na :: rc :: tl) false = true) (hna : na ≤ st.length) (hcat : si_cat (st.drop na) ≤ 8) (h : si_ret rc (si_call P n c2 (st.take na).reverse σ) k (st.drop na) = some o) (A : si_At s D dA cl sz P.2 mL H0 σ L H locs ls) (hd : decode bs pc = .ok (.invokestatic idx, 3))
    (hk : ∀ st' σ' H' locs' ls', k st' σ' = some o → si_At s D dA cl sz P.2 mL H0 σ' L H' locs' ls' → W p l e R s m args below meth c H' locs' cells slots Q (F0 m (pc + 3) ls' (st'.map (si_v sz)))) : W p l e R s m args below meth c H locs cells slots Q (F0 m pc ls (st.map (si_v sz))) := by
  obtain ⟨hx, hb, hml, hown, hts, hK⟩ := X
  obtain ⟨hL, hP, hS, hl⟩ := A
  obtain ⟨o2, h1, h2⟩ := si_retw h
  unfold si_call at h1
  unfold si_cok at hok
  split at hok
  · rename_i hw
    cases hw
    exact absurd rfl htl
  · rename_i w1 w2 w3 w4 hw
    cases hw
    split at hok
    · rename_i y bs2 mL2 ret2 fr2 lo2 rows hmt
      rw [hmt] at h1
      dsimp only at h1
      split at h1
      · rename_i hle
        simp only [Bool.and_eq_true] at hok
        obtain ⟨⟨⟨⟨⟨⟨q1, q2⟩, q3⟩, q4⟩, q5⟩, q6⟩, q7⟩ := hok
        have e6 : fr2 + 1 ≤ fr := Nat.le_of_ble_eq_true q6
        have e7 : 8 + (mL2 + 11) + lo2 ≤ lo := Nat.le_of_ble_eq_true q7
        have hMet := hM c2 y bs2 mL2 ret2 fr2 lo2 rows hmt _ _ _ (Nat.le_of_ble_eq_true hle) h1
        have hcw : Jvm.Cond.code y bs2 mL2 ret2 ∈ lw_tbl := si_wi_mem q4
        have hst : (st.map (si_v sz)) = ((st.take na).reverse.map (si_v sz)).reverse ++ (st.drop na).map (si_v sz) := by
          rw [← List.map_reverse, List.reverse_reverse, ← List.map_append, List.take_append_drop]
        have hpre : PreS s H (si_Pc D dA cl sz P.2 (st.take na).reverse σ) ((st.take na).reverse.map (si_v sz)) := ⟨si_K_blind, fun U hU hW => ⟨rfl, by rw [hU]; exact hP, va_K.moved hW.alike hK⟩⟩
        have hlen : ((st.take na).reverse.map (si_v sz)).length = na := by simp; omega
        rw [hst]
        have go : ∀ (H1 : Heap) (locs1 : List Loc), va_P D cl (si_W dA sz P.2 o2.2) H1 → va_S (fun q => sz ≤ q) H0 H1 locs1 → W p l e R s m args below meth c H1 locs1 cells slots Q (F0 m (pc + 3) ls ((o2.1.map (si_v sz)).toList ++ (st.drop na).map (si_v sz))) := by
          intro H1 locs1 hP1 hS1
          have hh := hk _ _ H1 locs1 ls h2 ⟨hL, hP1, hS1, hl⟩
          rw [List.map_append] at hh
          cases h9 : o2.1 with
          | none => rw [h9] at hh; exact hh
          | some v => rw [h9] at hh; exact hh
        rcases si_lk_mem q1 with hlk | ⟨host, hlk⟩
        · refine si_goes (va_runS ⟨hx, hb, hml, hown, hts⟩ hMet ⟨callB_of na hts (si_goodw hg hcw) rfl rfl rfl (hts _ (si_wi_mem q3)) (hts _ hlk) (si_npw q5) ⟨?_, ?_⟩, hts _ (si_wi_mem q2)⟩ hpre rfl hlen hl.1 rfl ?_ hd ⟨hce, hsl⟩) hS go
          · exact Nat.le_trans e6 hfr
          · exact Nat.le_trans e7 hlo
          · exact lv_room (m := m) (pc := pc) (ls := ls) (rest := []) (by rw [si_catm]; exact hcat)
        · refine si_goes (va_runSN (host := host) ⟨hx, hb, hml, hown, hts⟩ hMet ⟨va_cnB na hts (si_goodw hg hcw) rfl rfl rfl ?_ (hts _ (si_wi_mem q3)) (si_npw q5) ⟨?_, ?_⟩, hts _ (si_wi_mem q2), trivial⟩ hpre rfl hlen hl.1 rfl ?_ hd ⟨hce, hsl⟩) hS go
          · exact word_at (State.WarmedH.refl s) (hg _ hlk) (hts _ hlk)
          · exact Nat.le_trans e6 hfr
          · exact Nat.le_trans e7 hlo
          · exact lv_room (m := m) (pc := pc) (ls := ls) (rest := []) (by rw [si_catm]; exact hcat)
      · cases h1
    · cases hok
  · exact absurd ‹false = true› (by decide)
  · cases hok
set_option maxHeartbeats 4000000 in
theorem si_virt (hg : si_good) {n : Nat} (hM : si_Met l D dA cl sz P n) (X : si_Ctx p s m args c D dA cl bs own mL) {pc idx c2 na rc ct q fr lo : Nat} {tl cs : List Nat} {st L : List Value} {σ : si_M} {o : si_O} {k : List Value → si_M → Option si_O} (hfr : fr ≤ R.frames) (hlo : lo ≤ R.locals) (hce : cells ≤ R.cells) (hsl : slots ≤ R.slots)
    (hok : si_cok P.1 cl own fr lo idx (c2 :: na :: rc :: ct :: tl) true = true) (hna : st[na]? = some (.ref q)) (hsk : P.2[q]? = some (.inl (ct, cs))) (hcat : si_cat (st.drop (na + 1)) ≤ 8) (h : si_ret rc (si_call P n c2 (.ref q :: (st.take na).reverse) σ) k (st.drop (na + 1)) = some o) (A : si_At s D dA cl sz P.2 mL H0 σ L H locs ls) (hd : decode bs pc = .ok (.invokevirtual idx, 3))
    (hk : ∀ st' σ' H' locs' ls', k st' σ' = some o → si_At s D dA cl sz P.2 mL H0 σ' L H' locs' ls' → W p l e R s m args below meth c H' locs' cells slots Q (F0 m (pc + 3) ls' (st'.map (si_v sz)))) : W p l e R s m args below meth c H locs cells slots Q (F0 m pc ls (st.map (si_v sz))) := by
  obtain ⟨hx, hb, hml, hown, hts, hK⟩ := X
  obtain ⟨hL, hP, hS, hl⟩ := A
  obtain ⟨o2, h1, h2⟩ := si_retw h
  unfold si_call at h1
  unfold si_cok at hok
  split at hok
  · exact absurd ‹true = false› (by decide)
  · exact absurd ‹true = false› (by decide)
  · rename_i w1 w2 w3 w4 w5 hw
    cases hw
    split at hok
    · rename_i y bs2 mL2 ret2 fr2 lo2 rows C T N hmt hct
      rw [hmt] at h1
      dsimp only at h1
      split at h1
      · rename_i hle
        simp only [Bool.and_eq_true] at hok
        obtain ⟨⟨⟨⟨⟨⟨⟨⟨q0, q1⟩, q2⟩, q3⟩, q4⟩, q5⟩, q6⟩, q7⟩, q8⟩ := hok
        have e0 : y.cls = C := of_decide_eq_true q0
        have e7 : fr2 + 1 ≤ fr := Nat.le_of_ble_eq_true q7
        have e8 : 8 + (mL2 + 11) + lo2 ≤ lo := Nat.le_of_ble_eq_true q8
        have hMet := hM c2 y bs2 mL2 ret2 fr2 lo2 rows hmt _ _ _ (Nat.le_of_ble_eq_true hle) h1
        have hcw : Jvm.Cond.code y bs2 mL2 ret2 ∈ lw_tbl := si_wi_mem q4
        have hnl : na < st.length := (List.getElem?_eq_some_iff.mp hna).1
        have hst : (st.map (si_v sz)) = ((st.take na).reverse.map (si_v sz)).reverse ++ .ref (sz + q) :: (st.drop (na + 1)).map (si_v sz) := by
          have e1 : st = st.take na ++ (.ref q :: st.drop (na + 1)) := by
            have e2 : st.drop na = .ref q :: st.drop (na + 1) := by
              rw [List.drop_eq_getElem_cons hnl]
              rw [(List.getElem?_eq_some_iff.mp hna).2]
            rw [← e2, List.take_append_drop]
          rw [← List.map_reverse, List.reverse_reverse]
          conv => lhs; rw [e1]
          rw [List.map_append]
          rfl
        have hpre : PreV s H y.cls (sz + q) (si_Pc D dA cl sz P.2 (.ref q :: (st.take na).reverse) σ) ((st.take na).reverse.map (si_v sz)) := ⟨si_K_blind, by rw [e0]; exact va_recv hK hP hct (si_W_at hsk), fun U hU hW => ⟨rfl, by rw [hU]; exact hP, va_K.moved hW.alike hK⟩⟩
        have hlen : ((st.take na).reverse.map (si_v sz)).length = na := by simp; omega
        rw [hst]
        have go : ∀ (H1 : Heap) (locs1 : List Loc), va_P D cl (si_W dA sz P.2 o2.2) H1 → va_S (fun q => sz ≤ q) H0 H1 locs1 → W p l e R s m args below meth c H1 locs1 cells slots Q (F0 m (pc + 3) ls ((o2.1.map (si_v sz)).toList ++ (st.drop (na + 1)).map (si_v sz))) := by
          intro H1 locs1 hP1 hS1
          have hh := hk _ _ H1 locs1 ls h2 ⟨hL, hP1, hS1, hl⟩
          rw [List.map_append] at hh
          cases h9 : o2.1 with
          | none => rw [h9] at hh; exact hh
          | some v => rw [h9] at hh; exact hh
        refine si_goes (va_runV ⟨hx, hb, hml, hown, hts⟩ hMet ⟨callB_of na hts (si_goodw hg hcw) rfl rfl rfl (hts _ (si_wi_mem q3)) (hts _ (si_wi_mem q1)) (si_npw q6) ⟨?_, ?_⟩, hts _ (si_wi_mem q2), hts _ (si_wi_mem q5)⟩ hpre rfl hlen hl.1 rfl ?_ hd ⟨hce, hsl⟩) hS go
        · exact Nat.le_trans e7 hfr
        · exact Nat.le_trans e8 hlo
        · exact lv_room (m := m) (pc := pc) (ls := ls) (rest := []) (by rw [si_catm]; exact hcat)
      · cases h1
    · cases hok
  · cases hok
end MET
/-- what stands at a place that no row has -/
theorem si_get_row {rows : List si_row} {pc : Nat} {r : si_row} (h : si_get rows pc = some r) : r ∈ rows ∧ r.1 = pc := by
  induction rows with
  | nil => cases h
  | cons a rs ih =>
    unfold si_get at h
    split at h
    · rename_i hb
      cases h
      exact ⟨List.mem_cons_self, Nat.eq_of_beq_eq_true hb⟩
    · exact ⟨List.mem_cons_of_mem _ (ih h).1, (ih h).2⟩
theorem si_lg_lay (vs : List Value) (sz : Nat) : (lg_sl (vs.map (si_v sz))).length = (lg_sl vs).length := by
  induction vs with
  | nil => rfl
  | cons v vs ih =>
    have e : ∀ (w : Value) (ws : List Value), lg_sl (w :: ws) = (if w.category = 2 then [.val w, .second] else [.val w]) ++ lg_sl ws := fun w ws => by simp [lg_sl]
    rw [List.map_cons, e, e, List.length_append, List.length_append, ih, si_v_cat]
    split <;> rfl
theorem si_lay_len {vs : List Value} : (si_lay vs).length = (lg_sl vs).length := by
  induction vs with
  | nil => rfl
  | cons v vs ih =>
    have e : lg_sl (v :: vs) = (if v.category = 2 then [.val v, .second] else [.val v]) ++ lg_sl vs := by simp [lg_sl]
    rw [e]
    cases v <;> simp_all [si_lay, Value.category] <;> omega
theorem si_ent_as {sz n : Nat} {vs : List Value} : ∀ q ∈ si_as sz 0 (si_ent n vs), q ∈ lv_args 0 (vs.map (si_v sz)) := by
  have rep : ∀ (r i : Nat), si_as sz i (List.replicate r si_U) = [] := by
    intro r
    induction r with
    | zero => intro i; rfl
    | succ r ih => intro i; rw [List.replicate_succ]; simp only [si_as]; exact ih _
  have gen : ∀ (vs : List Value) (r i : Nat), ∀ q ∈ si_as sz i (si_lay vs ++ List.replicate r si_U), q ∈ lv_args i (vs.map (si_v sz)) := by
    intro vs
    induction vs with
    | nil =>
      intro r i q hq
      simp only [si_lay, List.nil_append] at hq
      rw [rep] at hq
      cases hq
    | cons v vs ih =>
      intro r i q hq
      cases v with
      | double x =>
        simp only [si_lay, List.cons_append, si_as] at hq
        rcases List.mem_cons.mp hq with h1 | h1
        · rw [h1]; simp [lv_args]
        · simp only [List.map_cons, lv_args]
          refine List.mem_cons_of_mem _ ?_
          exact ih r (i + 1 + 1) q h1
      | long x =>
        simp only [si_lay, List.cons_append, si_as] at hq
        rcases List.mem_cons.mp hq with h1 | h1
        · rw [h1]; simp [lv_args]
        · simp only [List.map_cons, lv_args]
          refine List.mem_cons_of_mem _ ?_
          exact ih r (i + 1 + 1) q h1
      | retAddr x =>
        simp only [si_lay, List.cons_append, si_as] at hq
        simp only [List.map_cons, lv_args]
        exact List.mem_cons_of_mem _ (ih r (i + 1) q hq)
      | _ =>
        simp only [si_lay, List.cons_append, si_as] at hq
        rcases List.mem_cons.mp hq with h1 | h1
        · rw [h1]; simp [lv_args]
        · simp only [List.map_cons, lv_args]
          refine List.mem_cons_of_mem _ ?_
          exact ih r (i + 1) q h1
  exact gen vs _ 0
theorem si_run_eq (P : si_P) (n m pc : Nat) (L st : List Value) (σ : si_M) : si_run P (n + 1) m pc L st σ = match P.1[m]? with
    | none => none
    | some (_, _, _, ret, _, _, rows) => si_drv (si_call P n) (fun p L st τ => si_run P n m p L st τ) (si_pre ret P.2 rows pc L st σ) := rfl
/-- all that the theorem asks of a program -/
def si_ok (P : si_P) (cl : List vw_C) : Prop := (∀ mi ∈ P.1, si_mok P.1 cl mi = true ∧ si_get mi.2.2.2.2.2.2 65535 = none) ∧ si_clok cl ∧ si_shok cl P.2 ∧ si_good
theorem si_no {P : si_P} {cl : List vw_C} (hP : si_ok P cl) (n m : Nat) (L st : List Value) (σ : si_M) : si_run P n m 65535 L st σ = none := by
  cases n with
  | zero => rfl
  | succ n =>
    rw [si_run_eq]
    split
    · rfl
    · rename_i y bs mL ret fr lo rows hm
      have h := (hP.1 _ (List.mem_of_getElem? hm)).2
      dsimp only at h
      unfold si_pre
      rw [h]
      rfl
/-- at an answer -/
theorem si_end {p : Program} {l : Launch} {e : Env} {s : State} {m : MethodId} {args : Array Value} {below : List Frame} {meth : Method} {c : Code} {D : va_G} {dA : Bool → ClassId} {cl : List vw_C} {sz : Nat} {sh : List si_kd} {R : Room} {bs : ByteArray} {own : String} {mL : Nat} {H : Heap} {locs : List Loc} {ls : Array Slot} {ret : Option FieldType} {pc len : Nat} {i : Instr} {xs : List Nat} {ci : Int32} {cL : Int64} {L st : List Value} {σ : si_M} {o : si_O}
    (X : si_Ctx p s m args c D dA cl bs own mL) (hr : meth.sig.returnType = ret) (hlocks : meth.locks = false) (A : si_At s D dA cl sz sh mL s.heap σ L H locs ls) (hd : decode bs pc = .ok (i, len)) (hlen : len = si_len i) (hi : i = .ireturn ∨ i = .lreturn ∨ i = .return_) (h : si_ins ret sh (pc + len) i xs ci cL L st σ = some (.inl o)) :
    W p l e R s m args below meth c H locs 0 0 (MQ below (si_Qc D dA cl sz sh o) args s 0 0 (si_fr sz)) (F0 m pc ls (st.map (si_v sz))) := by
  obtain ⟨hx, hb, hml, hown, hts, hK⟩ := X
  obtain ⟨hL, hP, hS, hl⟩ := A
  subst hlen
  rcases hi with rfl | rfl | rfl
  · simp only [si_ins] at h
    split at h
    · cases h
      exact W.iret hx hb hr (fun t ht hW => ⟨rfl, by rw [ht]; exact hP, hS.F ht⟩) hS.2.2 hd hlocks
    · cases h
      exact si_zret hx hb hr rfl (fun t ht hW => ⟨rfl, by rw [ht]; exact hP, hS.F ht⟩) hS.2.2 hd hlocks
    · cases h
  · simp only [si_ins] at h
    split at h
    · cases h
      exact W.lret hx hb hr (fun t ht hW => ⟨rfl, by rw [ht]; exact hP, hS.F ht⟩) hS.2.2 hd hlocks
    · cases h
  · simp only [si_ins] at h
    split at h
    · cases h
      exact W.vret hx hb hr (fun t ht hW => ⟨rfl, by rw [ht]; exact hP, hS.F ht⟩) hS.2.2 hd hlocks
    · cases h
set_option maxHeartbeats 4000000 in
/-- THE THEOREM: what the pure machine does in n steps, the real one does -/
theorem si_sim {P : si_P} {cl : List vw_C} (hP : si_ok P cl) (l : Launch) (D : va_G) (dA : Bool → ClassId) (sz : Nat) : ∀ n, si_Met l D dA cl sz P n := by
  have body : ∀ n, (∀ n', n' < n → si_Met l D dA cl sz P n') → ∀ (m : Nat) (y : MethodName) (bs : ByteArray) (mL : Nat) (ret : Option FieldType) (fr lo : Nat) (rows : List si_row), P.1[m]? = some (y, bs, mL, ret, fr, lo, rows) →
      ∀ (p : Program) (e : Env) (s : State) (mid : MethodId) (args : Array Value) (below : List Frame) (meth : Method) (c : Code), si_Ctx p s mid args c D dA cl bs y.cls mL → meth.sig.returnType = ret → meth.locks = false →
      ∀ (pc : Nat) (L st : List Value) (σ : si_M) (o : si_O) (H : Heap) (locs : List Loc) (ls : Array Slot), si_run P n m pc L st σ = some o → si_At s D dA cl sz P.2 mL s.heap σ L H locs ls →
      W p l e (si_rm fr lo) s mid args below meth c H locs 0 0 (MQ below (si_Qc D dA cl sz P.2 o) args s 0 0 (si_fr sz)) (F0 mid pc ls (st.map (si_v sz))) := by
    intro n
    induction n with
    | zero =>
      intro hM m y bs mL ret fr lo rows hm p e s mid args below meth c X hr hlocks pc L st σ o H locs ls h
      cases h
    | succ n ih =>
      intro hM m y bs mL ret fr lo rows hm p e s mid args below meth c X hr hlocks pc L st σ o H locs ls h A
      have hMn := hM n (Nat.lt_succ_self n)
      have ihn := ih (fun n' hn' => hM n' (Nat.lt_succ_of_lt hn')) m y bs mL ret fr lo rows hm p e s mid args below meth c X hr hlocks
      rw [si_run_eq, hm] at h
      dsimp only at h
      unfold si_pre at h
      split at h
      · cases h
      · rename_i pc2 i len xs ci cL dead hrow
        obtain ⟨hmem, hpc⟩ := si_get_row hrow
        dsimp only at hpc
        subst hpc
        have hmok := (hP.1 _ (List.mem_of_getElem? hm)).1
        simp only [si_mok, Bool.and_eq_true] at hmok
        have hrok := List.all_eq_true.mp hmok.2 _ hmem
        simp only [si_rok, Bool.and_eq_true] at hrok
        obtain ⟨⟨hd0, hlen0⟩, hok⟩ := hrok
        have hd := of_decide_eq_true hd0
        have hlen := Nat.eq_of_beq_eq_true hlen0
        obtain ⟨hL, hPw, hS, hl⟩ := A
        have A' : si_At s D dA cl sz P.2 mL s.heap σ (si_clr L dead) H locs ls := ⟨by rw [si_clr_len]; exact hL, hPw, hS, si_L_clr hl dead⟩
        refine si_step (mt := P.1) (fr := fr) (lo := lo) (R := si_rm fr lo) hP.2.1 hP.2.2.1 X (fun h => Nat.le_of_ble_eq_true h) (Nat.le_refl _) (si_no hP n m) (fun pc' L' st' σ' H' locs' ls' hk A' => ihn pc' L' st' σ' o H' locs' ls' hk A') ?_ ?_ ?_ hd hlen hok A' h
        · intro idx c' na rc tl hi hxs htl hna hcat hret
          subst hi; subst hxs
          exact si_stat hP.2.2.2 hMn X (Nat.le_refl _) (Nat.le_refl _) (Nat.zero_le _) (Nat.zero_le _) htl hok hna hcat hret A' (by rw [hd, hlen]; rfl) (fun st' σ' H' locs' ls' hk A' => ihn _ _ _ _ o H' locs' ls' hk A')
        · intro idx c' na rc ct tl q cs hi hxs hna hsk hcat hret
          subst hi; subst hxs
          exact si_virt hP.2.2.2 hMn X (Nat.le_refl _) (Nat.le_refl _) (Nat.zero_le _) (Nat.zero_le _) hok hna hsk hcat hret A' (by rw [hd, hlen]; rfl) (fun st' σ' H' locs' ls' hk A' => ihn _ _ _ _ o H' locs' ls' hk A')
        · intro hi ho
          exact si_end X hr hlocks A' hd hlen hi ho
  intro n
  induction n using Nat.strongRecOn with
  | _ n ihM =>
    intro m y bs mL ret fr lo rows hm as σ o hle h
    have hmok := (hP.1 _ (List.mem_of_getElem? hm)).1
    simp only [si_mok, Bool.and_eq_true] at hmok
    refine Met.ofW (cc := bs) (maxL := mL) (ret := ret) hmok.1 rfl ?_
    intro p e s mid args below meth c s₁ B hml hv
    obtain ⟨rfl, hPw, hK⟩ := hv
    have hts := atoms_spec (ws := Jvm.Cond.code y bs mL ret :: lw_tbl) B.pre
    have X : si_Ctx p s mid (as.map (si_v sz)).toArray c D dA cl bs y.cls mL := ⟨B.exec, B.bytes, hml, findClass_of_methodNamed B.named, fun w hw => hts w (List.mem_cons_of_mem _ hw), hK⟩
    have hln : (lg_sl (as.map (si_v sz))).length ≤ mL := by rw [si_lg_lay, ← si_lay_len]; exact hle
    have hl := lv_entry (as.map (si_v sz)) (n := mL) hln
    rw [lg_entry_eq]
    generalize (lg_sl (as.map (si_v sz)) ++ List.replicate (mL - (lg_sl (as.map (si_v sz))).length) Slot.unset).toArray = ls at hl ⊢
    exact body n ihM m y bs mL ret fr lo rows hm p e s mid _ below meth c X B.returns B.notSynchronized 0 (si_ent mL as) [] σ o s.heap [] ls h ⟨by simp only [si_ent, List.length_append, List.length_replicate]; omega, hPw, va_S.rf, lv_has.less hl si_ent_as⟩
end
