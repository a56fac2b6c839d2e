section
-- ===== PART A: goes FIRST, ahead of the names: the tables' words, and 'selects' of the private methods out of them =====
/-- a private method of a class that the tables say can be made, by its rows of tables_1 -/
def lw_okq (q : MethodName × Nat) : Prop := (q.1.cls ≠ "java/lang/invoke/MethodHandle" ∧ q.1.cls ≠ "java/lang/invoke/VarHandle") ∧ Cond.instantiable q.1.cls q.2 ∈ tables_1 ∧ Cond.privateMethod q.1 ∈ tables_1 ∧ Cond.instanceMethod q.1 ∈ tables_1
theorem lw_p0 : lw_okq (⟨"GrammarReshaper$Grammar", "placeOf", "(J)I"⟩, 3) := ⟨⟨by decide +kernel, by decide +kernel⟩, List.mem_of_getElem? (i := 39) (by decide +kernel), List.mem_of_getElem? (i := 242) (by decide +kernel), List.mem_of_getElem? (i := 243) (by decide +kernel)⟩
theorem lw_p1 : lw_okq (⟨"GrammarReshaper$Parser", "addEnds", "(J)Z"⟩, 8) := ⟨⟨by decide +kernel, by decide +kernel⟩, List.mem_of_getElem? (i := 82) (by decide +kernel), List.mem_of_getElem? (i := 300) (by decide +kernel), List.mem_of_getElem? (i := 301) (by decide +kernel)⟩
theorem lw_p2 : lw_okq (⟨"GrammarReshaper$Parser", "endsOf", "(JI)I"⟩, 8) := ⟨⟨by decide +kernel, by decide +kernel⟩, List.mem_of_getElem? (i := 82) (by decide +kernel), List.mem_of_getElem? (i := 307) (by decide +kernel), List.mem_of_getElem? (i := 308) (by decide +kernel)⟩
theorem lw_p3 : lw_okq (⟨"GrammarReshaper$Parser", "endsFrom", "(II)I"⟩, 8) := ⟨⟨by decide +kernel, by decide +kernel⟩, List.mem_of_getElem? (i := 82) (by decide +kernel), List.mem_of_getElem? (i := 315) (by decide +kernel), List.mem_of_getElem? (i := 316) (by decide +kernel)⟩
theorem lw_p4 : lw_okq (⟨"GrammarReshaper$Parser", "stands", "(II)Z"⟩, 8) := ⟨⟨by decide +kernel, by decide +kernel⟩, List.mem_of_getElem? (i := 82) (by decide +kernel), List.mem_of_getElem? (i := 320) (by decide +kernel), List.mem_of_getElem? (i := 321) (by decide +kernel)⟩
theorem lw_p5 : lw_okq (⟨"GrammarReshaper", "isEndless", "()Z"⟩, 9) := ⟨⟨by decide +kernel, by decide +kernel⟩, List.mem_of_getElem? (i := 17) (by decide +kernel), List.mem_of_getElem? (i := 332) (by decide +kernel), List.mem_of_getElem? (i := 333) (by decide +kernel)⟩
theorem lw_p6 : lw_okq (⟨"GrammarReshaper$Arrows", "close", "()V"⟩, 1) := ⟨⟨by decide +kernel, by decide +kernel⟩, List.mem_of_getElem? (i := 56) (by decide +kernel), List.mem_of_getElem? (i := 357) (by decide +kernel), List.mem_of_getElem? (i := 358) (by decide +kernel)⟩
theorem lw_p7 : lw_okq (⟨"GrammarReshaper$Parser", "countPlain", "(LGrammarReshaper$Grammar;II)V"⟩, 8) := ⟨⟨by decide +kernel, by decide +kernel⟩, List.mem_of_getElem? (i := 82) (by decide +kernel), List.mem_of_getElem? (i := 381) (by decide +kernel), List.mem_of_getElem? (i := 382) (by decide +kernel)⟩
theorem lw_p8 : lw_okq (⟨"GrammarReshaper$Parser", "waysThrough", "(JII)J"⟩, 8) := ⟨⟨by decide +kernel, by decide +kernel⟩, List.mem_of_getElem? (i := 82) (by decide +kernel), List.mem_of_getElem? (i := 386) (by decide +kernel), List.mem_of_getElem? (i := 387) (by decide +kernel)⟩
theorem lw_p9 : lw_okq (⟨"GrammarReshaper$Parser", "takeSymbol", "(III)V"⟩, 8) := ⟨⟨by decide +kernel, by decide +kernel⟩, List.mem_of_getElem? (i := 82) (by decide +kernel), List.mem_of_getElem? (i := 390) (by decide +kernel), List.mem_of_getElem? (i := 391) (by decide +kernel)⟩
theorem lw_p10 : lw_okq (⟨"GrammarReshaper$Parser", "treesOfSymbol", "(III)J"⟩, 8) := ⟨⟨by decide +kernel, by decide +kernel⟩, List.mem_of_getElem? (i := 82) (by decide +kernel), List.mem_of_getElem? (i := 394) (by decide +kernel), List.mem_of_getElem? (i := 395) (by decide +kernel)⟩
theorem lw_p11 : lw_okq (⟨"GrammarReshaper$Parser", "treesAt", "(III)J"⟩, 8) := ⟨⟨by decide +kernel, by decide +kernel⟩, List.mem_of_getElem? (i := 82) (by decide +kernel), List.mem_of_getElem? (i := 398) (by decide +kernel), List.mem_of_getElem? (i := 399) (by decide +kernel)⟩
theorem lw_p12 : lw_okq (⟨"GrammarReshaper$Parser", "spreadUnits", "(LGrammarReshaper$Grammar;)V"⟩, 8) := ⟨⟨by decide +kernel, by decide +kernel⟩, List.mem_of_getElem? (i := 82) (by decide +kernel), List.mem_of_getElem? (i := 403) (by decide +kernel), List.mem_of_getElem? (i := 404) (by decide +kernel)⟩
theorem lw_p13 : lw_okq (⟨"GrammarReshaper$Parser", "keepTotals", "(II)V"⟩, 8) := ⟨⟨by decide +kernel, by decide +kernel⟩, List.mem_of_getElem? (i := 82) (by decide +kernel), List.mem_of_getElem? (i := 407) (by decide +kernel), List.mem_of_getElem? (i := 408) (by decide +kernel)⟩
theorem lw_p14 : lw_okq (⟨"GrammarReshaper$Grammar", "derivable", "(I)I"⟩, 3) := ⟨⟨by decide +kernel, by decide +kernel⟩, List.mem_of_getElem? (i := 39) (by decide +kernel), List.mem_of_getElem? (i := 435) (by decide +kernel), List.mem_of_getElem? (i := 436) (by decide +kernel)⟩
theorem lw_p15 : lw_okq (⟨"GrammarReshaper$Analysis", "findFirsts", "(LGrammarReshaper$Grammar;)V"⟩, 3) := ⟨⟨by decide +kernel, by decide +kernel⟩, List.mem_of_getElem? (i := 66) (by decide +kernel), List.mem_of_getElem? (i := 492) (by decide +kernel), List.mem_of_getElem? (i := 493) (by decide +kernel)⟩
def lw_privs_1 : List (MethodName × Nat) := [(⟨"GrammarReshaper$Grammar", "placeOf", "(J)I"⟩, 3), (⟨"GrammarReshaper$Parser", "addEnds", "(J)Z"⟩, 8), (⟨"GrammarReshaper$Parser", "endsOf", "(JI)I"⟩, 8), (⟨"GrammarReshaper$Parser", "endsFrom", "(II)I"⟩, 8), (⟨"GrammarReshaper$Parser", "stands", "(II)Z"⟩, 8), (⟨"GrammarReshaper", "isEndless", "()Z"⟩, 9), (⟨"GrammarReshaper$Arrows", "close", "()V"⟩, 1), (⟨"GrammarReshaper$Parser", "countPlain", "(LGrammarReshaper$Grammar;II)V"⟩, 8), (⟨"GrammarReshaper$Parser", "waysThrough", "(JII)J"⟩, 8), (⟨"GrammarReshaper$Parser", "takeSymbol", "(III)V"⟩, 8), (⟨"GrammarReshaper$Parser", "treesOfSymbol", "(III)J"⟩, 8), (⟨"GrammarReshaper$Parser", "treesAt", "(III)J"⟩, 8), (⟨"GrammarReshaper$Parser", "spreadUnits", "(LGrammarReshaper$Grammar;)V"⟩, 8), (⟨"GrammarReshaper$Parser", "keepTotals", "(II)V"⟩, 8), (⟨"GrammarReshaper$Grammar", "derivable", "(I)I"⟩, 3), (⟨"GrammarReshaper$Analysis", "findFirsts", "(LGrammarReshaper$Grammar;)V"⟩, 3)]
theorem lw_r1 : ∀ q ∈ lw_privs_1, lw_okq q := List.forall_mem_cons.mpr ⟨lw_p0, List.forall_mem_cons.mpr ⟨lw_p1, List.forall_mem_cons.mpr ⟨lw_p2, List.forall_mem_cons.mpr ⟨lw_p3, List.forall_mem_cons.mpr ⟨lw_p4, List.forall_mem_cons.mpr ⟨lw_p5, List.forall_mem_cons.mpr ⟨lw_p6, List.forall_mem_cons.mpr ⟨lw_p7, List.forall_mem_cons.mpr ⟨lw_p8, List.forall_mem_cons.mpr ⟨lw_p9, List.forall_mem_cons.mpr ⟨lw_p10, List.forall_mem_cons.mpr ⟨lw_p11, List.forall_mem_cons.mpr ⟨lw_p12, List.forall_mem_cons.mpr ⟨lw_p13, List.forall_mem_cons.mpr ⟨lw_p14, List.forall_mem_cons.mpr ⟨lw_p15, fun _ h => absurd h List.not_mem_nil⟩⟩⟩⟩⟩⟩⟩⟩⟩⟩⟩⟩⟩⟩⟩⟩
theorem lw_p16 : lw_okq (⟨"GrammarReshaper$Analysis", "beginnings", "(JI)I"⟩, 3) := ⟨⟨by decide +kernel, by decide +kernel⟩, List.mem_of_getElem? (i := 66) (by decide +kernel), List.mem_of_getElem? (i := 500) (by decide +kernel), List.mem_of_getElem? (i := 501) (by decide +kernel)⟩
theorem lw_p17 : lw_okq (⟨"GrammarReshaper$Analysis", "findFollows", "(LGrammarReshaper$Grammar;)V"⟩, 3) := ⟨⟨by decide +kernel, by decide +kernel⟩, List.mem_of_getElem? (i := 66) (by decide +kernel), List.mem_of_getElem? (i := 512) (by decide +kernel), List.mem_of_getElem? (i := 513) (by decide +kernel)⟩
theorem lw_p18 : lw_okq (⟨"GrammarReshaper$Analysis", "passFollows", "(J)Z"⟩, 3) := ⟨⟨by decide +kernel, by decide +kernel⟩, List.mem_of_getElem? (i := 66) (by decide +kernel), List.mem_of_getElem? (i := 516) (by decide +kernel), List.mem_of_getElem? (i := 517) (by decide +kernel)⟩
theorem lw_p19 : lw_okq (⟨"GrammarReshaper$Analysis", "comingAfter", "(JI)I"⟩, 3) := ⟨⟨by decide +kernel, by decide +kernel⟩, List.mem_of_getElem? (i := 66) (by decide +kernel), List.mem_of_getElem? (i := 520) (by decide +kernel), List.mem_of_getElem? (i := 521) (by decide +kernel)⟩
theorem lw_p20 : lw_okq (⟨"GrammarReshaper$Transformer", "beginStep", "()V"⟩, 2) := ⟨⟨by decide +kernel, by decide +kernel⟩, List.mem_of_getElem? (i := 138) (by decide +kernel), List.mem_of_getElem? (i := 580) (by decide +kernel), List.mem_of_getElem? (i := 581) (by decide +kernel)⟩
theorem lw_p21 : lw_okq (⟨"GrammarReshaper$Transformer", "addThinned", "(JI)V"⟩, 2) := ⟨⟨by decide +kernel, by decide +kernel⟩, List.mem_of_getElem? (i := 138) (by decide +kernel), List.mem_of_getElem? (i := 611) (by decide +kernel), List.mem_of_getElem? (i := 612) (by decide +kernel)⟩
theorem lw_p22 : lw_okq (⟨"GrammarReshaper$Transformer", "addLent", "(II)V"⟩, 2) := ⟨⟨by decide +kernel, by decide +kernel⟩, List.mem_of_getElem? (i := 138) (by decide +kernel), List.mem_of_getElem? (i := 638) (by decide +kernel), List.mem_of_getElem? (i := 639) (by decide +kernel)⟩
theorem lw_p23 : lw_okq (⟨"GrammarReshaper$Transformer", "occursInLong", "(II)Z"⟩, 2) := ⟨⟨by decide +kernel, by decide +kernel⟩, List.mem_of_getElem? (i := 138) (by decide +kernel), List.mem_of_getElem? (i := 657) (by decide +kernel), List.mem_of_getElem? (i := 658) (by decide +kernel)⟩
theorem lw_p24 : lw_okq (⟨"GrammarReshaper$Transformer", "nameTerminal", "(II)V"⟩, 2) := ⟨⟨by decide +kernel, by decide +kernel⟩, List.mem_of_getElem? (i := 138) (by decide +kernel), List.mem_of_getElem? (i := 661) (by decide +kernel), List.mem_of_getElem? (i := 662) (by decide +kernel)⟩
theorem lw_p25 : lw_okq (⟨"GrammarReshaper$Transformer", "firstLong", "()J"⟩, 2) := ⟨⟨by decide +kernel, by decide +kernel⟩, List.mem_of_getElem? (i := 138) (by decide +kernel), List.mem_of_getElem? (i := 687) (by decide +kernel), List.mem_of_getElem? (i := 688) (by decide +kernel)⟩
theorem lw_p26 : lw_okq (⟨"GrammarReshaper$Transformer", "split", "(J)V"⟩, 2) := ⟨⟨by decide +kernel, by decide +kernel⟩, List.mem_of_getElem? (i := 138) (by decide +kernel), List.mem_of_getElem? (i := 692) (by decide +kernel), List.mem_of_getElem? (i := 693) (by decide +kernel)⟩
theorem lw_p27 : lw_okq (⟨"GrammarReshaper$Transformer", "treatLeft", "(II)V"⟩, 2) := ⟨⟨by decide +kernel, by decide +kernel⟩, List.mem_of_getElem? (i := 138) (by decide +kernel), List.mem_of_getElem? (i := 710) (by decide +kernel), List.mem_of_getElem? (i := 711) (by decide +kernel)⟩
theorem lw_p28 : lw_okq (⟨"GrammarReshaper$Transformer", "expandAll", "(II)V"⟩, 2) := ⟨⟨by decide +kernel, by decide +kernel⟩, List.mem_of_getElem? (i := 138) (by decide +kernel), List.mem_of_getElem? (i := 714) (by decide +kernel), List.mem_of_getElem? (i := 715) (by decide +kernel)⟩
theorem lw_p29 : lw_okq (⟨"GrammarReshaper$Transformer", "addExpansions", "(J)V"⟩, 2) := ⟨⟨by decide +kernel, by decide +kernel⟩, List.mem_of_getElem? (i := 138) (by decide +kernel), List.mem_of_getElem? (i := 721) (by decide +kernel), List.mem_of_getElem? (i := 722) (by decide +kernel)⟩
theorem lw_p30 : lw_okq (⟨"GrammarReshaper$Transformer", "turnRecursion", "(I)V"⟩, 2) := ⟨⟨by decide +kernel, by decide +kernel⟩, List.mem_of_getElem? (i := 138) (by decide +kernel), List.mem_of_getElem? (i := 725) (by decide +kernel), List.mem_of_getElem? (i := 726) (by decide +kernel)⟩
theorem lw_p31 : lw_okq (⟨"GrammarReshaper$Transformer", "isRecursive", "(I)Z"⟩, 2) := ⟨⟨by decide +kernel, by decide +kernel⟩, List.mem_of_getElem? (i := 138) (by decide +kernel), List.mem_of_getElem? (i := 729) (by decide +kernel), List.mem_of_getElem? (i := 730) (by decide +kernel)⟩
def lw_privs_2 : List (MethodName × Nat) := [(⟨"GrammarReshaper$Analysis", "beginnings", "(JI)I"⟩, 3), (⟨"GrammarReshaper$Analysis", "findFollows", "(LGrammarReshaper$Grammar;)V"⟩, 3), (⟨"GrammarReshaper$Analysis", "passFollows", "(J)Z"⟩, 3), (⟨"GrammarReshaper$Analysis", "comingAfter", "(JI)I"⟩, 3), (⟨"GrammarReshaper$Transformer", "beginStep", "()V"⟩, 2), (⟨"GrammarReshaper$Transformer", "addThinned", "(JI)V"⟩, 2), (⟨"GrammarReshaper$Transformer", "addLent", "(II)V"⟩, 2), (⟨"GrammarReshaper$Transformer", "occursInLong", "(II)Z"⟩, 2), (⟨"GrammarReshaper$Transformer", "nameTerminal", "(II)V"⟩, 2), (⟨"GrammarReshaper$Transformer", "firstLong", "()J"⟩, 2), (⟨"GrammarReshaper$Transformer", "split", "(J)V"⟩, 2), (⟨"GrammarReshaper$Transformer", "treatLeft", "(II)V"⟩, 2), (⟨"GrammarReshaper$Transformer", "expandAll", "(II)V"⟩, 2), (⟨"GrammarReshaper$Transformer", "addExpansions", "(J)V"⟩, 2), (⟨"GrammarReshaper$Transformer", "turnRecursion", "(I)V"⟩, 2), (⟨"GrammarReshaper$Transformer", "isRecursive", "(I)Z"⟩, 2)]
theorem lw_r2 : ∀ q ∈ lw_privs_2, lw_okq q := List.forall_mem_cons.mpr ⟨lw_p16, List.forall_mem_cons.mpr ⟨lw_p17, List.forall_mem_cons.mpr ⟨lw_p18, List.forall_mem_cons.mpr ⟨lw_p19, List.forall_mem_cons.mpr ⟨lw_p20, List.forall_mem_cons.mpr ⟨lw_p21, List.forall_mem_cons.mpr ⟨lw_p22, List.forall_mem_cons.mpr ⟨lw_p23, List.forall_mem_cons.mpr ⟨lw_p24, List.forall_mem_cons.mpr ⟨lw_p25, List.forall_mem_cons.mpr ⟨lw_p26, List.forall_mem_cons.mpr ⟨lw_p27, List.forall_mem_cons.mpr ⟨lw_p28, List.forall_mem_cons.mpr ⟨lw_p29, List.forall_mem_cons.mpr ⟨lw_p30, List.forall_mem_cons.mpr ⟨lw_p31, fun _ h => absurd h List.not_mem_nil⟩⟩⟩⟩⟩⟩⟩⟩⟩⟩⟩⟩⟩⟩⟩⟩
theorem lw_p32 : lw_okq (⟨"GrammarReshaper$Transformer", "firstShared", "()I"⟩, 2) := ⟨⟨by decide +kernel, by decide +kernel⟩, List.mem_of_getElem? (i := 138) (by decide +kernel), List.mem_of_getElem? (i := 741) (by decide +kernel), List.mem_of_getElem? (i := 742) (by decide +kernel)⟩
theorem lw_p33 : lw_okq (⟨"GrammarReshaper$Transformer", "factor", "(I)V"⟩, 2) := ⟨⟨by decide +kernel, by decide +kernel⟩, List.mem_of_getElem? (i := 138) (by decide +kernel), List.mem_of_getElem? (i := 749) (by decide +kernel), List.mem_of_getElem? (i := 750) (by decide +kernel)⟩
theorem lw_p34 : lw_okq (⟨"GrammarReshaper$Transformer", "firstWithNonterminal", "()J"⟩, 2) := ⟨⟨by decide +kernel, by decide +kernel⟩, List.mem_of_getElem? (i := 138) (by decide +kernel), List.mem_of_getElem? (i := 762) (by decide +kernel), List.mem_of_getElem? (i := 763) (by decide +kernel)⟩
theorem lw_p35 : lw_okq (⟨"GrammarReshaper$ShortWords", "readRight", "(J)V"⟩, 6) := ⟨⟨by decide +kernel, by decide +kernel⟩, List.mem_of_getElem? (i := 113) (by decide +kernel), List.mem_of_getElem? (i := 787) (by decide +kernel), List.mem_of_getElem? (i := 788) (by decide +kernel)⟩
theorem lw_p36 : lw_okq (⟨"GrammarReshaper$ShortWords", "readOn", "(JJJ)V"⟩, 6) := ⟨⟨by decide +kernel, by decide +kernel⟩, List.mem_of_getElem? (i := 113) (by decide +kernel), List.mem_of_getElem? (i := 794) (by decide +kernel), List.mem_of_getElem? (i := 795) (by decide +kernel)⟩
theorem lw_p37 : lw_okq (⟨"GrammarReshaper$ShortWords", "keepRead", "(I)Z"⟩, 6) := ⟨⟨by decide +kernel, by decide +kernel⟩, List.mem_of_getElem? (i := 113) (by decide +kernel), List.mem_of_getElem? (i := 802) (by decide +kernel), List.mem_of_getElem? (i := 803) (by decide +kernel)⟩
theorem lw_p38 : lw_okq (⟨"GrammarReshaper", "hashOfProductions", "(J)J"⟩, 9) := ⟨⟨by decide +kernel, by decide +kernel⟩, List.mem_of_getElem? (i := 17) (by decide +kernel), List.mem_of_getElem? (i := 826) (by decide +kernel), List.mem_of_getElem? (i := 827) (by decide +kernel)⟩
theorem lw_p39 : lw_okq (⟨"GrammarReshaper", "hashOfProperties", "(J)J"⟩, 9) := ⟨⟨by decide +kernel, by decide +kernel⟩, List.mem_of_getElem? (i := 17) (by decide +kernel), List.mem_of_getElem? (i := 834) (by decide +kernel), List.mem_of_getElem? (i := 835) (by decide +kernel)⟩
theorem lw_p40 : lw_okq (⟨"GrammarReshaperModel", "rightLength", "()I"⟩, 29) := ⟨⟨by decide +kernel, by decide +kernel⟩, List.mem_of_getElem? (i := 846) (by decide +kernel), List.mem_of_getElem? (i := 955) (by decide +kernel), List.mem_of_getElem? (i := 956) (by decide +kernel)⟩
theorem lw_p41 : lw_okq (⟨"GrammarReshaperModel", "begin", "()V"⟩, 29) := ⟨⟨by decide +kernel, by decide +kernel⟩, List.mem_of_getElem? (i := 846) (by decide +kernel), List.mem_of_getElem? (i := 959) (by decide +kernel), List.mem_of_getElem? (i := 960) (by decide +kernel)⟩
theorem lw_p42 : lw_okq (⟨"GrammarReshaperModel", "takes", "(I)Z"⟩, 29) := ⟨⟨by decide +kernel, by decide +kernel⟩, List.mem_of_getElem? (i := 846) (by decide +kernel), List.mem_of_getElem? (i := 963) (by decide +kernel), List.mem_of_getElem? (i := 964) (by decide +kernel)⟩
theorem lw_p43 : lw_okq (⟨"GrammarReshaperModel", "put", "(J)V"⟩, 29) := ⟨⟨by decide +kernel, by decide +kernel⟩, List.mem_of_getElem? (i := 846) (by decide +kernel), List.mem_of_getElem? (i := 973) (by decide +kernel), List.mem_of_getElem? (i := 974) (by decide +kernel)⟩
theorem lw_p44 : lw_okq (⟨"GrammarReshaperModel", "isWord", "()Z"⟩, 29) := ⟨⟨by decide +kernel, by decide +kernel⟩, List.mem_of_getElem? (i := 846) (by decide +kernel), List.mem_of_getElem? (i := 988) (by decide +kernel), List.mem_of_getElem? (i := 989) (by decide +kernel)⟩
theorem lw_p45 : lw_okq (⟨"GrammarReshaperModel", "takeWord", "()V"⟩, 29) := ⟨⟨by decide +kernel, by decide +kernel⟩, List.mem_of_getElem? (i := 846) (by decide +kernel), List.mem_of_getElem? (i := 992) (by decide +kernel), List.mem_of_getElem? (i := 993) (by decide +kernel)⟩
theorem lw_p46 : lw_okq (⟨"GrammarReshaperModel", "derives", "([JI)Z"⟩, 29) := ⟨⟨by decide +kernel, by decide +kernel⟩, List.mem_of_getElem? (i := 846) (by decide +kernel), List.mem_of_getElem? (i := 996) (by decide +kernel), List.mem_of_getElem? (i := 997) (by decide +kernel)⟩
theorem lw_p47 : lw_okq (⟨"GrammarReshaperModel", "goOver", "(II)I"⟩, 29) := ⟨⟨by decide +kernel, by decide +kernel⟩, List.mem_of_getElem? (i := 846) (by decide +kernel), List.mem_of_getElem? (i := 1003) (by decide +kernel), List.mem_of_getElem? (i := 1004) (by decide +kernel)⟩
def lw_privs_3 : List (MethodName × Nat) := [(⟨"GrammarReshaper$Transformer", "firstShared", "()I"⟩, 2), (⟨"GrammarReshaper$Transformer", "factor", "(I)V"⟩, 2), (⟨"GrammarReshaper$Transformer", "firstWithNonterminal", "()J"⟩, 2), (⟨"GrammarReshaper$ShortWords", "readRight", "(J)V"⟩, 6), (⟨"GrammarReshaper$ShortWords", "readOn", "(JJJ)V"⟩, 6), (⟨"GrammarReshaper$ShortWords", "keepRead", "(I)Z"⟩, 6), (⟨"GrammarReshaper", "hashOfProductions", "(J)J"⟩, 9), (⟨"GrammarReshaper", "hashOfProperties", "(J)J"⟩, 9), (⟨"GrammarReshaperModel", "rightLength", "()I"⟩, 29), (⟨"GrammarReshaperModel", "begin", "()V"⟩, 29), (⟨"GrammarReshaperModel", "takes", "(I)Z"⟩, 29), (⟨"GrammarReshaperModel", "put", "(J)V"⟩, 29), (⟨"GrammarReshaperModel", "isWord", "()Z"⟩, 29), (⟨"GrammarReshaperModel", "takeWord", "()V"⟩, 29), (⟨"GrammarReshaperModel", "derives", "([JI)Z"⟩, 29), (⟨"GrammarReshaperModel", "goOver", "(II)I"⟩, 29)]
theorem lw_r3 : ∀ q ∈ lw_privs_3, lw_okq q := List.forall_mem_cons.mpr ⟨lw_p32, List.forall_mem_cons.mpr ⟨lw_p33, List.forall_mem_cons.mpr ⟨lw_p34, List.forall_mem_cons.mpr ⟨lw_p35, List.forall_mem_cons.mpr ⟨lw_p36, List.forall_mem_cons.mpr ⟨lw_p37, List.forall_mem_cons.mpr ⟨lw_p38, List.forall_mem_cons.mpr ⟨lw_p39, List.forall_mem_cons.mpr ⟨lw_p40, List.forall_mem_cons.mpr ⟨lw_p41, List.forall_mem_cons.mpr ⟨lw_p42, List.forall_mem_cons.mpr ⟨lw_p43, List.forall_mem_cons.mpr ⟨lw_p44, List.forall_mem_cons.mpr ⟨lw_p45, List.forall_mem_cons.mpr ⟨lw_p46, List.forall_mem_cons.mpr ⟨lw_p47, fun _ h => absurd h List.not_mem_nil⟩⟩⟩⟩⟩⟩⟩⟩⟩⟩⟩⟩⟩⟩⟩⟩
theorem lw_p48 : lw_okq (⟨"GrammarReshaperModel", "hasEmpty", "()Z"⟩, 29) := ⟨⟨by decide +kernel, by decide +kernel⟩, List.mem_of_getElem? (i := 846) (by decide +kernel), List.mem_of_getElem? (i := 1012) (by decide +kernel), List.mem_of_getElem? (i := 1013) (by decide +kernel)⟩
theorem lw_p49 : lw_okq (⟨"GrammarReshaperModel", "hasUnitCycle", "()Z"⟩, 29) := ⟨⟨by decide +kernel, by decide +kernel⟩, List.mem_of_getElem? (i := 846) (by decide +kernel), List.mem_of_getElem? (i := 1019) (by decide +kernel), List.mem_of_getElem? (i := 1020) (by decide +kernel)⟩
theorem lw_p50 : lw_okq (⟨"GrammarReshaperModel", "layUnits", "()V"⟩, 29) := ⟨⟨by decide +kernel, by decide +kernel⟩, List.mem_of_getElem? (i := 846) (by decide +kernel), List.mem_of_getElem? (i := 1023) (by decide +kernel), List.mem_of_getElem? (i := 1024) (by decide +kernel)⟩
theorem lw_p51 : lw_okq (⟨"GrammarReshaperModel", "clearLeads", "()V"⟩, 29) := ⟨⟨by decide +kernel, by decide +kernel⟩, List.mem_of_getElem? (i := 846) (by decide +kernel), List.mem_of_getElem? (i := 1027) (by decide +kernel), List.mem_of_getElem? (i := 1028) (by decide +kernel)⟩
theorem lw_p52 : lw_okq (⟨"GrammarReshaperModel", "closeLeads", "()V"⟩, 29) := ⟨⟨by decide +kernel, by decide +kernel⟩, List.mem_of_getElem? (i := 846) (by decide +kernel), List.mem_of_getElem? (i := 1034) (by decide +kernel), List.mem_of_getElem? (i := 1035) (by decide +kernel)⟩
theorem lw_p53 : lw_okq (⟨"GrammarReshaperModel", "loops", "()I"⟩, 29) := ⟨⟨by decide +kernel, by decide +kernel⟩, List.mem_of_getElem? (i := 846) (by decide +kernel), List.mem_of_getElem? (i := 1038) (by decide +kernel), List.mem_of_getElem? (i := 1039) (by decide +kernel)⟩
theorem lw_p54 : lw_okq (⟨"GrammarReshaperModel", "countStretch", "(II)V"⟩, 29) := ⟨⟨by decide +kernel, by decide +kernel⟩, List.mem_of_getElem? (i := 846) (by decide +kernel), List.mem_of_getElem? (i := 1043) (by decide +kernel), List.mem_of_getElem? (i := 1044) (by decide +kernel)⟩
theorem lw_p55 : lw_okq (⟨"GrammarReshaperModel", "waysOf", "(JII)J"⟩, 29) := ⟨⟨by decide +kernel, by decide +kernel⟩, List.mem_of_getElem? (i := 846) (by decide +kernel), List.mem_of_getElem? (i := 1047) (by decide +kernel), List.mem_of_getElem? (i := 1048) (by decide +kernel)⟩
theorem lw_p56 : lw_okq (⟨"GrammarReshaperModel", "nullables", "()I"⟩, 29) := ⟨⟨by decide +kernel, by decide +kernel⟩, List.mem_of_getElem? (i := 846) (by decide +kernel), List.mem_of_getElem? (i := 1069) (by decide +kernel), List.mem_of_getElem? (i := 1070) (by decide +kernel)⟩
theorem lw_p57 : lw_okq (⟨"GrammarReshaperModel", "closedUnder", "(Z)I"⟩, 29) := ⟨⟨by decide +kernel, by decide +kernel⟩, List.mem_of_getElem? (i := 846) (by decide +kernel), List.mem_of_getElem? (i := 1073) (by decide +kernel), List.mem_of_getElem? (i := 1074) (by decide +kernel)⟩
theorem lw_p58 : lw_okq (⟨"GrammarReshaperModel", "productives", "()I"⟩, 29) := ⟨⟨by decide +kernel, by decide +kernel⟩, List.mem_of_getElem? (i := 846) (by decide +kernel), List.mem_of_getElem? (i := 1084) (by decide +kernel), List.mem_of_getElem? (i := 1085) (by decide +kernel)⟩
theorem lw_p59 : lw_okq (⟨"GrammarReshaperModel", "recursives", "()I"⟩, 29) := ⟨⟨by decide +kernel, by decide +kernel⟩, List.mem_of_getElem? (i := 846) (by decide +kernel), List.mem_of_getElem? (i := 1099) (by decide +kernel), List.mem_of_getElem? (i := 1100) (by decide +kernel)⟩
theorem lw_p60 : lw_okq (⟨"GrammarReshaperModel", "firstNow", "(I)I"⟩, 29) := ⟨⟨by decide +kernel, by decide +kernel⟩, List.mem_of_getElem? (i := 846) (by decide +kernel), List.mem_of_getElem? (i := 1114) (by decide +kernel), List.mem_of_getElem? (i := 1115) (by decide +kernel)⟩
theorem lw_p61 : lw_okq (⟨"GrammarReshaperModel", "layFirsts", "()V"⟩, 29) := ⟨⟨by decide +kernel, by decide +kernel⟩, List.mem_of_getElem? (i := 846) (by decide +kernel), List.mem_of_getElem? (i := 1118) (by decide +kernel), List.mem_of_getElem? (i := 1119) (by decide +kernel)⟩
theorem lw_p62 : lw_okq (⟨"GrammarReshaperModel", "firstOf", "(JII)I"⟩, 29) := ⟨⟨by decide +kernel, by decide +kernel⟩, List.mem_of_getElem? (i := 846) (by decide +kernel), List.mem_of_getElem? (i := 1122) (by decide +kernel), List.mem_of_getElem? (i := 1123) (by decide +kernel)⟩
theorem lw_p63 : lw_okq (⟨"GrammarReshaperModel", "followNow", "(I)I"⟩, 29) := ⟨⟨by decide +kernel, by decide +kernel⟩, List.mem_of_getElem? (i := 846) (by decide +kernel), List.mem_of_getElem? (i := 1130) (by decide +kernel), List.mem_of_getElem? (i := 1131) (by decide +kernel)⟩
def lw_privs_4 : List (MethodName × Nat) := [(⟨"GrammarReshaperModel", "hasEmpty", "()Z"⟩, 29), (⟨"GrammarReshaperModel", "hasUnitCycle", "()Z"⟩, 29), (⟨"GrammarReshaperModel", "layUnits", "()V"⟩, 29), (⟨"GrammarReshaperModel", "clearLeads", "()V"⟩, 29), (⟨"GrammarReshaperModel", "closeLeads", "()V"⟩, 29), (⟨"GrammarReshaperModel", "loops", "()I"⟩, 29), (⟨"GrammarReshaperModel", "countStretch", "(II)V"⟩, 29), (⟨"GrammarReshaperModel", "waysOf", "(JII)J"⟩, 29), (⟨"GrammarReshaperModel", "nullables", "()I"⟩, 29), (⟨"GrammarReshaperModel", "closedUnder", "(Z)I"⟩, 29), (⟨"GrammarReshaperModel", "productives", "()I"⟩, 29), (⟨"GrammarReshaperModel", "recursives", "()I"⟩, 29), (⟨"GrammarReshaperModel", "firstNow", "(I)I"⟩, 29), (⟨"GrammarReshaperModel", "layFirsts", "()V"⟩, 29), (⟨"GrammarReshaperModel", "firstOf", "(JII)I"⟩, 29), (⟨"GrammarReshaperModel", "followNow", "(I)I"⟩, 29)]
theorem lw_r4 : ∀ q ∈ lw_privs_4, lw_okq q := List.forall_mem_cons.mpr ⟨lw_p48, List.forall_mem_cons.mpr ⟨lw_p49, List.forall_mem_cons.mpr ⟨lw_p50, List.forall_mem_cons.mpr ⟨lw_p51, List.forall_mem_cons.mpr ⟨lw_p52, List.forall_mem_cons.mpr ⟨lw_p53, List.forall_mem_cons.mpr ⟨lw_p54, List.forall_mem_cons.mpr ⟨lw_p55, List.forall_mem_cons.mpr ⟨lw_p56, List.forall_mem_cons.mpr ⟨lw_p57, List.forall_mem_cons.mpr ⟨lw_p58, List.forall_mem_cons.mpr ⟨lw_p59, List.forall_mem_cons.mpr ⟨lw_p60, List.forall_mem_cons.mpr ⟨lw_p61, List.forall_mem_cons.mpr ⟨lw_p62, List.forall_mem_cons.mpr ⟨lw_p63, fun _ h => absurd h List.not_mem_nil⟩⟩⟩⟩⟩⟩⟩⟩⟩⟩⟩⟩⟩⟩⟩⟩
theorem lw_p64 : lw_okq (⟨"GrammarReshaperModel", "layFollows", "()V"⟩, 29) := ⟨⟨by decide +kernel, by decide +kernel⟩, List.mem_of_getElem? (i := 846) (by decide +kernel), List.mem_of_getElem? (i := 1134) (by decide +kernel), List.mem_of_getElem? (i := 1135) (by decide +kernel)⟩
theorem lw_p65 : lw_okq (⟨"GrammarReshaperModel", "isPredictive", "()Z"⟩, 29) := ⟨⟨by decide +kernel, by decide +kernel⟩, List.mem_of_getElem? (i := 846) (by decide +kernel), List.mem_of_getElem? (i := 1142) (by decide +kernel), List.mem_of_getElem? (i := 1143) (by decide +kernel)⟩
theorem lw_p66 : lw_okq (⟨"GrammarReshaperModel", "isInChomsky", "()Z"⟩, 29) := ⟨⟨by decide +kernel, by decide +kernel⟩, List.mem_of_getElem? (i := 846) (by decide +kernel), List.mem_of_getElem? (i := 1150) (by decide +kernel), List.mem_of_getElem? (i := 1151) (by decide +kernel)⟩
theorem lw_p67 : lw_okq (⟨"GrammarReshaperModel", "isInGreibach", "()Z"⟩, 29) := ⟨⟨by decide +kernel, by decide +kernel⟩, List.mem_of_getElem? (i := 846) (by decide +kernel), List.mem_of_getElem? (i := 1158) (by decide +kernel), List.mem_of_getElem? (i := 1159) (by decide +kernel)⟩
theorem lw_p68 : lw_okq (⟨"GrammarReshaperModel", "start", "()V"⟩, 29) := ⟨⟨by decide +kernel, by decide +kernel⟩, List.mem_of_getElem? (i := 846) (by decide +kernel), List.mem_of_getElem? (i := 1166) (by decide +kernel), List.mem_of_getElem? (i := 1167) (by decide +kernel)⟩
theorem lw_p69 : lw_okq (⟨"GrammarReshaperModel", "step", "()V"⟩, 29) := ⟨⟨by decide +kernel, by decide +kernel⟩, List.mem_of_getElem? (i := 846) (by decide +kernel), List.mem_of_getElem? (i := 1170) (by decide +kernel), List.mem_of_getElem? (i := 1171) (by decide +kernel)⟩
theorem lw_p70 : lw_okq (⟨"GrammarReshaperModel", "finish", "()I"⟩, 29) := ⟨⟨by decide +kernel, by decide +kernel⟩, List.mem_of_getElem? (i := 846) (by decide +kernel), List.mem_of_getElem? (i := 1174) (by decide +kernel), List.mem_of_getElem? (i := 1175) (by decide +kernel)⟩
theorem lw_p71 : lw_okq (⟨"GrammarReshaperModel", "putWithout", "(JII)V"⟩, 29) := ⟨⟨by decide +kernel, by decide +kernel⟩, List.mem_of_getElem? (i := 846) (by decide +kernel), List.mem_of_getElem? (i := 1182) (by decide +kernel), List.mem_of_getElem? (i := 1183) (by decide +kernel)⟩
theorem lw_p72 : lw_okq (⟨"GrammarReshaperModel", "putRow", "(I)V"⟩, 29) := ⟨⟨by decide +kernel, by decide +kernel⟩, List.mem_of_getElem? (i := 846) (by decide +kernel), List.mem_of_getElem? (i := 1186) (by decide +kernel), List.mem_of_getElem? (i := 1187) (by decide +kernel)⟩
theorem lw_p73 : lw_okq (⟨"GrammarReshaperModel", "addRow", "(JII)V"⟩, 29) := ⟨⟨by decide +kernel, by decide +kernel⟩, List.mem_of_getElem? (i := 846) (by decide +kernel), List.mem_of_getElem? (i := 1194) (by decide +kernel), List.mem_of_getElem? (i := 1195) (by decide +kernel)⟩
theorem lw_p74 : lw_okq (⟨"GrammarReshaperModel", "hasUnit", "()Z"⟩, 29) := ⟨⟨by decide +kernel, by decide +kernel⟩, List.mem_of_getElem? (i := 846) (by decide +kernel), List.mem_of_getElem? (i := 1202) (by decide +kernel), List.mem_of_getElem? (i := 1203) (by decide +kernel)⟩
theorem lw_p75 : lw_okq (⟨"GrammarReshaperModel", "veilAll", "(Z)V"⟩, 29) := ⟨⟨by decide +kernel, by decide +kernel⟩, List.mem_of_getElem? (i := 846) (by decide +kernel), List.mem_of_getElem? (i := 1206) (by decide +kernel), List.mem_of_getElem? (i := 1207) (by decide +kernel)⟩
theorem lw_p76 : lw_okq (⟨"GrammarReshaperModel", "veil", "(IZ)V"⟩, 29) := ⟨⟨by decide +kernel, by decide +kernel⟩, List.mem_of_getElem? (i := 846) (by decide +kernel), List.mem_of_getElem? (i := 1210) (by decide +kernel), List.mem_of_getElem? (i := 1211) (by decide +kernel)⟩
theorem lw_p77 : lw_okq (⟨"GrammarReshaperModel", "freeOne", "()I"⟩, 29) := ⟨⟨by decide +kernel, by decide +kernel⟩, List.mem_of_getElem? (i := 846) (by decide +kernel), List.mem_of_getElem? (i := 1217) (by decide +kernel), List.mem_of_getElem? (i := 1218) (by decide +kernel)⟩
theorem lw_p78 : lw_okq (⟨"GrammarReshaperModel", "cut", "()Z"⟩, 29) := ⟨⟨by decide +kernel, by decide +kernel⟩, List.mem_of_getElem? (i := 846) (by decide +kernel), List.mem_of_getElem? (i := 1221) (by decide +kernel), List.mem_of_getElem? (i := 1222) (by decide +kernel)⟩
theorem lw_p79 : lw_okq (⟨"GrammarReshaperModel", "unwindAll", "()V"⟩, 29) := ⟨⟨by decide +kernel, by decide +kernel⟩, List.mem_of_getElem? (i := 846) (by decide +kernel), List.mem_of_getElem? (i := 1229) (by decide +kernel), List.mem_of_getElem? (i := 1230) (by decide +kernel)⟩
def lw_privs_5 : List (MethodName × Nat) := [(⟨"GrammarReshaperModel", "layFollows", "()V"⟩, 29), (⟨"GrammarReshaperModel", "isPredictive", "()Z"⟩, 29), (⟨"GrammarReshaperModel", "isInChomsky", "()Z"⟩, 29), (⟨"GrammarReshaperModel", "isInGreibach", "()Z"⟩, 29), (⟨"GrammarReshaperModel", "start", "()V"⟩, 29), (⟨"GrammarReshaperModel", "step", "()V"⟩, 29), (⟨"GrammarReshaperModel", "finish", "()I"⟩, 29), (⟨"GrammarReshaperModel", "putWithout", "(JII)V"⟩, 29), (⟨"GrammarReshaperModel", "putRow", "(I)V"⟩, 29), (⟨"GrammarReshaperModel", "addRow", "(JII)V"⟩, 29), (⟨"GrammarReshaperModel", "hasUnit", "()Z"⟩, 29), (⟨"GrammarReshaperModel", "veilAll", "(Z)V"⟩, 29), (⟨"GrammarReshaperModel", "veil", "(IZ)V"⟩, 29), (⟨"GrammarReshaperModel", "freeOne", "()I"⟩, 29), (⟨"GrammarReshaperModel", "cut", "()Z"⟩, 29), (⟨"GrammarReshaperModel", "unwindAll", "()V"⟩, 29)]
theorem lw_r5 : ∀ q ∈ lw_privs_5, lw_okq q := List.forall_mem_cons.mpr ⟨lw_p64, List.forall_mem_cons.mpr ⟨lw_p65, List.forall_mem_cons.mpr ⟨lw_p66, List.forall_mem_cons.mpr ⟨lw_p67, List.forall_mem_cons.mpr ⟨lw_p68, List.forall_mem_cons.mpr ⟨lw_p69, List.forall_mem_cons.mpr ⟨lw_p70, List.forall_mem_cons.mpr ⟨lw_p71, List.forall_mem_cons.mpr ⟨lw_p72, List.forall_mem_cons.mpr ⟨lw_p73, List.forall_mem_cons.mpr ⟨lw_p74, List.forall_mem_cons.mpr ⟨lw_p75, List.forall_mem_cons.mpr ⟨lw_p76, List.forall_mem_cons.mpr ⟨lw_p77, List.forall_mem_cons.mpr ⟨lw_p78, List.forall_mem_cons.mpr ⟨lw_p79, fun _ h => absurd h List.not_mem_nil⟩⟩⟩⟩⟩⟩⟩⟩⟩⟩⟩⟩⟩⟩⟩⟩
theorem lw_p80 : lw_okq (⟨"GrammarReshaperModel", "tell", "(II)V"⟩, 29) := ⟨⟨by decide +kernel, by decide +kernel⟩, List.mem_of_getElem? (i := 846) (by decide +kernel), List.mem_of_getElem? (i := 1233) (by decide +kernel), List.mem_of_getElem? (i := 1234) (by decide +kernel)⟩
theorem lw_p81 : lw_okq (⟨"GrammarReshaperModel", "putTold", "(JI)V"⟩, 29) := ⟨⟨by decide +kernel, by decide +kernel⟩, List.mem_of_getElem? (i := 846) (by decide +kernel), List.mem_of_getElem? (i := 1237) (by decide +kernel), List.mem_of_getElem? (i := 1238) (by decide +kernel)⟩
theorem lw_p82 : lw_okq (⟨"GrammarReshaperModel", "unwind", "(I)V"⟩, 29) := ⟨⟨by decide +kernel, by decide +kernel⟩, List.mem_of_getElem? (i := 846) (by decide +kernel), List.mem_of_getElem? (i := 1241) (by decide +kernel), List.mem_of_getElem? (i := 1242) (by decide +kernel)⟩
theorem lw_p83 : lw_okq (⟨"GrammarReshaperModel", "beginsWithItself", "(J)Z"⟩, 29) := ⟨⟨by decide +kernel, by decide +kernel⟩, List.mem_of_getElem? (i := 846) (by decide +kernel), List.mem_of_getElem? (i := 1245) (by decide +kernel), List.mem_of_getElem? (i := 1246) (by decide +kernel)⟩
theorem lw_p84 : lw_okq (⟨"GrammarReshaperModel", "putTail", "(JI)V"⟩, 29) := ⟨⟨by decide +kernel, by decide +kernel⟩, List.mem_of_getElem? (i := 846) (by decide +kernel), List.mem_of_getElem? (i := 1249) (by decide +kernel), List.mem_of_getElem? (i := 1250) (by decide +kernel)⟩
theorem lw_p85 : lw_okq (⟨"GrammarReshaperModel", "factor", "()Z"⟩, 29) := ⟨⟨by decide +kernel, by decide +kernel⟩, List.mem_of_getElem? (i := 846) (by decide +kernel), List.mem_of_getElem? (i := 1257) (by decide +kernel), List.mem_of_getElem? (i := 1258) (by decide +kernel)⟩
theorem lw_p86 : lw_okq (⟨"GrammarReshaperModel", "tellFirst", "()Z"⟩, 29) := ⟨⟨by decide +kernel, by decide +kernel⟩, List.mem_of_getElem? (i := 846) (by decide +kernel), List.mem_of_getElem? (i := 1265) (by decide +kernel), List.mem_of_getElem? (i := 1266) (by decide +kernel)⟩
theorem lw_p87 : lw_okq (⟨"GrammarReshaperModel", "countNow", "(IZ)I"⟩, 29) := ⟨⟨by decide +kernel, by decide +kernel⟩, List.mem_of_getElem? (i := 846) (by decide +kernel), List.mem_of_getElem? (i := 1281) (by decide +kernel), List.mem_of_getElem? (i := 1282) (by decide +kernel)⟩
theorem lw_p88 : lw_okq (⟨"GrammarReshaperModel", "layWord", "(II)I"⟩, 29) := ⟨⟨by decide +kernel, by decide +kernel⟩, List.mem_of_getElem? (i := 846) (by decide +kernel), List.mem_of_getElem? (i := 1288) (by decide +kernel), List.mem_of_getElem? (i := 1289) (by decide +kernel)⟩
theorem lw_p89 : lw_okq (⟨"GrammarReshaperModel", "mix", "(J)V"⟩, 29) := ⟨⟨by decide +kernel, by decide +kernel⟩, List.mem_of_getElem? (i := 846) (by decide +kernel), List.mem_of_getElem? (i := 1301) (by decide +kernel), List.mem_of_getElem? (i := 1302) (by decide +kernel)⟩
def lw_privs_6 : List (MethodName × Nat) := [(⟨"GrammarReshaperModel", "tell", "(II)V"⟩, 29), (⟨"GrammarReshaperModel", "putTold", "(JI)V"⟩, 29), (⟨"GrammarReshaperModel", "unwind", "(I)V"⟩, 29), (⟨"GrammarReshaperModel", "beginsWithItself", "(J)Z"⟩, 29), (⟨"GrammarReshaperModel", "putTail", "(JI)V"⟩, 29), (⟨"GrammarReshaperModel", "factor", "()Z"⟩, 29), (⟨"GrammarReshaperModel", "tellFirst", "()Z"⟩, 29), (⟨"GrammarReshaperModel", "countNow", "(IZ)I"⟩, 29), (⟨"GrammarReshaperModel", "layWord", "(II)I"⟩, 29), (⟨"GrammarReshaperModel", "mix", "(J)V"⟩, 29)]
theorem lw_r6 : ∀ q ∈ lw_privs_6, lw_okq q := List.forall_mem_cons.mpr ⟨lw_p80, List.forall_mem_cons.mpr ⟨lw_p81, List.forall_mem_cons.mpr ⟨lw_p82, List.forall_mem_cons.mpr ⟨lw_p83, List.forall_mem_cons.mpr ⟨lw_p84, List.forall_mem_cons.mpr ⟨lw_p85, List.forall_mem_cons.mpr ⟨lw_p86, List.forall_mem_cons.mpr ⟨lw_p87, List.forall_mem_cons.mpr ⟨lw_p88, List.forall_mem_cons.mpr ⟨lw_p89, fun _ h => absurd h List.not_mem_nil⟩⟩⟩⟩⟩⟩⟩⟩⟩⟩
def lw_privs : List (MethodName × Nat) := lw_privs_1 ++ (lw_privs_2 ++ (lw_privs_3 ++ (lw_privs_4 ++ (lw_privs_5 ++ (lw_privs_6)))))
def lw_tbl : List Cond := k2_sels lw_privs ++ tables_1
theorem lw_privs_ok : ∀ q ∈ lw_privs, lw_okq q := by
  show ∀ q ∈ lw_privs_1 ++ (lw_privs_2 ++ (lw_privs_3 ++ (lw_privs_4 ++ (lw_privs_5 ++ (lw_privs_6))))), lw_okq q
  exact List.forall_mem_append.mpr ⟨lw_r1, List.forall_mem_append.mpr ⟨lw_r2, List.forall_mem_append.mpr ⟨lw_r3, List.forall_mem_append.mpr ⟨lw_r4, List.forall_mem_append.mpr ⟨lw_r5, lw_r6⟩⟩⟩⟩⟩
-- ===== end of PART A; then your names; then what follows =====
end
section

/-! ===== BEGIN printed: names, fields, word lists, decode rows ===== -/
def RX0 : String := "GrammarReshaper$Analysis"
def TX0 : u_T := fun k => match k with
  | 0 => ("GrammarReshaper$Analysis", "firsts", "[I", true)
  | 1 => ("GrammarReshaper$Analysis", "follows", "[I", true)
  | _ => ("GrammarReshaper$Analysis", "nullable", "I", false)
def tyX0 : Nat → FieldType := fun k => match k with
  | 0 => .array .int
  | 1 => .array .int
  | _ => .int
abbrev wsX00 : List Cond := u_ws RX0 TX0 3
theorem nmX0 : ∀ a, a < 3 → ∀ b, b < 3 → a ≠ b → (TX0 a).2.1 ≠ (TX0 b).2.1 := by decide +kernel
theorem tyX0_ok : ∀ k, k < 3 → parseFieldDescriptor (TX0 k).2.2.1 = some (tyX0 k) := by decide +kernel
abbrev cX0_init : ByteArray := prog_2_method_1_code
def yX0_init : MethodName := ⟨RX0, "<init>", "()V"⟩
abbrev cX0_study : ByteArray := prog_2_method_2_code
def yX0_study : MethodName := ⟨RX0, "study", "(LGrammarReshaper$Grammar;)V"⟩
abbrev cX0_firstOf : ByteArray := prog_2_method_3_code
def yX0_firstOf : MethodName := ⟨RX0, "firstOf", "(I)I"⟩
abbrev cX0_followOf : ByteArray := prog_2_method_4_code
def yX0_followOf : MethodName := ⟨RX0, "followOf", "(I)I"⟩
abbrev cX0_findFirsts : ByteArray := prog_2_method_5_code
def yX0_findFirsts : MethodName := ⟨RX0, "findFirsts", "(LGrammarReshaper$Grammar;)V"⟩
abbrev cX0_findFollows : ByteArray := prog_2_method_6_code
def yX0_findFollows : MethodName := ⟨RX0, "findFollows", "(LGrammarReshaper$Grammar;)V"⟩
abbrev cX0_passFollows : ByteArray := prog_2_method_7_code
def yX0_passFollows : MethodName := ⟨RX0, "passFollows", "(J)Z"⟩
abbrev cX0_grow : ByteArray := prog_2_method_8_code
def yX0_grow : MethodName := ⟨RX0, "grow", "([III)Z"⟩
abbrev cX0_beginnings : ByteArray := prog_2_method_9_code
def yX0_beginnings : MethodName := ⟨RX0, "beginnings", "(JI)I"⟩
abbrev cX0_comingAfter : ByteArray := prog_2_method_10_code
def yX0_comingAfter : MethodName := ⟨RX0, "comingAfter", "(JI)I"⟩
abbrev cX0_hasDistinctLookaheads : ByteArray := prog_2_method_11_code
def yX0_hasDistinctLookaheads : MethodName := ⟨RX0, "hasDistinctLookaheads", "(LGrammarReshaper$Grammar;)Z"⟩
def RX1 : String := "GrammarReshaper$Arrows"
def TX1 : u_T := fun k => match k with
  | _ => ("GrammarReshaper$Arrows", "targets", "[I", true)
def tyX1 : Nat → FieldType := fun k => match k with
  | _ => .array .int
abbrev wsX10 : List Cond := u_ws RX1 TX1 1
theorem nmX1 : ∀ a, a < 1 → ∀ b, b < 1 → a ≠ b → (TX1 a).2.1 ≠ (TX1 b).2.1 := by decide +kernel
theorem tyX1_ok : ∀ k, k < 1 → parseFieldDescriptor (TX1 k).2.2.1 = some (tyX1 k) := by decide +kernel
abbrev cX1_init : ByteArray := prog_3_method_1_code
def yX1_init : MethodName := ⟨RX1, "<init>", "()V"⟩
abbrev cX1_followOccurrences : ByteArray := prog_3_method_2_code
def yX1_followOccurrences : MethodName := ⟨RX1, "followOccurrences", "(LGrammarReshaper$Grammar;)V"⟩
abbrev cX1_followUnits : ByteArray := prog_3_method_3_code
def yX1_followUnits : MethodName := ⟨RX1, "followUnits", "(LGrammarReshaper$Grammar;)V"⟩
abbrev cX1_followLeftEnds : ByteArray := prog_3_method_4_code
def yX1_followLeftEnds : MethodName := ⟨RX1, "followLeftEnds", "(LGrammarReshaper$Grammar;I)V"⟩
abbrev cX1_leftEnds : ByteArray := prog_3_method_5_code
def yX1_leftEnds : MethodName := ⟨RX1, "leftEnds", "(JI)I"⟩
abbrev cX1_close : ByteArray := prog_3_method_6_code
def yX1_close : MethodName := ⟨RX1, "close", "()V"⟩
abbrev cX1_reachFrom : ByteArray := prog_3_method_7_code
def yX1_reachFrom : MethodName := ⟨RX1, "reachFrom", "(I)I"⟩
abbrev cX1_loops : ByteArray := prog_3_method_8_code
def yX1_loops : MethodName := ⟨RX1, "loops", "()I"⟩
def RX2 : String := "GrammarReshaper$Grammar"
def TX2 : u_T := fun k => match k with
  | 0 => ("GrammarReshaper$Grammar", "productions", "[J", true)
  | 1 => ("GrammarReshaper$Grammar", "count", "I", false)
  | _ => ("GrammarReshaper$Grammar", "tooLarge", "Z", false)
def tyX2 : Nat → FieldType := fun k => match k with
  | 0 => .array .long
  | 1 => .int
  | _ => .boolean
abbrev wsX20 : List Cond := u_ws RX2 TX2 3
theorem nmX2 : ∀ a, a < 3 → ∀ b, b < 3 → a ≠ b → (TX2 a).2.1 ≠ (TX2 b).2.1 := by decide +kernel
theorem tyX2_ok : ∀ k, k < 3 → parseFieldDescriptor (TX2 k).2.2.1 = some (tyX2 k) := by decide +kernel
abbrev cX2_init : ByteArray := prog_4_method_1_code
def yX2_init : MethodName := ⟨RX2, "<init>", "()V"⟩
abbrev cX2_count : ByteArray := prog_4_method_2_code
def yX2_count : MethodName := ⟨RX2, "count", "()I"⟩
abbrev cX2_isTooLarge : ByteArray := prog_4_method_3_code
def yX2_isTooLarge : MethodName := ⟨RX2, "isTooLarge", "()Z"⟩
abbrev cX2_refuse : ByteArray := prog_4_method_4_code
def yX2_refuse : MethodName := ⟨RX2, "refuse", "()V"⟩
abbrev cX2_at : ByteArray := prog_4_method_5_code
def yX2_at : MethodName := ⟨RX2, "at", "(I)J"⟩
abbrev cX2_clear : ByteArray := prog_4_method_6_code
def yX2_clear : MethodName := ⟨RX2, "clear", "()V"⟩
abbrev cX2_copyFrom : ByteArray := prog_4_method_7_code
def yX2_copyFrom : MethodName := ⟨RX2, "copyFrom", "(LGrammarReshaper$Grammar;)V"⟩
abbrev cX2_add : ByteArray := prog_4_method_8_code
def yX2_add : MethodName := ⟨RX2, "add", "(J)V"⟩
abbrev cX2_remove : ByteArray := prog_4_method_9_code
def yX2_remove : MethodName := ⟨RX2, "remove", "(J)V"⟩
abbrev cX2_placeOf : ByteArray := prog_4_method_10_code
def yX2_placeOf : MethodName := ⟨RX2, "placeOf", "(J)I"⟩
abbrev cX2_leftSides : ByteArray := prog_4_method_11_code
def yX2_leftSides : MethodName := ⟨RX2, "leftSides", "()I"⟩
abbrev cX2_freeNonterminal : ByteArray := prog_4_method_12_code
def yX2_freeNonterminal : MethodName := ⟨RX2, "freeNonterminal", "()I"⟩
abbrev cX2_hasEmpty : ByteArray := prog_4_method_13_code
def yX2_hasEmpty : MethodName := ⟨RX2, "hasEmpty", "()Z"⟩
abbrev cX2_hasUnit : ByteArray := prog_4_method_14_code
def yX2_hasUnit : MethodName := ⟨RX2, "hasUnit", "()Z"⟩
abbrev cX2_nullable : ByteArray := prog_4_method_15_code
def yX2_nullable : MethodName := ⟨RX2, "nullable", "()I"⟩
abbrev cX2_productive : ByteArray := prog_4_method_16_code
def yX2_productive : MethodName := ⟨RX2, "productive", "()I"⟩
abbrev cX2_derivable : ByteArray := prog_4_method_17_code
def yX2_derivable : MethodName := ⟨RX2, "derivable", "(I)I"⟩
def RX3 : String := "GrammarReshaper$InputText"
def TX3 : u_T := fun k => match k with
  | 0 => ("GrammarReshaper$InputText", "codes", "[I", true)
  | _ => ("GrammarReshaper$InputText", "length", "I", false)
def tyX3 : Nat → FieldType := fun k => match k with
  | 0 => .array .int
  | _ => .int
abbrev wsX30 : List Cond := u_ws RX3 TX3 2
theorem nmX3 : ∀ a, a < 2 → ∀ b, b < 2 → a ≠ b → (TX3 a).2.1 ≠ (TX3 b).2.1 := by decide +kernel
theorem tyX3_ok : ∀ k, k < 2 → parseFieldDescriptor (TX3 k).2.2.1 = some (tyX3 k) := by decide +kernel
abbrev cX3_init : ByteArray := prog_5_method_1_code
def yX3_init : MethodName := ⟨RX3, "<init>", "()V"⟩
abbrev cX3_length : ByteArray := prog_5_method_2_code
def yX3_length : MethodName := ⟨RX3, "length", "()I"⟩
abbrev cX3_codeAt : ByteArray := prog_5_method_3_code
def yX3_codeAt : MethodName := ⟨RX3, "codeAt", "(I)I"⟩
abbrev cX3_clear : ByteArray := prog_5_method_4_code
def yX3_clear : MethodName := ⟨RX3, "clear", "()V"⟩
abbrev cX3_put : ByteArray := prog_5_method_5_code
def yX3_put : MethodName := ⟨RX3, "put", "(I)Z"⟩
abbrev cX3_stateAfter : ByteArray := prog_5_method_6_code
def yX3_stateAfter : MethodName := ⟨RX3, "stateAfter", "(II)I"⟩
abbrev cX3_errorPlace : ByteArray := prog_5_method_7_code
def yX3_errorPlace : MethodName := ⟨RX3, "errorPlace", "()I"⟩
abbrev cX3_isGrammar : ByteArray := prog_5_method_8_code
def yX3_isGrammar : MethodName := ⟨RX3, "isGrammar", "()Z"⟩
abbrev cX3_readInto : ByteArray := prog_5_method_9_code
def yX3_readInto : MethodName := ⟨RX3, "readInto", "(LGrammarReshaper$Grammar;)V"⟩
abbrev cX3_isWord : ByteArray := prog_5_method_10_code
def yX3_isWord : MethodName := ⟨RX3, "isWord", "()Z"⟩
def RX4 : String := "GrammarReshaper$Parser"
def TX4 : u_T := fun k => match k with
  | 0 => ("GrammarReshaper$Parser", "word", "[I", true)
  | 1 => ("GrammarReshaper$Parser", "length", "I", false)
  | 2 => ("GrammarReshaper$Parser", "ends", "[I", true)
  | 3 => ("GrammarReshaper$Parser", "trees", "[J", true)
  | 4 => ("GrammarReshaper$Parser", "ways", "[J", true)
  | 5 => ("GrammarReshaper$Parser", "plain", "[J", true)
  | 6 => ("GrammarReshaper$Parser", "totals", "[J", true)
  | _ => ("GrammarReshaper$Parser", "earlier", "[J", true)
def tyX4 : Nat → FieldType := fun k => match k with
  | 0 => .array .int
  | 1 => .int
  | 2 => .array .int
  | 3 => .array .long
  | 4 => .array .long
  | 5 => .array .long
  | 6 => .array .long
  | _ => .array .long
abbrev wsX40 : List Cond := u_ws RX4 TX4 8
theorem nmX4 : ∀ a, a < 8 → ∀ b, b < 8 → a ≠ b → (TX4 a).2.1 ≠ (TX4 b).2.1 := by decide +kernel
theorem tyX4_ok : ∀ k, k < 8 → parseFieldDescriptor (TX4 k).2.2.1 = some (tyX4 k) := by decide +kernel
abbrev cX4_init : ByteArray := prog_6_method_1_code
def yX4_init : MethodName := ⟨RX4, "<init>", "()V"⟩
abbrev cX4_read : ByteArray := prog_6_method_2_code
def yX4_read : MethodName := ⟨RX4, "read", "(LGrammarReshaper$InputText;)V"⟩
abbrev cX4_stands : ByteArray := prog_6_method_3_code
def yX4_stands : MethodName := ⟨RX4, "stands", "(II)Z"⟩
abbrev cX4_derives : ByteArray := prog_6_method_4_code
def yX4_derives : MethodName := ⟨RX4, "derives", "(LGrammarReshaper$Grammar;)Z"⟩
abbrev cX4_addEnds : ByteArray := prog_6_method_5_code
def yX4_addEnds : MethodName := ⟨RX4, "addEnds", "(J)Z"⟩
abbrev cX4_endsOf : ByteArray := prog_6_method_6_code
def yX4_endsOf : MethodName := ⟨RX4, "endsOf", "(JI)I"⟩
abbrev cX4_endsFrom : ByteArray := prog_6_method_7_code
def yX4_endsFrom : MethodName := ⟨RX4, "endsFrom", "(II)I"⟩
abbrev cX4_treesOf : ByteArray := prog_6_method_8_code
def yX4_treesOf : MethodName := ⟨RX4, "treesOf", "(LGrammarReshaper$Grammar;)J"⟩
abbrev cX4_treesAt : ByteArray := prog_6_method_9_code
def yX4_treesAt : MethodName := ⟨RX4, "treesAt", "(III)J"⟩
abbrev cX4_keepTotals : ByteArray := prog_6_method_10_code
def yX4_keepTotals : MethodName := ⟨RX4, "keepTotals", "(II)V"⟩
abbrev cX4_countPlain : ByteArray := prog_6_method_11_code
def yX4_countPlain : MethodName := ⟨RX4, "countPlain", "(LGrammarReshaper$Grammar;II)V"⟩
abbrev cX4_waysThrough : ByteArray := prog_6_method_12_code
def yX4_waysThrough : MethodName := ⟨RX4, "waysThrough", "(JII)J"⟩
abbrev cX4_takeSymbol : ByteArray := prog_6_method_13_code
def yX4_takeSymbol : MethodName := ⟨RX4, "takeSymbol", "(III)V"⟩
abbrev cX4_treesOfSymbol : ByteArray := prog_6_method_14_code
def yX4_treesOfSymbol : MethodName := ⟨RX4, "treesOfSymbol", "(III)J"⟩
abbrev cX4_spreadUnits : ByteArray := prog_6_method_15_code
def yX4_spreadUnits : MethodName := ⟨RX4, "spreadUnits", "(LGrammarReshaper$Grammar;)V"⟩
def RX5 : String := "GrammarReshaper$Production"
def TX5 : u_T := fun k => match k with
  | _ => ("", "", "", false)
def tyX5 : Nat → FieldType := fun k => match k with
  | _ => .int
abbrev wsX50 : List Cond := u_ws RX5 TX5 0
theorem nmX5 : ∀ a, a < 0 → ∀ b, b < 0 → a ≠ b → (TX5 a).2.1 ≠ (TX5 b).2.1 := by decide +kernel
theorem tyX5_ok : ∀ k, k < 0 → parseFieldDescriptor (TX5 k).2.2.1 = some (tyX5 k) := by decide +kernel
abbrev cX5_withoutRight : ByteArray := prog_7_method_2_code
def yX5_withoutRight : MethodName := ⟨RX5, "withoutRight", "(I)J"⟩
abbrev cX5_left : ByteArray := prog_7_method_3_code
def yX5_left : MethodName := ⟨RX5, "left", "(J)I"⟩
abbrev cX5_length : ByteArray := prog_7_method_4_code
def yX5_length : MethodName := ⟨RX5, "length", "(J)I"⟩
abbrev cX5_symbolAt : ByteArray := prog_7_method_5_code
def yX5_symbolAt : MethodName := ⟨RX5, "symbolAt", "(JI)I"⟩
abbrev cX5_extended : ByteArray := prog_7_method_6_code
def yX5_extended : MethodName := ⟨RX5, "extended", "(JI)J"⟩
abbrev cX5_joined : ByteArray := prog_7_method_7_code
def yX5_joined : MethodName := ⟨RX5, "joined", "(JJI)J"⟩
abbrev cX5_cut : ByteArray := prog_7_method_8_code
def yX5_cut : MethodName := ⟨RX5, "cut", "(JI)J"⟩
abbrev cX5_thinned : ByteArray := prog_7_method_9_code
def yX5_thinned : MethodName := ⟨RX5, "thinned", "(JI)J"⟩
abbrev cX5_renamed : ByteArray := prog_7_method_10_code
def yX5_renamed : MethodName := ⟨RX5, "renamed", "(JIII)J"⟩
abbrev cX5_isUnit : ByteArray := prog_7_method_11_code
def yX5_isUnit : MethodName := ⟨RX5, "isUnit", "(J)Z"⟩
abbrev cX5_begins : ByteArray := prog_7_method_12_code
def yX5_begins : MethodName := ⟨RX5, "begins", "(JII)Z"⟩
abbrev cX5_staysIn : ByteArray := prog_7_method_13_code
def yX5_staysIn : MethodName := ⟨RX5, "staysIn", "(JII)Z"⟩
abbrev cX5_rightSet : ByteArray := prog_7_method_14_code
def yX5_rightSet : MethodName := ⟨RX5, "rightSet", "(J)I"⟩
abbrev cX5_fitsChomsky : ByteArray := prog_7_method_15_code
def yX5_fitsChomsky : MethodName := ⟨RX5, "fitsChomsky", "(J)Z"⟩
abbrev cX5_fitsGreibach : ByteArray := prog_7_method_16_code
def yX5_fitsGreibach : MethodName := ⟨RX5, "fitsGreibach", "(J)Z"⟩
def RX6 : String := "GrammarReshaper$ShortWords"
def TX6 : u_T := fun k => match k with
  | 0 => ("GrammarReshaper$ShortWords", "none", "[J", true)
  | 1 => ("GrammarReshaper$ShortWords", "ones", "[J", true)
  | 2 => ("GrammarReshaper$ShortWords", "twos", "[J", true)
  | 3 => ("GrammarReshaper$ShortWords", "readNone", "J", false)
  | 4 => ("GrammarReshaper$ShortWords", "readOnes", "J", false)
  | _ => ("GrammarReshaper$ShortWords", "readTwos", "J", false)
def tyX6 : Nat → FieldType := fun k => match k with
  | 0 => .array .long
  | 1 => .array .long
  | 2 => .array .long
  | 3 => .long
  | 4 => .long
  | _ => .long
abbrev wsX60 : List Cond := u_ws RX6 TX6 6
theorem nmX6 : ∀ a, a < 6 → ∀ b, b < 6 → a ≠ b → (TX6 a).2.1 ≠ (TX6 b).2.1 := by decide +kernel
theorem tyX6_ok : ∀ k, k < 6 → parseFieldDescriptor (TX6 k).2.2.1 = some (tyX6 k) := by decide +kernel
abbrev cX6_init : ByteArray := prog_8_method_1_code
def yX6_init : MethodName := ⟨RX6, "<init>", "()V"⟩
abbrev cX6_study : ByteArray := prog_8_method_2_code
def yX6_study : MethodName := ⟨RX6, "study", "(LGrammarReshaper$Grammar;)V"⟩
abbrev cX6_ofLength : ByteArray := prog_8_method_3_code
def yX6_ofLength : MethodName := ⟨RX6, "ofLength", "(I)J"⟩
abbrev cX6_readRight : ByteArray := prog_8_method_4_code
def yX6_readRight : MethodName := ⟨RX6, "readRight", "(J)V"⟩
abbrev cX6_readOn : ByteArray := prog_8_method_5_code
def yX6_readOn : MethodName := ⟨RX6, "readOn", "(JJJ)V"⟩
abbrev cX6_pairs : ByteArray := prog_8_method_6_code
def yX6_pairs : MethodName := ⟨RX6, "pairs", "(JJ)J"⟩
abbrev cX6_keepRead : ByteArray := prog_8_method_7_code
def yX6_keepRead : MethodName := ⟨RX6, "keepRead", "(I)Z"⟩
def RX7 : String := "GrammarReshaper$Transformer"
def TX7 : u_T := fun k => match k with
  | 0 => ("GrammarReshaper$Transformer", "copy", "LGrammarReshaper$Grammar;", true)
  | _ => ("GrammarReshaper$Transformer", "before", "LGrammarReshaper$Grammar;", true)
def tyX7 : Nat → FieldType := fun k => match k with
  | 0 => .object "GrammarReshaper$Grammar"
  | _ => .object "GrammarReshaper$Grammar"
abbrev wsX70 : List Cond := u_ws RX7 TX7 2
theorem nmX7 : ∀ a, a < 2 → ∀ b, b < 2 → a ≠ b → (TX7 a).2.1 ≠ (TX7 b).2.1 := by decide +kernel
theorem tyX7_ok : ∀ k, k < 2 → parseFieldDescriptor (TX7 k).2.2.1 = some (tyX7 k) := by decide +kernel
abbrev cX7_init : ByteArray := prog_9_method_1_code
def yX7_init : MethodName := ⟨RX7, "<init>", "()V"⟩
abbrev cX7_begin : ByteArray := prog_9_method_2_code
def yX7_begin : MethodName := ⟨RX7, "begin", "(LGrammarReshaper$Grammar;)V"⟩
abbrev cX7_finish : ByteArray := prog_9_method_3_code
def yX7_finish : MethodName := ⟨RX7, "finish", "(LGrammarReshaper$Grammar;)I"⟩
abbrev cX7_beginStep : ByteArray := prog_9_method_4_code
def yX7_beginStep : MethodName := ⟨RX7, "beginStep", "()V"⟩
abbrev cX7_dropUseless : ByteArray := prog_9_method_5_code
def yX7_dropUseless : MethodName := ⟨RX7, "dropUseless", "(LGrammarReshaper$Arrows;)V"⟩
abbrev cX7_dropEmpty : ByteArray := prog_9_method_6_code
def yX7_dropEmpty : MethodName := ⟨RX7, "dropEmpty", "()V"⟩
abbrev cX7_addThinned : ByteArray := prog_9_method_7_code
def yX7_addThinned : MethodName := ⟨RX7, "addThinned", "(JI)V"⟩
abbrev cX7_dropUnits : ByteArray := prog_9_method_8_code
def yX7_dropUnits : MethodName := ⟨RX7, "dropUnits", "(LGrammarReshaper$Arrows;)V"⟩
abbrev cX7_addLent : ByteArray := prog_9_method_9_code
def yX7_addLent : MethodName := ⟨RX7, "addLent", "(II)V"⟩
abbrev cX7_nameTerminals : ByteArray := prog_9_method_10_code
def yX7_nameTerminals : MethodName := ⟨RX7, "nameTerminals", "(I)V"⟩
abbrev cX7_occursInLong : ByteArray := prog_9_method_11_code
def yX7_occursInLong : MethodName := ⟨RX7, "occursInLong", "(II)Z"⟩
abbrev cX7_nameTerminal : ByteArray := prog_9_method_12_code
def yX7_nameTerminal : MethodName := ⟨RX7, "nameTerminal", "(II)V"⟩
abbrev cX7_splitLong : ByteArray := prog_9_method_13_code
def yX7_splitLong : MethodName := ⟨RX7, "splitLong", "()V"⟩
abbrev cX7_firstLong : ByteArray := prog_9_method_14_code
def yX7_firstLong : MethodName := ⟨RX7, "firstLong", "()J"⟩
abbrev cX7_split : ByteArray := prog_9_method_15_code
def yX7_split : MethodName := ⟨RX7, "split", "(J)V"⟩
abbrev cX7_dropLeftRecursion : ByteArray := prog_9_method_16_code
def yX7_dropLeftRecursion : MethodName := ⟨RX7, "dropLeftRecursion", "()V"⟩
abbrev cX7_treatLeft : ByteArray := prog_9_method_17_code
def yX7_treatLeft : MethodName := ⟨RX7, "treatLeft", "(II)V"⟩
abbrev cX7_expandAll : ByteArray := prog_9_method_18_code
def yX7_expandAll : MethodName := ⟨RX7, "expandAll", "(II)V"⟩
abbrev cX7_addExpansions : ByteArray := prog_9_method_19_code
def yX7_addExpansions : MethodName := ⟨RX7, "addExpansions", "(J)V"⟩
abbrev cX7_turnRecursion : ByteArray := prog_9_method_20_code
def yX7_turnRecursion : MethodName := ⟨RX7, "turnRecursion", "(I)V"⟩
abbrev cX7_isRecursive : ByteArray := prog_9_method_21_code
def yX7_isRecursive : MethodName := ⟨RX7, "isRecursive", "(I)Z"⟩
abbrev cX7_expandLeftEnds : ByteArray := prog_9_method_22_code
def yX7_expandLeftEnds : MethodName := ⟨RX7, "expandLeftEnds", "()V"⟩
abbrev cX7_firstWithNonterminal : ByteArray := prog_9_method_23_code
def yX7_firstWithNonterminal : MethodName := ⟨RX7, "firstWithNonterminal", "()J"⟩
abbrev cX7_factorPrefixes : ByteArray := prog_9_method_24_code
def yX7_factorPrefixes : MethodName := ⟨RX7, "factorPrefixes", "()V"⟩
abbrev cX7_firstShared : ByteArray := prog_9_method_25_code
def yX7_firstShared : MethodName := ⟨RX7, "firstShared", "()I"⟩
abbrev cX7_sharedLength : ByteArray := prog_9_method_26_code
def yX7_sharedLength : MethodName := ⟨RX7, "sharedLength", "(JJ)I"⟩
abbrev cX7_factor : ByteArray := prog_9_method_27_code
def yX7_factor : MethodName := ⟨RX7, "factor", "(I)V"⟩
def RX8 : String := "GrammarReshaper"
def TX8 : u_T := fun k => match k with
  | 0 => ("GrammarReshaper", "input", "LGrammarReshaper$InputText;", true)
  | 1 => ("GrammarReshaper", "grammar", "LGrammarReshaper$Grammar;", true)
  | 2 => ("GrammarReshaper", "saved", "LGrammarReshaper$Grammar;", true)
  | 3 => ("GrammarReshaper", "hasSaved", "Z", false)
  | 4 => ("GrammarReshaper", "arrows", "LGrammarReshaper$Arrows;", true)
  | 5 => ("GrammarReshaper", "analysis", "LGrammarReshaper$Analysis;", true)
  | 6 => ("GrammarReshaper", "parser", "LGrammarReshaper$Parser;", true)
  | 7 => ("GrammarReshaper", "shortWords", "LGrammarReshaper$ShortWords;", true)
  | _ => ("GrammarReshaper", "transformer", "LGrammarReshaper$Transformer;", true)
def tyX8 : Nat → FieldType := fun k => match k with
  | 0 => .object "GrammarReshaper$InputText"
  | 1 => .object "GrammarReshaper$Grammar"
  | 2 => .object "GrammarReshaper$Grammar"
  | 3 => .boolean
  | 4 => .object "GrammarReshaper$Arrows"
  | 5 => .object "GrammarReshaper$Analysis"
  | 6 => .object "GrammarReshaper$Parser"
  | 7 => .object "GrammarReshaper$ShortWords"
  | _ => .object "GrammarReshaper$Transformer"
abbrev wsX80 : List Cond := u_ws RX8 TX8 9
theorem nmX8 : ∀ a, a < 9 → ∀ b, b < 9 → a ≠ b → (TX8 a).2.1 ≠ (TX8 b).2.1 := by decide +kernel
theorem tyX8_ok : ∀ k, k < 9 → parseFieldDescriptor (TX8 k).2.2.1 = some (tyX8 k) := by decide +kernel
abbrev cX8_init : ByteArray := prog_1_method_1_code
def yX8_init : MethodName := ⟨RX8, "<init>", "()V"⟩
abbrev cX8_append : ByteArray := prog_1_method_2_code
def yX8_append : MethodName := ⟨RX8, "append", "(I)I"⟩
abbrev cX8_clearInput : ByteArray := prog_1_method_3_code
def yX8_clearInput : MethodName := ⟨RX8, "clearInput", "()I"⟩
abbrev cX8_firstError : ByteArray := prog_1_method_4_code
def yX8_firstError : MethodName := ⟨RX8, "firstError", "()I"⟩
abbrev cX8_load : ByteArray := prog_1_method_5_code
def yX8_load : MethodName := ⟨RX8, "load", "()I"⟩
abbrev cX8_accepts : ByteArray := prog_1_method_6_code
def yX8_accepts : MethodName := ⟨RX8, "accepts", "()I"⟩
abbrev cX8_countTrees : ByteArray := prog_1_method_7_code
def yX8_countTrees : MethodName := ⟨RX8, "countTrees", "()J"⟩
abbrev cX8_productionCount : ByteArray := prog_1_method_8_code
def yX8_productionCount : MethodName := ⟨RX8, "productionCount", "()I"⟩
abbrev cX8_symbol : ByteArray := prog_1_method_9_code
def yX8_symbol : MethodName := ⟨RX8, "symbol", "(II)I"⟩
abbrev cX8_nullableSet : ByteArray := prog_1_method_10_code
def yX8_nullableSet : MethodName := ⟨RX8, "nullableSet", "()I"⟩
abbrev cX8_productiveSet : ByteArray := prog_1_method_11_code
def yX8_productiveSet : MethodName := ⟨RX8, "productiveSet", "()I"⟩
abbrev cX8_reachableSet : ByteArray := prog_1_method_12_code
def yX8_reachableSet : MethodName := ⟨RX8, "reachableSet", "()I"⟩
abbrev cX8_leftRecursiveSet : ByteArray := prog_1_method_13_code
def yX8_leftRecursiveSet : MethodName := ⟨RX8, "leftRecursiveSet", "()I"⟩
abbrev cX8_unitReach : ByteArray := prog_1_method_14_code
def yX8_unitReach : MethodName := ⟨RX8, "unitReach", "(I)I"⟩
abbrev cX8_firstSet : ByteArray := prog_1_method_15_code
def yX8_firstSet : MethodName := ⟨RX8, "firstSet", "(I)I"⟩
abbrev cX8_followSet : ByteArray := prog_1_method_16_code
def yX8_followSet : MethodName := ⟨RX8, "followSet", "(I)I"⟩
abbrev cX8_isLl1 : ByteArray := prog_1_method_17_code
def yX8_isLl1 : MethodName := ⟨RX8, "isLl1", "()I"⟩
abbrev cX8_isChomsky : ByteArray := prog_1_method_18_code
def yX8_isChomsky : MethodName := ⟨RX8, "isChomsky", "()I"⟩
abbrev cX8_isGreibach : ByteArray := prog_1_method_19_code
def yX8_isGreibach : MethodName := ⟨RX8, "isGreibach", "()I"⟩
abbrev cX8_removeUseless : ByteArray := prog_1_method_20_code
def yX8_removeUseless : MethodName := ⟨RX8, "removeUseless", "()I"⟩
abbrev cX8_removeEmpty : ByteArray := prog_1_method_21_code
def yX8_removeEmpty : MethodName := ⟨RX8, "removeEmpty", "()I"⟩
abbrev cX8_removeUnits : ByteArray := prog_1_method_22_code
def yX8_removeUnits : MethodName := ⟨RX8, "removeUnits", "()I"⟩
abbrev cX8_toChomsky : ByteArray := prog_1_method_23_code
def yX8_toChomsky : MethodName := ⟨RX8, "toChomsky", "()I"⟩
abbrev cX8_removeLeftRecursion : ByteArray := prog_1_method_24_code
def yX8_removeLeftRecursion : MethodName := ⟨RX8, "removeLeftRecursion", "()I"⟩
abbrev cX8_leftFactor : ByteArray := prog_1_method_25_code
def yX8_leftFactor : MethodName := ⟨RX8, "leftFactor", "()I"⟩
abbrev cX8_toGreibach : ByteArray := prog_1_method_26_code
def yX8_toGreibach : MethodName := ⟨RX8, "toGreibach", "()I"⟩
abbrev cX8_save : ByteArray := prog_1_method_27_code
def yX8_save : MethodName := ⟨RX8, "save", "()I"⟩
abbrev cX8_restore : ByteArray := prog_1_method_28_code
def yX8_restore : MethodName := ⟨RX8, "restore", "()I"⟩
abbrev cX8_countWords : ByteArray := prog_1_method_29_code
def yX8_countWords : MethodName := ⟨RX8, "countWords", "(I)I"⟩
abbrev cX8_countDifferences : ByteArray := prog_1_method_30_code
def yX8_countDifferences : MethodName := ⟨RX8, "countDifferences", "(I)I"⟩
abbrev cX8_digest : ByteArray := prog_1_method_31_code
def yX8_digest : MethodName := ⟨RX8, "digest", "()J"⟩
abbrev cX8_hashOfProductions : ByteArray := prog_1_method_32_code
def yX8_hashOfProductions : MethodName := ⟨RX8, "hashOfProductions", "(J)J"⟩
abbrev cX8_hashOfProperties : ByteArray := prog_1_method_33_code
def yX8_hashOfProperties : MethodName := ⟨RX8, "hashOfProperties", "(J)J"⟩
abbrev cX8_mixed : ByteArray := prog_1_method_34_code
def yX8_mixed : MethodName := ⟨RX8, "mixed", "(JJ)J"⟩
abbrev cX8_isEndless : ByteArray := prog_1_method_35_code
def yX8_isEndless : MethodName := ⟨RX8, "isEndless", "()Z"⟩
abbrev cX8_bit : ByteArray := prog_1_method_36_code
def yX8_bit : MethodName := ⟨RX8, "bit", "(Z)I"⟩
abbrev cX8_isNonterminal : ByteArray := prog_1_method_37_code
def yX8_isNonterminal : MethodName := ⟨RX8, "isNonterminal", "(I)Z"⟩
abbrev cX8_isTerminal : ByteArray := prog_1_method_38_code
def yX8_isTerminal : MethodName := ⟨RX8, "isTerminal", "(I)Z"⟩
abbrev cX8_isIn : ByteArray := prog_1_method_39_code
def yX8_isIn : MethodName := ⟨RX8, "isIn", "(II)Z"⟩
abbrev cX8_symbolOf : ByteArray := prog_1_method_40_code
def yX8_symbolOf : MethodName := ⟨RX8, "symbolOf", "(I)I"⟩
abbrev cX8_codeOf : ByteArray := prog_1_method_41_code
def yX8_codeOf : MethodName := ⟨RX8, "codeOf", "(I)I"⟩
def RX9 : String := "GrammarReshaperModel"
def TX9 : u_T := fun k => match k with
  | 0 => ("GrammarReshaperModel", "grammar", "[J", true)
  | 1 => ("GrammarReshaperModel", "many", "I", false)
  | 2 => ("GrammarReshaperModel", "saved", "[J", true)
  | 3 => ("GrammarReshaperModel", "savedMany", "I", false)
  | 4 => ("GrammarReshaperModel", "isSaved", "Z", false)
  | 5 => ("GrammarReshaperModel", "length", "I", false)
  | 6 => ("GrammarReshaperModel", "buffer", "[I", true)
  | 7 => ("GrammarReshaperModel", "stage", "I", false)
  | 8 => ("GrammarReshaperModel", "reading", "J", false)
  | 9 => ("GrammarReshaperModel", "readSize", "I", false)
  | 10 => ("GrammarReshaperModel", "next", "[J", true)
  | 11 => ("GrammarReshaperModel", "nextMany", "I", false)
  | 12 => ("GrammarReshaperModel", "isTooLarge", "Z", false)
  | 13 => ("GrammarReshaperModel", "row", "[I", true)
  | 14 => ("GrammarReshaperModel", "rowSize", "I", false)
  | 15 => ("GrammarReshaperModel", "word", "[I", true)
  | 16 => ("GrammarReshaperModel", "wordSize", "I", false)
  | 17 => ("GrammarReshaperModel", "ends", "[I", true)
  | 18 => ("GrammarReshaperModel", "trees", "[J", true)
  | 19 => ("GrammarReshaperModel", "ways", "[J", true)
  | 20 => ("GrammarReshaperModel", "more", "[J", true)
  | 21 => ("GrammarReshaperModel", "leads", "[I", true)
  | 22 => ("GrammarReshaperModel", "firsts", "[I", true)
  | 23 => ("GrammarReshaperModel", "follows", "[I", true)
  | 24 => ("GrammarReshaperModel", "seen", "[I", true)
  | 25 => ("GrammarReshaperModel", "copy", "[J", true)
  | 26 => ("GrammarReshaperModel", "copyMany", "I", false)
  | 27 => ("GrammarReshaperModel", "hasFailed", "Z", false)
  | _ => ("GrammarReshaperModel", "hash", "J", false)
def tyX9 : Nat → FieldType := fun k => match k with
  | 0 => .array .long
  | 1 => .int
  | 2 => .array .long
  | 3 => .int
  | 4 => .boolean
  | 5 => .int
  | 6 => .array .int
  | 7 => .int
  | 8 => .long
  | 9 => .int
  | 10 => .array .long
  | 11 => .int
  | 12 => .boolean
  | 13 => .array .int
  | 14 => .int
  | 15 => .array .int
  | 16 => .int
  | 17 => .array .int
  | 18 => .array .long
  | 19 => .array .long
  | 20 => .array .long
  | 21 => .array .int
  | 22 => .array .int
  | 23 => .array .int
  | 24 => .array .int
  | 25 => .array .long
  | 26 => .int
  | 27 => .boolean
  | _ => .long
abbrev wsX90 : List Cond := u_ws RX9 TX9 29
theorem nmX9 : ∀ a, a < 29 → ∀ b, b < 29 → a ≠ b → (TX9 a).2.1 ≠ (TX9 b).2.1 := by decide +kernel
theorem tyX9_ok : ∀ k, k < 29 → parseFieldDescriptor (TX9 k).2.2.1 = some (tyX9 k) := by decide +kernel
abbrev cX9_init : ByteArray := prog_11_method_1_code
def yX9_init : MethodName := ⟨RX9, "<init>", "()V"⟩
abbrev cX9_within : ByteArray := prog_11_method_3_code
def yX9_within : MethodName := ⟨RX9, "within", "(III)Z"⟩
abbrev cX9_left : ByteArray := prog_11_method_4_code
def yX9_left : MethodName := ⟨RX9, "left", "(J)I"⟩
abbrev cX9_at : ByteArray := prog_11_method_5_code
def yX9_at : MethodName := ⟨RX9, "at", "(JI)I"⟩
abbrev cX9_size : ByteArray := prog_11_method_6_code
def yX9_size : MethodName := ⟨RX9, "size", "(J)I"⟩
abbrev cX9_isNonterminal : ByteArray := prog_11_method_7_code
def yX9_isNonterminal : MethodName := ⟨RX9, "isNonterminal", "(I)Z"⟩
abbrev cX9_codeOf : ByteArray := prog_11_method_8_code
def yX9_codeOf : MethodName := ⟨RX9, "codeOf", "(I)I"⟩
abbrev cX9_isEmpty : ByteArray := prog_11_method_9_code
def yX9_isEmpty : MethodName := ⟨RX9, "isEmpty", "(J)Z"⟩
abbrev cX9_isUnit : ByteArray := prog_11_method_10_code
def yX9_isUnit : MethodName := ⟨RX9, "isUnit", "(J)Z"⟩
abbrev cX9_append : ByteArray := prog_11_method_11_code
def yX9_append : MethodName := ⟨RX9, "append", "(I)I"⟩
abbrev cX9_clearInput : ByteArray := prog_11_method_12_code
def yX9_clearInput : MethodName := ⟨RX9, "clearInput", "()I"⟩
abbrev cX9_symbolOf : ByteArray := prog_11_method_13_code
def yX9_symbolOf : MethodName := ⟨RX9, "symbolOf", "(I)I"⟩
abbrev cX9_takes : ByteArray := prog_11_method_14_code
def yX9_takes : MethodName := ⟨RX9, "takes", "(I)Z"⟩
abbrev cX9_rightLength : ByteArray := prog_11_method_15_code
def yX9_rightLength : MethodName := ⟨RX9, "rightLength", "()I"⟩
abbrev cX9_firstError : ByteArray := prog_11_method_16_code
def yX9_firstError : MethodName := ⟨RX9, "firstError", "()I"⟩
abbrev cX9_load : ByteArray := prog_11_method_17_code
def yX9_load : MethodName := ⟨RX9, "load", "()I"⟩
abbrev cX9_begin : ByteArray := prog_11_method_18_code
def yX9_begin : MethodName := ⟨RX9, "begin", "()V"⟩
abbrev cX9_put : ByteArray := prog_11_method_19_code
def yX9_put : MethodName := ⟨RX9, "put", "(J)V"⟩
abbrev cX9_addRow : ByteArray := prog_11_method_20_code
def yX9_addRow : MethodName := ⟨RX9, "addRow", "(JII)V"⟩
abbrev cX9_putRow : ByteArray := prog_11_method_21_code
def yX9_putRow : MethodName := ⟨RX9, "putRow", "(I)V"⟩
abbrev cX9_isWord : ByteArray := prog_11_method_22_code
def yX9_isWord : MethodName := ⟨RX9, "isWord", "()Z"⟩
abbrev cX9_takeWord : ByteArray := prog_11_method_23_code
def yX9_takeWord : MethodName := ⟨RX9, "takeWord", "()V"⟩
abbrev cX9_goOver : ByteArray := prog_11_method_24_code
def yX9_goOver : MethodName := ⟨RX9, "goOver", "(II)I"⟩
abbrev cX9_derives : ByteArray := prog_11_method_25_code
def yX9_derives : MethodName := ⟨RX9, "derives", "([JI)Z"⟩
abbrev cX9_accepts : ByteArray := prog_11_method_26_code
def yX9_accepts : MethodName := ⟨RX9, "accepts", "()I"⟩
abbrev cX9_waysOf : ByteArray := prog_11_method_27_code
def yX9_waysOf : MethodName := ⟨RX9, "waysOf", "(JII)J"⟩
abbrev cX9_countStretch : ByteArray := prog_11_method_28_code
def yX9_countStretch : MethodName := ⟨RX9, "countStretch", "(II)V"⟩
abbrev cX9_hasEmpty : ByteArray := prog_11_method_29_code
def yX9_hasEmpty : MethodName := ⟨RX9, "hasEmpty", "()Z"⟩
abbrev cX9_hasUnit : ByteArray := prog_11_method_30_code
def yX9_hasUnit : MethodName := ⟨RX9, "hasUnit", "()Z"⟩
abbrev cX9_countTrees : ByteArray := prog_11_method_31_code
def yX9_countTrees : MethodName := ⟨RX9, "countTrees", "()J"⟩
abbrev cX9_productionCount : ByteArray := prog_11_method_32_code
def yX9_productionCount : MethodName := ⟨RX9, "productionCount", "()I"⟩
abbrev cX9_symbol : ByteArray := prog_11_method_33_code
def yX9_symbol : MethodName := ⟨RX9, "symbol", "(II)I"⟩
abbrev cX9_allIn : ByteArray := prog_11_method_34_code
def yX9_allIn : MethodName := ⟨RX9, "allIn", "(JIIZ)Z"⟩
abbrev cX9_closedUnder : ByteArray := prog_11_method_35_code
def yX9_closedUnder : MethodName := ⟨RX9, "closedUnder", "(Z)I"⟩
abbrev cX9_nullables : ByteArray := prog_11_method_36_code
def yX9_nullables : MethodName := ⟨RX9, "nullables", "()I"⟩
abbrev cX9_nullableSet : ByteArray := prog_11_method_37_code
def yX9_nullableSet : MethodName := ⟨RX9, "nullableSet", "()I"⟩
abbrev cX9_productives : ByteArray := prog_11_method_38_code
def yX9_productives : MethodName := ⟨RX9, "productives", "()I"⟩
abbrev cX9_productiveSet : ByteArray := prog_11_method_39_code
def yX9_productiveSet : MethodName := ⟨RX9, "productiveSet", "()I"⟩
abbrev cX9_reached : ByteArray := prog_11_method_40_code
def yX9_reached : MethodName := ⟨RX9, "reached", "([JI)I"⟩
abbrev cX9_reachableSet : ByteArray := prog_11_method_41_code
def yX9_reachableSet : MethodName := ⟨RX9, "reachableSet", "()I"⟩
abbrev cX9_clearLeads : ByteArray := prog_11_method_42_code
def yX9_clearLeads : MethodName := ⟨RX9, "clearLeads", "()V"⟩
abbrev cX9_closeLeads : ByteArray := prog_11_method_43_code
def yX9_closeLeads : MethodName := ⟨RX9, "closeLeads", "()V"⟩
abbrev cX9_loops : ByteArray := prog_11_method_44_code
def yX9_loops : MethodName := ⟨RX9, "loops", "()I"⟩
abbrev cX9_layUnits : ByteArray := prog_11_method_45_code
def yX9_layUnits : MethodName := ⟨RX9, "layUnits", "()V"⟩
abbrev cX9_hasUnitCycle : ByteArray := prog_11_method_46_code
def yX9_hasUnitCycle : MethodName := ⟨RX9, "hasUnitCycle", "()Z"⟩
abbrev cX9_leftRecursiveSet : ByteArray := prog_11_method_47_code
def yX9_leftRecursiveSet : MethodName := ⟨RX9, "leftRecursiveSet", "()I"⟩
abbrev cX9_recursives : ByteArray := prog_11_method_48_code
def yX9_recursives : MethodName := ⟨RX9, "recursives", "()I"⟩
abbrev cX9_isIndex : ByteArray := prog_11_method_49_code
def yX9_isIndex : MethodName := ⟨RX9, "isIndex", "(I)Z"⟩
abbrev cX9_unitReach : ByteArray := prog_11_method_50_code
def yX9_unitReach : MethodName := ⟨RX9, "unitReach", "(I)I"⟩
abbrev cX9_firstOf : ByteArray := prog_11_method_51_code
def yX9_firstOf : MethodName := ⟨RX9, "firstOf", "(JII)I"⟩
abbrev cX9_layFirsts : ByteArray := prog_11_method_52_code
def yX9_layFirsts : MethodName := ⟨RX9, "layFirsts", "()V"⟩
abbrev cX9_layFollows : ByteArray := prog_11_method_53_code
def yX9_layFollows : MethodName := ⟨RX9, "layFollows", "()V"⟩
abbrev cX9_firstNow : ByteArray := prog_11_method_54_code
def yX9_firstNow : MethodName := ⟨RX9, "firstNow", "(I)I"⟩
abbrev cX9_followNow : ByteArray := prog_11_method_55_code
def yX9_followNow : MethodName := ⟨RX9, "followNow", "(I)I"⟩
abbrev cX9_firstSet : ByteArray := prog_11_method_56_code
def yX9_firstSet : MethodName := ⟨RX9, "firstSet", "(I)I"⟩
abbrev cX9_followSet : ByteArray := prog_11_method_57_code
def yX9_followSet : MethodName := ⟨RX9, "followSet", "(I)I"⟩
abbrev cX9_isPredictive : ByteArray := prog_11_method_58_code
def yX9_isPredictive : MethodName := ⟨RX9, "isPredictive", "()Z"⟩
abbrev cX9_isLl1 : ByteArray := prog_11_method_59_code
def yX9_isLl1 : MethodName := ⟨RX9, "isLl1", "()I"⟩
abbrev cX9_isInChomsky : ByteArray := prog_11_method_60_code
def yX9_isInChomsky : MethodName := ⟨RX9, "isInChomsky", "()Z"⟩
abbrev cX9_isChomsky : ByteArray := prog_11_method_61_code
def yX9_isChomsky : MethodName := ⟨RX9, "isChomsky", "()I"⟩
abbrev cX9_isInGreibach : ByteArray := prog_11_method_62_code
def yX9_isInGreibach : MethodName := ⟨RX9, "isInGreibach", "()Z"⟩
abbrev cX9_isGreibach : ByteArray := prog_11_method_63_code
def yX9_isGreibach : MethodName := ⟨RX9, "isGreibach", "()I"⟩
abbrev cX9_start : ByteArray := prog_11_method_64_code
def yX9_start : MethodName := ⟨RX9, "start", "()V"⟩
abbrev cX9_step : ByteArray := prog_11_method_65_code
def yX9_step : MethodName := ⟨RX9, "step", "()V"⟩
abbrev cX9_finish : ByteArray := prog_11_method_66_code
def yX9_finish : MethodName := ⟨RX9, "finish", "()I"⟩
abbrev cX9_freeOne : ByteArray := prog_11_method_67_code
def yX9_freeOne : MethodName := ⟨RX9, "freeOne", "()I"⟩
abbrev cX9_removeUseless : ByteArray := prog_11_method_68_code
def yX9_removeUseless : MethodName := ⟨RX9, "removeUseless", "()I"⟩
abbrev cX9_putWithout : ByteArray := prog_11_method_69_code
def yX9_putWithout : MethodName := ⟨RX9, "putWithout", "(JII)V"⟩
abbrev cX9_removeEmpty : ByteArray := prog_11_method_70_code
def yX9_removeEmpty : MethodName := ⟨RX9, "removeEmpty", "()I"⟩
abbrev cX9_removeUnits : ByteArray := prog_11_method_71_code
def yX9_removeUnits : MethodName := ⟨RX9, "removeUnits", "()I"⟩
abbrev cX9_mayNotStay : ByteArray := prog_11_method_72_code
def yX9_mayNotStay : MethodName := ⟨RX9, "mayNotStay", "(JIIZ)Z"⟩
abbrev cX9_veil : ByteArray := prog_11_method_73_code
def yX9_veil : MethodName := ⟨RX9, "veil", "(IZ)V"⟩
abbrev cX9_veilAll : ByteArray := prog_11_method_74_code
def yX9_veilAll : MethodName := ⟨RX9, "veilAll", "(Z)V"⟩
abbrev cX9_cut : ByteArray := prog_11_method_75_code
def yX9_cut : MethodName := ⟨RX9, "cut", "()Z"⟩
abbrev cX9_toChomsky : ByteArray := prog_11_method_76_code
def yX9_toChomsky : MethodName := ⟨RX9, "toChomsky", "()I"⟩
abbrev cX9_tell : ByteArray := prog_11_method_77_code
def yX9_tell : MethodName := ⟨RX9, "tell", "(II)V"⟩
abbrev cX9_putTold : ByteArray := prog_11_method_78_code
def yX9_putTold : MethodName := ⟨RX9, "putTold", "(JI)V"⟩
abbrev cX9_beginsWithItself : ByteArray := prog_11_method_79_code
def yX9_beginsWithItself : MethodName := ⟨RX9, "beginsWithItself", "(J)Z"⟩
abbrev cX9_unwind : ByteArray := prog_11_method_80_code
def yX9_unwind : MethodName := ⟨RX9, "unwind", "(I)V"⟩
abbrev cX9_putTail : ByteArray := prog_11_method_81_code
def yX9_putTail : MethodName := ⟨RX9, "putTail", "(JI)V"⟩
abbrev cX9_unwindAll : ByteArray := prog_11_method_82_code
def yX9_unwindAll : MethodName := ⟨RX9, "unwindAll", "()V"⟩
abbrev cX9_removeLeftRecursion : ByteArray := prog_11_method_83_code
def yX9_removeLeftRecursion : MethodName := ⟨RX9, "removeLeftRecursion", "()I"⟩
abbrev cX9_factor : ByteArray := prog_11_method_84_code
def yX9_factor : MethodName := ⟨RX9, "factor", "()Z"⟩
abbrev cX9_leftFactor : ByteArray := prog_11_method_85_code
def yX9_leftFactor : MethodName := ⟨RX9, "leftFactor", "()I"⟩
abbrev cX9_tellFirst : ByteArray := prog_11_method_86_code
def yX9_tellFirst : MethodName := ⟨RX9, "tellFirst", "()Z"⟩
abbrev cX9_toGreibach : ByteArray := prog_11_method_87_code
def yX9_toGreibach : MethodName := ⟨RX9, "toGreibach", "()I"⟩
abbrev cX9_save : ByteArray := prog_11_method_88_code
def yX9_save : MethodName := ⟨RX9, "save", "()I"⟩
abbrev cX9_restore : ByteArray := prog_11_method_89_code
def yX9_restore : MethodName := ⟨RX9, "restore", "()I"⟩
abbrev cX9_layWord : ByteArray := prog_11_method_90_code
def yX9_layWord : MethodName := ⟨RX9, "layWord", "(II)I"⟩
abbrev cX9_wordsOf : ByteArray := prog_11_method_91_code
def yX9_wordsOf : MethodName := ⟨RX9, "wordsOf", "(I)I"⟩
abbrev cX9_countNow : ByteArray := prog_11_method_92_code
def yX9_countNow : MethodName := ⟨RX9, "countNow", "(IZ)I"⟩
abbrev cX9_countWords : ByteArray := prog_11_method_93_code
def yX9_countWords : MethodName := ⟨RX9, "countWords", "(I)I"⟩
abbrev cX9_countDifferences : ByteArray := prog_11_method_94_code
def yX9_countDifferences : MethodName := ⟨RX9, "countDifferences", "(I)I"⟩
abbrev cX9_mix : ByteArray := prog_11_method_95_code
def yX9_mix : MethodName := ⟨RX9, "mix", "(J)V"⟩
abbrev cX9_digest : ByteArray := prog_11_method_96_code
def yX9_digest : MethodName := ⟨RX9, "digest", "()J"⟩
def RJ6 : String := "java/lang/Integer"
def TJ6 : u_T := fun k => match k with
  | _ => ("", "", "", false)
def tyJ6 : Nat → FieldType := fun k => match k with
  | _ => .int
abbrev wsJ60 : List Cond := u_ws RJ6 TJ6 0
theorem nmJ6 : ∀ a, a < 0 → ∀ b, b < 0 → a ≠ b → (TJ6 a).2.1 ≠ (TJ6 b).2.1 := by decide +kernel
theorem tyJ6_ok : ∀ k, k < 0 → parseFieldDescriptor (TJ6 k).2.2.1 = some (tyJ6 k) := by decide +kernel
abbrev cJ6_bitCount_0f7a4 : ByteArray := prog_12_method_49_code
def yJ6_bitCount_0f7a4 : MethodName := ⟨RJ6, "bitCount", "(I)I"⟩
def RJ13 : String := "java/lang/Long"
def TJ13 : u_T := fun k => match k with
  | _ => ("", "", "", false)
def tyJ13 : Nat → FieldType := fun k => match k with
  | _ => .int
abbrev wsJ130 : List Cond := u_ws RJ13 TJ13 0
theorem nmJ13 : ∀ a, a < 0 → ∀ b, b < 0 → a ≠ b → (TJ13 a).2.1 ≠ (TJ13 b).2.1 := by decide +kernel
theorem tyJ13_ok : ∀ k, k < 0 → parseFieldDescriptor (TJ13 k).2.2.1 = some (tyJ13 k) := by decide +kernel
abbrev cJ13_bitCount_95d88 : ByteArray := prog_13_method_50_code
def yJ13_bitCount_95d88 : MethodName := ⟨RJ13, "bitCount", "(J)I"⟩
def RJ9 : String := "java/lang/Math"
def TJ9 : u_T := fun k => match k with
  | _ => ("", "", "", false)
def tyJ9 : Nat → FieldType := fun k => match k with
  | _ => .int
abbrev wsJ90 : List Cond := u_ws RJ9 TJ9 0
theorem nmJ9 : ∀ a, a < 0 → ∀ b, b < 0 → a ≠ b → (TJ9 a).2.1 ≠ (TJ9 b).2.1 := by decide +kernel
theorem tyJ9_ok : ∀ k, k < 0 → parseFieldDescriptor (TJ9 k).2.2.1 = some (tyJ9 k) := by decide +kernel
abbrev cJ9_min_7cf53 : ByteArray := prog_14_method_69_code
def yJ9_min_7cf53 : MethodName := ⟨RJ9, "min", "(II)I"⟩
def RJ10 : String := "java/lang/System"
def TJ10 : u_T := fun k => match k with
  | _ => ("", "", "", false)
def tyJ10 : Nat → FieldType := fun k => match k with
  | _ => .int
abbrev wsJ100 : List Cond := u_ws RJ10 TJ10 0
theorem nmJ10 : ∀ a, a < 0 → ∀ b, b < 0 → a ≠ b → (TJ10 a).2.1 ≠ (TJ10 b).2.1 := by decide +kernel
theorem tyJ10_ok : ∀ k, k < 0 → parseFieldDescriptor (TJ10 k).2.2.1 = some (tyJ10 k) := by decide +kernel
def RJ7 : String := "java/util/Arrays"
def TJ7 : u_T := fun k => match k with
  | _ => ("", "", "", false)
def tyJ7 : Nat → FieldType := fun k => match k with
  | _ => .int
abbrev wsJ70 : List Cond := u_ws RJ7 TJ7 0
theorem nmJ7 : ∀ a, a < 0 → ∀ b, b < 0 → a ≠ b → (TJ7 a).2.1 ≠ (TJ7 b).2.1 := by decide +kernel
theorem tyJ7_ok : ∀ k, k < 0 → parseFieldDescriptor (TJ7 k).2.2.1 = some (tyJ7 k) := by decide +kernel
abbrev cJ7_fill_d0a16 : ByteArray := prog_16_method_101_code
def yJ7_fill_d0a16 : MethodName := ⟨RJ7, "fill", "([JJ)V"⟩
abbrev cJ7_fill_53178 : ByteArray := prog_16_method_103_code
def yJ7_fill_53178 : MethodName := ⟨RJ7, "fill", "([II)V"⟩
def RL : String := "GrammarReshaperLaw"
abbrev cL_law : ByteArray := code
def yL_law : MethodName := ⟨RL, "law", "([I)Z"⟩
end
section
/-! THE PURE MACHINE: a small interpreter over two memories (ints and longs, by cell and place) for a program given as rows; below it the theorem that the real machine does what it does. -/
abbrev si_M : Type := (Nat → Nat → Int32) × (Nat → Nat → Int64)
/-- a cell: an object (class number, codes of its fields: 0 int, 1 long, 2 boolean, t + 3 the cell t), or an array (longs or ints, its length) -/
abbrev si_kd : Type := (Nat × List Nat) ⊕ (Bool × Nat)
/-- pc, instruction, length, numbers, an int, a long, dead locals -/
abbrev si_row : Type := Nat × Instr × Nat × List Nat × Int32 × Int64 × List Nat
/-- name, bytes, locals, answer, room for frames, room for words, rows -/
abbrev si_mi : Type := MethodName × ByteArray × Nat × Option FieldType × Nat × Nat × List si_row
abbrev si_O : Type := Option Value × si_M
/-- what an instruction does: it answers; it goes on (one way or the other); it calls -/
abbrev si_D : Type := si_O ⊕ (Bool × Nat × Nat × List Value × List Value × si_M) ⊕ (Nat × List Value × Nat × Nat × List Value × List Value × si_M)
def si_sI (σ : si_M) (k j : Nat) (v : Int32) : si_M := (fun a b => if a = k then (if b = j then v else σ.1 a b) else σ.1 a b, σ.2)
def si_sJ (σ : si_M) (k j : Nat) (v : Int64) : si_M := (σ.1, fun a b => if a = k then (if b = j then v else σ.2 a b) else σ.2 a b)
/-- a whole row of longs is written -/
def si_sA (σ : si_M) (k : Nat) (f : Nat → Int64) : si_M := (σ.1, fun a b => if a = k then f b else σ.2 a b)
abbrev si_U : Value := .retAddr 0
def si_in (i : Int32) (n : Nat) : Bool := decide (0 ≤ i) && decide (i.toNatClampNeg < n)
def si_ishl (x y : Int32) : Int32 := x <<< (y &&& 31)
def si_ishr (x y : Int32) : Int32 := x >>> (y &&& 31)
def si_iushr (x y : Int32) : Int32 := (x.toUInt32 >>> (y.toUInt32 &&& Int32.toUInt32 31)).toInt32
def si_lshl (x : Int64) (y : Int32) : Int64 := x <<< (y.toInt64 &&& 63)
def si_lshr (x : Int64) (y : Int32) : Int64 := x >>> (y.toInt64 &&& 63)
def si_lushr (x : Int64) (y : Int32) : Int64 := (x.toUInt64 >>> (y.toInt64.toUInt64 &&& Int64.toUInt64 63)).toInt64
def si_irem (x y : Int32) : Int32 := x - x / y * y
def si_clr (L : List Value) : List Nat → List Value
  | [] => L
  | i :: is => si_clr (L.set i si_U) is
/-- a store at i takes a long at i - 1 away -/
def si_off (L : List Value) (i : Nat) : List Value := match i with
  | 0 => L
  | j + 1 => match L[j]? with
    | some (.long _) => L.set j si_U
    | some (.double _) => L.set j si_U
    | _ => L
def si_put1 (L : List Value) (i : Nat) (v : Value) : List Value := (si_off L i).set i v
def si_put2 (L : List Value) (i : Nat) (v : Value) : List Value := ((si_off L i).set i v).set (i + 1) si_U
def si_lay : List Value → List Value
  | [] => []
  | .long x :: vs => .long x :: si_U :: si_lay vs
  | .double x :: vs => .double x :: si_U :: si_lay vs
  | v :: vs => v :: si_lay vs
def si_ent (n : Nat) (as : List Value) : List Value := si_lay as ++ List.replicate (n - (si_lay as).length) si_U
def si_pv (σ : si_M) (k j : Nat) (c : Nat) : Value := match c with
  | 0 => .int (σ.1 k j)
  | 1 => .long (σ.2 k j)
  | 2 => .int (σ.1 k j)
  | t + 3 => .ref t
def si_j (p : Nat) (L st : List Value) (σ : si_M) : Option si_D := some (.inr (.inl (true, p, 0, L, st, σ)))
def si_br (c : Bool) (p q : Nat) (L st : List Value) (σ : si_M) : Option si_D := some (.inr (.inl (c, p, q, L, st, σ)))
/-- a test that must hold: else there is no way on -/
def si_if (c : Bool) (p : Nat) (L st : List Value) (σ : si_M) : Option si_D := some (.inr (.inl (c, p, 65535, L, st, σ)))
def si_ldI (nx i : Nat) (L st : List Value) (σ : si_M) : Option si_D := match L[i]? with
  | some (.int x) => si_j nx L (.int x :: st) σ
  | _ => none
def si_ldL (nx i : Nat) (L st : List Value) (σ : si_M) : Option si_D := match L[i]? with
  | some (.long x) => si_j nx L (.long x :: st) σ
  | _ => none
def si_ldA (nx i : Nat) (L st : List Value) (σ : si_M) : Option si_D := match L[i]? with
  | some (.ref x) => si_j nx L (.ref x :: st) σ
  | _ => none
def si_stI (nx i : Nat) (L st : List Value) (σ : si_M) : Option si_D := match st with
  | .int x :: r => if i < L.length then si_j nx (si_put1 L i (.int x)) r σ else none
  | _ => none
def si_stA (nx i : Nat) (L st : List Value) (σ : si_M) : Option si_D := match st with
  | .ref x :: r => if i < L.length then si_j nx (si_put1 L i (.ref x)) r σ else none
  | _ => none
def si_stL (nx i : Nat) (L st : List Value) (σ : si_M) : Option si_D := match st with
  | .long x :: r => if i + 1 < L.length then si_j nx (si_put2 L i (.long x)) r σ else none
  | _ => none
def si_i2 (f : Int32 → Int32 → Int32) (nx : Nat) (L st : List Value) (σ : si_M) : Option si_D := match st with
  | .int y :: .int x :: r => si_j nx L (.int (f x y) :: r) σ
  | _ => none
def si_l2 (f : Int64 → Int64 → Int64) (nx : Nat) (L st : List Value) (σ : si_M) : Option si_D := match st with
  | .long y :: .long x :: r => si_j nx L (.long (f x y) :: r) σ
  | _ => none
def si_ls (f : Int64 → Int32 → Int64) (nx : Nat) (L st : List Value) (σ : si_M) : Option si_D := match st with
  | .int y :: .long x :: r => si_j nx L (.long (f x y) :: r) σ
  | _ => none
def si_i1 (f : Int32 → Bool) (nx : Nat) (xs : List Nat) (L st : List Value) (σ : si_M) : Option si_D := match st, xs with
  | .int x :: r, [t] => si_br (f x) t nx L r σ
  | _, _ => none
def si_ic (f : Int32 → Int32 → Bool) (nx : Nat) (xs : List Nat) (L st : List Value) (σ : si_M) : Option si_D := match st, xs with
  | .int y :: .int x :: r, [t] => si_br (f x y) t nx L r σ
  | _, _ => none
def si_cat (st : List Value) : Nat := (st.map fun v => v.category).sum
/-- an instruction -/
def si_ins (ret : Option FieldType) (sh : List si_kd) (nx : Nat) (i : Instr) (xs : List Nat) (ci : Int32) (cl : Int64) (L st : List Value) (σ : si_M) : Option si_D := match i with
  | .iconst _ => si_j nx L (.int ci :: st) σ
  | .bipush _ => si_j nx L (.int ci :: st) σ
  | .sipush _ => si_j nx L (.int ci :: st) σ
  | .ldc _ => si_j nx L (.int ci :: st) σ
  | .ldc_w _ => si_j nx L (.int ci :: st) σ
  | .lconst _ => si_j nx L (.long cl :: st) σ
  | .ldc2_w _ => si_j nx L (.long cl :: st) σ
  | .iload_n k => si_ldI nx k L st σ
  | .iload k => si_ldI nx k L st σ
  | .lload_n k => si_ldL nx k L st σ
  | .lload k => si_ldL nx k L st σ
  | .aload_n k => si_ldA nx k L st σ
  | .aload k => si_ldA nx k L st σ
  | .istore_n k => si_stI nx k L st σ
  | .istore k => si_stI nx k L st σ
  | .lstore_n k => si_stL nx k L st σ
  | .lstore k => si_stL nx k L st σ
  | .astore_n k => si_stA nx k L st σ
  | .astore k => si_stA nx k L st σ
  | .iinc k _ => match L[k]? with
    | some (.int x) => si_j nx (si_put1 L k (.int (x + ci))) st σ
    | _ => none
  | .iadd => si_i2 (fun x y => x + y) nx L st σ
  | .isub => si_i2 (fun x y => x - y) nx L st σ
  | .imul => si_i2 (fun x y => x * y) nx L st σ
  | .iand => si_i2 (fun x y => x &&& y) nx L st σ
  | .ior => si_i2 (fun x y => x ||| y) nx L st σ
  | .ixor => si_i2 (fun x y => x ^^^ y) nx L st σ
  | .ishl => si_i2 si_ishl nx L st σ
  | .ishr => si_i2 si_ishr nx L st σ
  | .iushr => si_i2 si_iushr nx L st σ
  | .idiv => match st with
    | .int y :: .int x :: r => si_if (!decide (y = 0)) nx L (.int (x / y) :: r) σ
    | _ => none
  | .irem => match st with
    | .int y :: .int x :: r => si_if (!decide (y = 0)) nx L (.int (si_irem x y) :: r) σ
    | _ => none
  | .ladd => si_l2 (fun x y => x + y) nx L st σ
  | .lsub => si_l2 (fun x y => x - y) nx L st σ
  | .lmul => si_l2 (fun x y => x * y) nx L st σ
  | .land => si_l2 (fun x y => x &&& y) nx L st σ
  | .lor => si_l2 (fun x y => x ||| y) nx L st σ
  | .lxor => si_l2 (fun x y => x ^^^ y) nx L st σ
  | .lshl => si_ls si_lshl nx L st σ
  | .lshr => si_ls si_lshr nx L st σ
  | .lushr => si_ls si_lushr nx L st σ
  | .lcmp => match st with
    | .long y :: .long x :: r => si_j nx L (.int (lg_cmp x y) :: r) σ
    | _ => none
  | .i2l => match st with
    | .int x :: r => si_j nx L (.long x.toInt64 :: r) σ
    | _ => none
  | .l2i => match st with
    | .long x :: r => si_j nx L (.int x.toInt32 :: r) σ
    | _ => none
  | .dup => match st with
    | .int x :: r => si_j nx L (.int x :: .int x :: r) σ
    | .ref x :: r => si_j nx L (.ref x :: .ref x :: r) σ
    | _ => none
  | .dup2 => match st with
    | .long x :: r => si_j nx L (.long x :: .long x :: r) σ
    | .int x :: .ref y :: r => si_j nx L (.int x :: .ref y :: .int x :: .ref y :: r) σ
    | _ => none
  | .pop => match st with
    | .int _ :: r => si_j nx L r σ
    | _ => none
  | .goto _ => match xs with
    | [t] => si_j t L st σ
    | _ => none
  | .ifCond .eq _ => si_i1 (fun x => decide (x = 0)) nx xs L st σ
  | .ifCond .ne _ => si_i1 (fun x => !decide (x = 0)) nx xs L st σ
  | .ifCond .lt _ => si_i1 (fun x => decide (x < 0)) nx xs L st σ
  | .ifCond .ge _ => si_i1 (fun x => decide (0 ≤ x)) nx xs L st σ
  | .ifCond .gt _ => si_i1 (fun x => decide (0 < x)) nx xs L st σ
  | .ifCond .le _ => si_i1 (fun x => decide (x ≤ 0)) nx xs L st σ
  | .if_icmp .eq _ => si_ic (fun x y => decide (x = y)) nx xs L st σ
  | .if_icmp .ne _ => si_ic (fun x y => !decide (x = y)) nx xs L st σ
  | .if_icmp .lt _ => si_ic (fun x y => decide (x < y)) nx xs L st σ
  | .if_icmp .ge _ => si_ic (fun x y => decide (y ≤ x)) nx xs L st σ
  | .if_icmp .gt _ => si_ic (fun x y => decide (y < x)) nx xs L st σ
  | .if_icmp .le _ => si_ic (fun x y => decide (x ≤ y)) nx xs L st σ
  | .getfield _ => match st, xs with
    | .ref k :: r, [ct, j, _] => match sh[k]? with
      | some (.inl (ct', cs)) => match Nat.beq ct' ct, cs[j]? with
        | true, some c => si_j nx L (si_pv σ k j c :: r) σ
        | _, _ => none
      | _ => none
    | _, _ => none
  | .putfield _ => match st, xs with
    | .int v :: .ref k :: r, [ct, j, _] => match sh[k]? with
      | some (.inl (ct', cs)) => match Nat.beq ct' ct, cs[j]? with
        | true, some 0 => si_j nx L r (si_sI σ k j v)
        | true, some 2 => si_if (decide (v = 0) || decide (v = 1)) nx L r (si_sI σ k j v)
        | _, _ => none
      | _ => none
    | .long v :: .ref k :: r, [ct, j, _] => match sh[k]? with
      | some (.inl (ct', cs)) => match Nat.beq ct' ct, cs[j]? with
        | true, some 1 => si_j nx L r (si_sJ σ k j v)
        | _, _ => none
      | _ => none
    | _, _ => none
  | .iaload => match st with
    | .int i :: .ref k :: r => match sh[k]? with
      | some (.inr (false, n)) => si_if (si_in i n) nx L (.int (σ.1 k i.toNatClampNeg) :: r) σ
      | _ => none
    | _ => none
  | .laload => match st with
    | .int i :: .ref k :: r => match sh[k]? with
      | some (.inr (true, n)) => si_if (si_in i n) nx L (.long (σ.2 k i.toNatClampNeg) :: r) σ
      | _ => none
    | _ => none
  | .iastore => match st with
    | .int v :: .int i :: .ref k :: r => match sh[k]? with
      | some (.inr (false, n)) => si_if (si_in i n) nx L r (si_sI σ k i.toNatClampNeg v)
      | _ => none
    | _ => none
  | .lastore => match st with
    | .long v :: .int i :: .ref k :: r => match sh[k]? with
      | some (.inr (true, n)) => si_if (si_in i n) nx L r (si_sJ σ k i.toNatClampNeg v)
      | _ => none
    | _ => none
  | .arraylength => match st with
    | .ref k :: r => match sh[k]? with
      | some (.inr (_, n)) => si_j nx L (.int (nI n) :: r) σ
      | _ => none
    | _ => none
  | .ireturn => match st, ret with
    | [.int v], some .int => some (.inl (some (.int v), σ))
    | [.int v], some .boolean => some (.inl (some (.int (v &&& 1)), σ))
    | _, _ => none
  | .lreturn => match st, ret with
    | [.long v], some .long => some (.inl (some (.long v), σ))
    | _, _ => none
  | .return_ => match st, ret with
    | [], none => some (.inl (none, σ))
    | _, _ => none
  | .invokestatic _ => match xs with
    | [_, _, _, _] => match st with
      | .int n :: .int dp :: .ref k1 :: .int sp :: .ref k0 :: r => match sh[k0]?, sh[k1]? with
        | some (.inr (true, n0)), some (.inr (true, n1)) => si_if (decide (0 ≤ sp) && decide (0 ≤ dp) && decide (0 ≤ n) && decide (sp.toNatClampNeg + n.toNatClampNeg ≤ n0) && decide (dp.toNatClampNeg + n.toNatClampNeg ≤ n1) && Nat.ble (si_cat r) 8) nx L r (si_sA σ k1 (va_cpy (σ.2 k0) (σ.2 k1) sp.toNatClampNeg dp.toNatClampNeg n.toNatClampNeg))
        | _, _ => none
      | _ => none
    | [_, _, _, _, _] => match st with
      | .int y :: .int x :: r => si_if (Nat.ble (si_cat r) 8) nx L (.int (if y < x then y else x) :: r) σ
      | _ => none
    | c :: na :: rc :: _ => match Nat.ble na st.length && Nat.ble (si_cat (st.drop na)) 8 with
      | true => some (.inr (.inr (c, (st.take na).reverse, rc, nx, L, st.drop na, σ)))
      | false => none
    | _ => none
  | .invokevirtual _ => match xs with
    | c :: na :: rc :: ct :: _ => match st[na]? with
      | some (.ref k) => match sh[k]? with
        | some (.inl (ct', _)) => match Nat.beq ct' ct && Nat.ble (si_cat (st.drop (na + 1))) 8 with
          | true => some (.inr (.inr (c, .ref k :: (st.take na).reverse, rc, nx, L, st.drop (na + 1), σ)))
          | false => none
        | _ => none
      | _ => none
    | _ => none
  | _ => none
def si_cv (x : Option si_O) (k : si_M → Option si_O) : Option si_O := match x with
  | some (none, τ) => k τ
  | _ => none
def si_ci (x : Option si_O) (k : Int32 → si_M → Option si_O) : Option si_O := match x with
  | some (some (.int v), τ) => k v τ
  | _ => none
def si_cl (x : Option si_O) (k : Int64 → si_M → Option si_O) : Option si_O := match x with
  | some (some (.long v), τ) => k v τ
  | _ => none
def si_ret (rc : Nat) (x : Option si_O) (k : List Value → si_M → Option si_O) (r : List Value) : Option si_O := match rc with
  | 0 => si_cv x (fun τ => k r τ)
  | 1 => si_ci x (fun v τ => k (.int v :: r) τ)
  | 2 => si_cl x (fun v τ => k (.long v :: r) τ)
  | _ => none
def si_drv (call : Nat → List Value → si_M → Option si_O) (k : Nat → List Value → List Value → si_M → Option si_O) : Option si_D → Option si_O
  | none => none
  | some (.inl r) => some r
  | some (.inr (.inl (c, a, b, L, st, σ))) => cond c (k a L st σ) (k b L st σ)
  | some (.inr (.inr (m, as, rc, p, L, r, σ))) => si_ret rc (call m as σ) (fun st τ => k p L st τ) r
def si_get : List si_row → Nat → Option si_row
  | [], _ => none
  | r :: rs, pc => match Nat.beq r.1 pc with
    | true => some r
    | false => si_get rs pc
def si_pre (ret : Option FieldType) (sh : List si_kd) (rows : List si_row) (pc : Nat) (L st : List Value) (σ : si_M) : Option si_D := match si_get rows pc with
  | none => none
  | some (p, i, len, xs, ci, cl, dead) => si_ins ret sh (p + len) i xs ci cl (si_clr L dead) st σ
abbrev si_P : Type := List si_mi × List si_kd
def si_run (P : si_P) : Nat → Nat → Nat → List Value → List Value → si_M → Option si_O
  | 0, _, _, _, _, _ => none
  | n + 1, m, pc, L, st, σ => match P.1[m]? with
    | none => none
    | some (_, _, _, ret, _, _, rows) => si_drv (fun c as τ => match P.1[c]? with
        | none => none
        | some (_, _, mL, _) => match Nat.ble (si_lay as).length mL with
          | true => si_run P n c 0 (si_ent mL as) [] τ
          | false => none) (fun p L st τ => si_run P n m p L st τ) (si_pre ret P.2 rows pc L st σ)
end
section
/-! HOW THE PURE MACHINE'S THINGS STAND IN THE REAL ONE'S -/
def si_v (sz : Nat) : Value → Value
  | .ref k => .ref (sz + k)
  | v => v
def si_ce (dA : Bool → ClassId) (sz : Nat) (σ : si_M) (k : Nat) : si_kd → va_E
  | .inl (ct, cs) => .inr (ct, (List.range cs.length).map fun j => si_v sz (si_pv σ k j (cs.getD j 0)))
  | .inr (false, n) => .inl (dA false, n, .inl (σ.1 k))
  | .inr (true, n) => .inl (dA true, n, .inr (.inl (σ.2 k)))
def si_W (dA : Bool → ClassId) (sz : Nat) (sh : List si_kd) (σ : si_M) : va_W := (List.range sh.length).map fun k => (sz + k, si_ce dA sz σ k (sh.getD k (.inl (0, []))))
theorem si_W_at {dA : Bool → ClassId} {sz : Nat} {sh : List si_kd} {σ : si_M} {k : Nat} {d : si_kd} (h : sh[k]? = some d) : (si_W dA sz sh σ)[k]? = some (sz + k, si_ce dA sz σ k d) := by
  have hk : k < sh.length := (List.getElem?_eq_some_iff.mp h).1
  unfold si_W
  rw [List.getElem?_map, List.getElem?_range hk]
  simp [List.getD, h]
theorem si_W_of {dA : Bool → ClassId} {sz : Nat} {sh : List si_kd} {σ : si_M} {k : Nat} {q : Nat × va_E} (h : (si_W dA sz sh σ)[k]? = some q) : k < sh.length ∧ q.1 = sz + k := by
  unfold si_W at h
  rw [List.getElem?_map] at h
  by_cases hk : k < sh.length
  · rw [List.getElem?_range hk] at h
    simp at h
    exact ⟨hk, by rw [← h]⟩
  · rw [List.getElem?_eq_none (by simpa using hk)] at h
    cases h
theorem si_W_D (dA : Bool → ClassId) (sz : Nat) (sh : List si_kd) (σ : si_M) : va_D (fun q => sz ≤ q) (si_W dA sz sh σ) := by
  refine ⟨fun i j p q hp hq hpq => ?_, fun k q hq => ?_⟩
  · have h1 := (si_W_of hp).2
    have h2 := (si_W_of hq).2
    omega
  · rw [(si_W_of hq).2]; omega
theorem si_W_set {dA : Bool → ClassId} {sz : Nat} {sh : List si_kd} {σ τ : si_M} {k : Nat} {d : si_kd} {x : va_E} (h : sh[k]? = some d) (hx : si_ce dA sz τ k d = x) (ho : ∀ j d', j ≠ k → si_ce dA sz τ j d' = si_ce dA sz σ j d') : (si_W dA sz sh σ).set k (sz + k, x) = si_W dA sz sh τ := by
  have hk : k < sh.length := (List.getElem?_eq_some_iff.mp h).1
  apply List.ext_getElem?
  intro j
  rw [List.getElem?_set]
  by_cases hj : k = j
  · subst hj
    rw [si_W_at (σ := τ) h, hx]
    simp [si_W, hk]
  · simp only [hj, if_false]
    unfold si_W
    rw [List.getElem?_map, List.getElem?_map]
    by_cases hl : j < sh.length
    · rw [List.getElem?_range hl]
      simp [ho j _ (fun e => hj e.symm)]
    · rw [List.getElem?_eq_none (by simpa using hl)]
      rfl
theorem si_pv_ne {σ τ : si_M} {k : Nat} (h1 : τ.1 k = σ.1 k) (h2 : τ.2 k = σ.2 k) (j c : Nat) : si_pv τ k j c = si_pv σ k j c := by
  unfold si_pv
  rw [h1, h2]
theorem si_ce_ne {dA : Bool → ClassId} {sz : Nat} {σ τ : si_M} {k : Nat} (h1 : τ.1 k = σ.1 k) (h2 : τ.2 k = σ.2 k) (d : si_kd) : si_ce dA sz τ k d = si_ce dA sz σ k d := by
  rcases d with ⟨ct, cs⟩ | ⟨b, n⟩
  · simp only [si_ce, si_pv_ne h1 h2]
  · cases b <;> simp [si_ce, h1, h2]
theorem si_sI_row (σ : si_M) (k j : Nat) (v : Int32) : (si_sI σ k j v).1 k = upd (σ.1 k) j v := by
  funext b
  simp [si_sI, upd]
theorem si_sJ_row (σ : si_M) (k j : Nat) (v : Int64) : (si_sJ σ k j v).2 k = vp_updL (σ.2 k) j v := by
  funext b
  simp [si_sJ, vp_updL]
theorem si_sA_row (σ : si_M) (k : Nat) (f : Nat → Int64) : (si_sA σ k f).2 k = f := by
  funext b
  simp [si_sA]
theorem si_sI_o (σ : si_M) {k q : Nat} (h : q ≠ k) (j : Nat) (v : Int32) : (si_sI σ k j v).1 q = σ.1 q ∧ (si_sI σ k j v).2 q = σ.2 q := ⟨by funext b; simp [si_sI, h], rfl⟩
theorem si_sJ_o (σ : si_M) {k q : Nat} (h : q ≠ k) (j : Nat) (v : Int64) : (si_sJ σ k j v).1 q = σ.1 q ∧ (si_sJ σ k j v).2 q = σ.2 q := ⟨rfl, by funext b; simp [si_sJ, h]⟩
theorem si_sA_o (σ : si_M) {k q : Nat} (h : q ≠ k) (f : Nat → Int64) : (si_sA σ k f).1 q = σ.1 q ∧ (si_sA σ k f).2 q = σ.2 q := ⟨rfl, by funext b; simp [si_sA, h]⟩
/-- the fields of an object behind a store of one of them -/
theorem si_flds {sz : Nat} {σ τ : si_M} {k j : Nat} {cs : List Nat} {v : Value} (hj : j < cs.length) (hv : si_v sz (si_pv τ k j (cs.getD j 0)) = v) (ho : ∀ i c, i ≠ j → si_pv τ k i c = si_pv σ k i c) : ((List.range cs.length).map fun i => si_v sz (si_pv σ k i (cs.getD i 0))).set j v = (List.range cs.length).map fun i => si_v sz (si_pv τ k i (cs.getD i 0)) := by
  apply List.ext_getElem?
  intro i
  rw [List.getElem?_set]
  by_cases hi : j = i
  · subst hi
    simp [hj, ← hv]
  · simp only [hi, if_false]
    rw [List.getElem?_map, List.getElem?_map]
    by_cases hl : i < cs.length
    · rw [List.getElem?_range hl]
      simp [ho i _ (fun e => hi e.symm)]
    · rw [List.getElem?_eq_none (by simpa using hl)]
      rfl
theorem si_in_vp {i : Int32} {n : Nat} (h : si_in i n = true) : vp_in i n := by
  unfold si_in at h
  rw [Bool.and_eq_true, decide_eq_true_eq, decide_eq_true_eq] at h
  intro hh
  rcases hh with hh | hh
  · exact absurd h.1 (Int32.not_le.mpr hh)
  · omega
/-- the locals that are known -/
def si_as (sz : Nat) : Nat → List Value → List (Nat × Value)
  | _, [] => []
  | i, v :: L => match v with
    | .retAddr _ => si_as sz (i + 1) L
    | v => (i, si_v sz v) :: si_as sz (i + 1) L
theorem si_as_mem {sz : Nat} {L : List Value} : ∀ {i : Nat} {q : Nat × Value}, q ∈ si_as sz i L ↔ ∃ (j : Nat) (v : Value), L[j]? = some v ∧ (∀ p, v ≠ .retAddr p) ∧ q = (i + j, si_v sz v) := by
  induction L with
  | nil => intro i q; simp [si_as]
  | cons w L ih =>
    intro i q
    have step : (∃ (j : Nat) (v : Value), (w :: L)[j]? = some v ∧ (∀ p, v ≠ .retAddr p) ∧ q = (i + j, si_v sz v)) ↔ ((∀ p, w ≠ .retAddr p) ∧ q = (i, si_v sz w)) ∨ ∃ (j : Nat) (v : Value), L[j]? = some v ∧ (∀ p, v ≠ .retAddr p) ∧ q = (i + 1 + j, si_v sz v) := by
      constructor
      · rintro ⟨j, v, h1, h2, h3⟩
        cases j with
        | zero => simp at h1; subst h1; exact Or.inl ⟨h2, h3⟩
        | succ j => exact Or.inr ⟨j, v, by simpa using h1, h2, by rw [h3]; congr 1; omega⟩
      · rintro (⟨h2, h3⟩ | ⟨j, v, h1, h2, h3⟩)
        · exact ⟨0, w, by simp, h2, h3⟩
        · exact ⟨j + 1, v, by simpa using h1, h2, by rw [h3]; congr 1; omega⟩
    rw [step, ← ih]
    cases w <;> simp [si_as]
/-- the real locals hold the known ones -/
def si_L (sz : Nat) (L : List Value) (ls : Array Slot) (n : Nat) : Prop := lv_has ls n (si_as sz 0 L)
theorem si_L_get {sz : Nat} {L : List Value} {ls : Array Slot} {n i : Nat} {v : Value} (h : si_L sz L ls n) (hi : L[i]? = some v) (hv : ∀ p, v ≠ .retAddr p) : ls[i]? = some (.val (si_v sz v)) := by
  refine h.2.2 (i, si_v sz v) (si_as_mem.mpr ⟨i, v, hi, hv, by simp⟩)
theorem lv_has.less {ls : Array Slot} {n : Nat} {l l' : List (Nat × Value)} (h : lv_has ls n l) (hs : ∀ q ∈ l', q ∈ l) : lv_has ls n l' := ⟨h.1, h.2.1, fun q hq => h.2.2 q (hs q hq)⟩
theorem si_clr_get {L : List Value} {ds : List Nat} : ∀ {j : Nat} {v : Value}, (si_clr L ds)[j]? = some v → (∀ p, v ≠ .retAddr p) → L[j]? = some v := by
  induction ds generalizing L with
  | nil => intro j v h _; exact h
  | cons d ds ih =>
    intro j v h hv
    have h1 := ih h hv
    rw [List.getElem?_set] at h1
    split at h1
    · split at h1
      · cases h1; exact absurd rfl (hv 0)
      · cases h1
    · exact h1
theorem si_clr_len {L : List Value} {ds : List Nat} : (si_clr L ds).length = L.length := by
  induction ds generalizing L with
  | nil => rfl
  | cons d ds ih => simp only [si_clr]; rw [ih]; simp
theorem si_L_clr {sz : Nat} {L : List Value} {ls : Array Slot} {n : Nat} (h : si_L sz L ls n) (ds : List Nat) : si_L sz (si_clr L ds) ls n := by
  refine lv_has.less h fun q hq => ?_
  obtain ⟨j, v, h1, h2, h3⟩ := si_as_mem.mp hq
  exact si_as_mem.mpr ⟨j, v, si_clr_get h1 h2, h2, h3⟩
theorem si_off_get {L : List Value} {i j : Nat} {v : Value} (h : (si_off L i)[j]? = some v) (hv : ∀ p, v ≠ .retAddr p) : L[j]? = some v ∧ ¬ (j + 1 = i ∧ v.category = 2) := by
  have aux : ∀ (i : Nat), (L.set i si_U)[j]? = some v → L[j]? = some v ∧ ¬ (j + 1 = i + 1 ∧ v.category = 2) := by
    intro i h
    rw [List.getElem?_set] at h
    split at h
    · split at h
      · cases h; exact absurd rfl (hv 0)
      · cases h
    · exact ⟨h, fun e => by omega⟩
  unfold si_off at h
  split at h
  · exact ⟨h, fun e => by omega⟩
  · rename_i i
    split at h
    · exact aux i h
    · exact aux i h
    · rename_i hx hy
      refine ⟨h, fun e => ?_⟩
      obtain ⟨e1, e2⟩ := e
      have e4 : j = i := by omega
      subst e4
      cases v with
      | long x => exact hx x h
      | double x => exact hy x h
      | _ => cases e2
theorem si_off_len {L : List Value} {i : Nat} : (si_off L i).length = L.length := by
  unfold si_off
  split
  · rfl
  · split <;> simp
theorem si_v_cat (sz : Nat) (v : Value) : (si_v sz v).category = v.category := by cases v <;> rfl
theorem si_L_put1 {sz : Nat} {L : List Value} {ls : Array Slot} {n i : Nat} {v : Value} (hv : ∀ p, v ≠ .retAddr p) (h : lv_has ls n ((i, si_v sz v) :: (si_as sz 0 L).filter (fun q => !(q.1 == i) && !(q.1 + 1 == i && q.2.category == 2)))) : si_L sz (si_put1 L i v) ls n := by
  refine lv_has.less h fun q hq => ?_
  obtain ⟨j, w, h1, h2, h3⟩ := si_as_mem.mp hq
  unfold si_put1 at h1
  rw [List.getElem?_set] at h1
  split at h1
  · rename_i e
    split at h1
    · cases h1
      rw [h3, ← e]
      simp
    · cases h1
  · rename_i e
    obtain ⟨h4, h5⟩ := si_off_get h1 h2
    refine List.mem_cons_of_mem _ (List.mem_filter.mpr ⟨si_as_mem.mpr ⟨j, w, h4, h2, h3⟩, ?_⟩)
    rw [h3]
    have e1 : ¬ (0 + j = i) := by omega
    have e2 : ¬ (0 + j + 1 = i ∧ (si_v sz w).category = 2) := by
      rintro ⟨a, b⟩
      rw [si_v_cat] at b
      exact h5 ⟨by omega, b⟩
    simp only [Bool.and_eq_true, Bool.not_eq_true', beq_eq_false_iff_ne, ne_eq, Bool.and_eq_false_iff]
    refine ⟨e1, ?_⟩
    by_cases a : 0 + j + 1 = i
    · exact Or.inr fun b => e2 ⟨a, b⟩
    · exact Or.inl a
theorem si_L_put2 {sz : Nat} {L : List Value} {ls : Array Slot} {n i : Nat} {v : Value} (hv : ∀ p, v ≠ .retAddr p) (h : lv_has ls n ((i, si_v sz v) :: (si_as sz 0 L).filter (fun q => !(q.1 == i) && (!(q.1 == i + 1) && !(q.1 + 1 == i && q.2.category == 2))))) : si_L sz (si_put2 L i v) ls n := by
  refine lv_has.less h fun q hq => ?_
  obtain ⟨j, w, h1, h2, h3⟩ := si_as_mem.mp hq
  unfold si_put2 at h1
  rw [List.getElem?_set] at h1
  split at h1
  · split at h1
    · cases h1; exact absurd rfl (h2 0)
    · cases h1
  rename_i e0
  rw [List.getElem?_set] at h1
  split at h1
  · rename_i e
    split at h1
    · cases h1
      rw [h3, ← e]
      simp
    · cases h1
  · rename_i e
    obtain ⟨h4, h5⟩ := si_off_get h1 h2
    refine List.mem_cons_of_mem _ (List.mem_filter.mpr ⟨si_as_mem.mpr ⟨j, w, h4, h2, h3⟩, ?_⟩)
    rw [h3]
    have e1 : ¬ (0 + j = i) := by omega
    have e2 : ¬ (0 + j + 1 = i ∧ (si_v sz w).category = 2) := by
      rintro ⟨a, b⟩
      rw [si_v_cat] at b
      exact h5 ⟨by omega, b⟩
    have e3 : ¬ (0 + j = i + 1) := by omega
    simp only [Bool.and_eq_true, Bool.not_eq_true', beq_eq_false_iff_ne, ne_eq, Bool.and_eq_false_iff]
    refine ⟨e1, e3, ?_⟩
    by_cases a : 0 + j + 1 = i
    · exact Or.inr fun b => e2 ⟨a, b⟩
    · exact Or.inl a
end
section
/-! THE CHECK OF A PROGRAM'S ROWS, AND THE THEOREM: the real machine follows the pure one -/
/-- the tables' words that stay true as the tables warm -/
def si_tb : List Jvm.Cond := lw_tbl.filter goodWord
/-- the links to nest mates' private methods -/
def si_isN : Jvm.Cond → Bool
  | .methodLinkNest _ _ _ _ => true
  | _ => false
def si_nb : List Jvm.Cond := lw_tbl.filter si_isN
def si_Nk (U : State) : Prop := ∀ w ∈ si_nb, va_Nw w U
theorem si_Nk.warm {s U : State} (hW : s.WarmedH U.vm) (h : si_Nk s) : si_Nk U := by
  intro w hw
  have h1 := (List.mem_filter.mp hw).2
  cases w with
  | methodLinkNest a i x hh => exact va_Nw.warmM hW (h _ hw)
  | _ => cases h1
theorem si_Nk.same {u U : State} (h : u.vm = U.vm) (hZ : si_Nk u) : si_Nk U := by
  intro w hw
  have h1 := (List.mem_filter.mp hw).2
  cases w with
  | methodLinkNest a i x hh => exact va_Nw.same rfl h (hZ _ hw)
  | _ => cases h1
def si_wi (i : Nat) (w : Jvm.Cond) : Bool := decide (lw_tbl[i]? = some w) && goodWord w
theorem si_wi_mem {i : Nat} {w : Jvm.Cond} (h : si_wi i w = true) : w ∈ si_tb := by
  unfold si_wi at h
  rw [Bool.and_eq_true] at h
  exact List.mem_filter.mpr ⟨List.mem_of_getElem? (of_decide_eq_true h.1), h.2⟩
/-- the link of a static call: plain, or to a nest mate's private method -/
def si_lk (own : String) (k : Nat) (y : MethodName) (i : Nat) : Bool := match lw_tbl[i]? with
  | some (.methodLink o j z) => decide (o = own ∧ j = k ∧ z = y) && goodWord (.methodLink o j z)
  | some (.methodLinkNest o j z _) => decide (o = own ∧ j = k ∧ z = y) 
  | _ => false
theorem si_lk_mem {own : String} {k i : Nat} {y : MethodName} (h : si_lk own k y i = true) : Jvm.Cond.methodLink own k y ∈ si_tb ∨ ∃ host, Jvm.Cond.methodLinkNest own k y host ∈ si_nb := by
  unfold si_lk at h
  split at h
  · rename_i o j z hw
    rw [Bool.and_eq_true] at h
    obtain ⟨rfl, rfl, rfl⟩ := of_decide_eq_true h.1
    exact Or.inl (List.mem_filter.mpr ⟨List.mem_of_getElem? hw, h.2⟩)
  · rename_i o j z host hw
    obtain ⟨rfl, rfl, rfl⟩ := of_decide_eq_true h
    exact Or.inr ⟨host, List.mem_filter.mpr ⟨List.mem_of_getElem? hw, rfl⟩⟩
  · cases h
def si_np (y : MethodName) (n : Nat) : Bool := decide (y.cls ≠ "java/lang/invoke/MethodHandle" ∧ y.cls ≠ "java/lang/invoke/VarHandle") && decide ((parseMethodDescriptor y.desc).map (fun d => d.parameters.length) = some n)
def si_cok (mt : List si_mi) (cl : List vw_C) (own : String) (fr lo k : Nat) (xs : List Nat) (virt : Bool) : Bool := match virt, xs with
  | false, [w1, w2, w3, w4] => si_wi w1 (.methodLink own k arraycopyName) && si_wi w2 (.native arraycopyName) && si_wi w3 (.static arraycopyName) && si_wi w4 (.initialized "java/lang/System") && Nat.ble 1 fr && Nat.ble (8 + (nativeFrameWords "java/lang/System" "arraycopy" 5 + 11)) lo
  | false, [w1, w2, w3, w4, _] => si_wi w1 (.methodLink own k Lib.Math.min.name) && si_wi w2 (.static Lib.Math.min.name) && si_wi w3 (.initialized "java/lang/Math") && si_wi w4 (.code Lib.Math.min.name Lib.Math.min.code 2 (some .int)) && Nat.ble 1 fr && Nat.ble 21 lo
  | false, [c, na, _, w1, w2, w3, w4] => match mt[c]? with
    | some (y, bs, mL, ret, fr2, lo2, _) => si_lk own k y w1 && si_wi w2 (.static y) && si_wi w3 (.initialized y.cls) && si_wi w4 (.code y bs mL ret) && si_np y na && Nat.ble (fr2 + 1) fr && Nat.ble (8 + (mL + 11) + lo2) lo
    | none => false
  | true, [c, na, _, ct, w1, w2, w3, w4, w5] => match mt[c]?, cl[ct]? with
    | some (y, bs, mL, ret, fr2, lo2, _), some (C, _, _) => decide (y.cls = C) && si_wi w1 (.methodLink own k y) && si_wi w2 (.instanceMethod y) && si_wi w3 (.initialized y.cls) && si_wi w4 (.code y bs mL ret) && si_wi w5 (.selects y.cls y y) && si_np y na && Nat.ble (fr2 + 1) fr && Nat.ble (8 + (mL + 11) + lo2) lo
    | _, _ => false
  | _, _ => false
def si_fok (cl : List vw_C) (own : String) (k : Nat) (xs : List Nat) (put : Bool) : Bool := match xs with
  | [ct, j, w] => match cl[ct]? with
    | some (_, T, N) => Nat.blt j N && si_wi w (.fieldLink own k (T j).1 (T j).2.1 (T j).2.2.1) && (!put || !(T j).2.2.2)
    | none => false
  | _ => false
def si_tok (pc : Nat) (off : Int) (xs : List Nat) : Bool := match xs with
  | [t] => decide ((pc : Int) + off = (t : Int))
  | _ => false
def si_kok (xs : List Nat) (w : Jvm.Cond) : Bool := match xs with
  | [i] => si_wi i w
  | _ => false
/-- what is asked of a row beside its decoding -/
def si_iok (mt : List si_mi) (cl : List vw_C) (own : String) (fr lo pc : Nat) (i : Instr) (xs : List Nat) (ci : Int32) (cL : Int64) : Bool := match i with
  | .iconst n => decide (Int32.ofInt n = ci)
  | .bipush n => decide ((Int8.ofInt n).toInt32 = ci)
  | .sipush n => decide ((Int16.ofInt n).toInt32 = ci)
  | .ldc k => si_kok xs (.constant own k ci)
  | .ldc_w k => si_kok xs (.constant own k ci)
  | .lconst n => decide (Int64.ofNat (n : Nat) = cL)
  | .ldc2_w k => si_kok xs (.constantLong own k cL)
  | .iinc _ n => decide (Int32.ofInt n = ci)
  | .goto off => si_tok pc off xs
  | .ifCond _ off => si_tok pc off xs
  | .if_icmp _ off => si_tok pc off xs
  | .getfield k => si_fok cl own k xs false
  | .putfield k => si_fok cl own k xs true
  | .invokestatic k => si_cok mt cl own fr lo k xs false
  | .invokevirtual k => si_cok mt cl own fr lo k xs true
  | _ => true
def si_len (i : Instr) : Nat := match i with
  | .bipush _ | .ldc _ | .iload _ | .lload _ | .aload _ | .istore _ | .lstore _ | .astore _ => 2
  | .sipush _ | .ldc_w _ | .ldc2_w _ | .iinc _ _ | .goto _ | .ifCond _ _ | .if_icmp _ _ | .getfield _ | .putfield _ | .invokestatic _ | .invokevirtual _ => 3
  | _ => 1
def si_rok (mt : List si_mi) (cl : List vw_C) (y : MethodName) (bs : ByteArray) (fr lo : Nat) (r : si_row) : Bool := match r with
  | (pc, i, len, xs, ci, cL, _) => decide (decode bs pc = .ok (i, len)) && Nat.beq len (si_len i) && si_iok mt cl y.cls fr lo pc i xs ci cL
def si_mok (mt : List si_mi) (cl : List vw_C) (m : si_mi) : Bool := match m with
  | (y, bs, _, _, fr, lo, rows) => plainName y.cls && rows.all (si_rok mt cl y bs fr lo)
/-- what the classes' tables must say -/
def si_clok (cl : List vw_C) : Prop := ∀ (ct : Nat) (C : String) (T : u_T) (N : Nat), cl[ct]? = some (C, T, N) → (∀ w ∈ u_ws C T N, w ∈ si_tb) ∧ (∃ ty : Nat → FieldType, ∀ k, k < N → parseFieldDescriptor (T k).2.2.1 = some (ty k)) ∧ ∀ a, a < N → ∀ b, b < N → a ≠ b → (T a).2.1 ≠ (T b).2.1
/-- the codes of the cells' fields are their types -/
def si_shok (cl : List vw_C) (sh : List si_kd) : Prop := ∀ (k ct : Nat) (cs : List Nat), sh[k]? = some (.inl (ct, cs)) → ∃ (C : String) (T : u_T), cl[ct]? = some (C, T, cs.length) ∧ ∀ (j c : Nat), cs[j]? = some c → parseFieldDescriptor (T j).2.2.1 = (match c with | 0 => some .int | 1 => some .long | 2 => some .boolean | _ => parseFieldDescriptor (T j).2.2.1)
def si_good : Prop := ∀ w ∈ si_tb, (w.onTables && w.keeps) = true ∨ ∃ ty, w = Jvm.Cond.arrayClass ty
def si_Pc (D : va_G) (dA : Bool → ClassId) (cl : List vw_C) (sz : Nat) (sh : List si_kd) (as : List Value) (σ : si_M) : Array Value → State → Prop := va_Pc (as.map (si_v sz)) (fun U => va_P D cl (si_W dA sz sh σ) U.heap ∧ va_K D cl [(dA false, .int), (dA true, .long)] U ∧ si_Nk U)
def si_Qc (D : va_G) (dA : Bool → ClassId) (cl : List vw_C) (sz : Nat) (sh : List si_kd) (o : si_O) : Array Value → State → Outcome → State → Prop := fun _ st oc t => oc = .returned (o.1.map (si_v sz)) ∧ va_P D cl (si_W dA sz sh o.2) t.heap ∧ va_F (fun q => sz ≤ q) st t
def si_fr (sz : Nat) : Addr → Prop := fun q => sz ≤ q
def si_rm (fr lo : Nat) : Room := { frames := fr, cells := 0, slots := 0, locals := lo }
/-- a call of a method that makes nothing, goes on -/
theorem si_goes {p : Program} {l : Launch} {e : Env} {R : Room} {s : State} {m : MethodId} {args : Array Value} {below : List Frame} {meth : Method} {c : Code} {H : Heap} {locs : List Loc} {cells slots : Nat} {Q : State → Prop} {pc : Nat} {ls : Array Slot} {rest st0 : List Value} {H0 : Heap} {D : va_G} {dA : Bool → ClassId} {cl : List vw_C} {sz : Nat} {sh : List si_kd} {o : si_O} {a : Array Value}
    (hr : va_Run p l e R s m args below meth c H locs cells slots 0 0 (F0 m pc ls st0) rest (si_Qc D dA cl sz sh o a) (si_fr sz)) (hS : va_S (fun q => sz ≤ q) H0 H locs)
    (kk : ∀ (H1 : Heap) (locs1 : List Loc), va_P D cl (si_W dA sz sh o.2) H1 → va_S (fun q => sz ≤ q) H0 H1 locs1 → W p l e R s m args below meth c H1 locs1 cells slots Q (F0 m (pc + 3) ls ((o.1.map (si_v sz)).toList ++ rest))) : W p l e R s m args below meth c H locs cells slots Q (F0 m pc ls st0) := by
  intro T hT X
  obtain ⟨v, st₀, t, T', L, h0, X', hL, e1, e2, ⟨hv, hp, hz, hk⟩, st⟩ := hr T hT X
  cases hv
  rw [h0] at hz hk
  obtain ⟨t2, a1, b1⟩ := kk T'.heap (locs ++ L) (by rw [e1]; exact hp)
    ⟨Nat.le_trans hS.1 (by rw [e1]; exact hz), fun q h1 h2 => by rw [e1, hk q (Nat.lt_of_lt_of_le h1 hS.1) h2]; exact hS.2.1 q h1 h2, fun q hq => by
      rcases List.mem_append.mp hq with h | h
      · exact hS.2.2 q h
      · exact hL q h⟩ T' rfl X'
  exact ⟨t2, st t2 a1, b1⟩
section SIM
variable {p : Program} {l : Launch} {e : Env} {s : State} {m : MethodId} {args : Array Value} {below : List Frame} {meth : Method} {c : Code} {D : va_G} {dA : Bool → ClassId} {cl : List vw_C} {sz : Nat} {sh : List si_kd} {mt : List si_mi} {R : Room} {cells slots : Nat} {Q : State → Prop} {bs : ByteArray} {own : String} {mL : Nat} {H0 : Heap}
/-- what holds all through a method's body -/
def si_Ctx (p : Program) (s : State) (m : MethodId) (args : Array Value) (c : Code) (D : va_G) (dA : Bool → ClassId) (cl : List vw_C) (bs : ByteArray) (own : String) (mL : Nat) : Prop := p.tables.exec = Jvm.exec ∧ c.code = bs ∧ c.maxLocals = mL ∧ s.vm.findClass own = some m.cls ∧ (∀ w ∈ si_tb, w.before args s = true) ∧ va_K D cl [(dA false, .int), (dA true, .long)] s ∧ si_Nk s
/-- what holds at a point of it -/
def si_At (s : State) (D : va_G) (dA : Bool → ClassId) (cl : List vw_C) (sz : Nat) (sh : List si_kd) (mL : Nat) (H0 : Heap) (σ : si_M) (L : List Value) (H : Heap) (locs : List Loc) (ls : Array Slot) : Prop := L.length = mL ∧ va_P D cl (si_W dA sz sh σ) H ∧ va_S (fun q => sz ≤ q) H0 H locs ∧ si_L sz L ls mL
theorem si_jw {call : Nat → List Value → si_M → Option si_O} {k : Nat → List Value → List Value → si_M → Option si_O} {o : si_O} {pc : Nat} {L st : List Value} {σ : si_M} (h : si_drv call k (si_j pc L st σ) = some o) : k pc L st σ = some o := h
theorem si_ifw {call : Nat → List Value → si_M → Option si_O} {k : Nat → List Value → List Value → si_M → Option si_O} {o : si_O} {c : Bool} {pc : Nat} {L st : List Value} {σ : si_M} (hk0 : ∀ L st σ, k 65535 L st σ = none) (h : si_drv call k (si_if c pc L st σ) = some o) : c = true ∧ k pc L st σ = some o := by
  cases c with
  | true => exact ⟨rfl, h⟩
  | false => exact absurd ((hk0 L st σ).symm.trans h) (by simp)
theorem si_brw {call : Nat → List Value → si_M → Option si_O} {k : Nat → List Value → List Value → si_M → Option si_O} {o : si_O} {c : Bool} {a b : Nat} {L st : List Value} {σ : si_M} (h : si_drv call k (si_br c a b L st σ) = some o) : (c = true → k a L st σ = some o) ∧ (c = false → k b L st σ = some o) := by
  cases c with
  | true => exact ⟨fun _ => h, (fun e => by cases e)⟩
  | false => exact ⟨(fun e => by cases e), fun _ => h⟩
theorem si_P_I {H : Heap} {σ : si_M} {k n : Nat} (h : sh[k]? = some (.inr (false, n))) : (si_W dA sz sh σ)[k]? = some (sz + k, .inl (dA false, n, .inl (σ.1 k))) := si_W_at h
theorem si_P_J {H : Heap} {σ : si_M} {k n : Nat} (h : sh[k]? = some (.inr (true, n))) : (si_W dA sz sh σ)[k]? = some (sz + k, .inl (dA true, n, .inr (.inl (σ.2 k)))) := si_W_at h
theorem si_P_O {H : Heap} {σ : si_M} {k ct : Nat} {cs : List Nat} (h : sh[k]? = some (.inl (ct, cs))) : (si_W dA sz sh σ)[k]? = some (sz + k, .inr (ct, (List.range cs.length).map fun j => si_v sz (si_pv σ k j (cs.getD j 0)))) := si_W_at h
theorem si_len1 {len : Nat} {n : Nat} (h : Nat.beq len n = true) : len = n := Nat.eq_of_beq_eq_true h
set_option maxHeartbeats 8000000 in
set_option maxRecDepth 100000 in
/-- one instruction that neither calls nor answers -/
theorem si_step {call : Nat → List Value → si_M → Option si_O} {k : Nat → List Value → List Value → si_M → Option si_O} {o : si_O} {ret : Option FieldType} {pc len : Nat} {i : Instr} {xs : List Nat} {ci : Int32} {cL : Int64} {L st : List Value} {σ : si_M} {fr lo : Nat} {H : Heap} {locs : List Loc} {ls : Array Slot}
    (hcl : si_clok cl) (hsh : si_shok cl sh) (X : si_Ctx p s m args c D dA cl bs own mL) (hR : Nat.ble 1 fr = true → 1 ≤ R.frames) (hR2 : lo ≤ R.locals) (hRc : cells ≤ R.cells) (hRs : slots ≤ R.slots)
    (hk0 : ∀ L st σ, k 65535 L st σ = none)
    (hk : ∀ pc' L' st' σ' H' locs' ls', k pc' L' st' σ' = some o → si_At s D dA cl sz sh mL H0 σ' L' H' locs' ls' → W p l e R s m args below meth c H' locs' cells slots Q (F0 m pc' ls' (st'.map (si_v sz))))
    (hcS : ∀ n c' na rc tl, i = .invokestatic n → xs = c' :: na :: rc :: tl → tl.length ≠ 1 ∧ tl.length ≠ 2 → na ≤ st.length → si_cat (st.drop na) ≤ 8 → si_ret rc (call c' (st.take na).reverse σ) (fun st τ => k (pc + 3) L st τ) (st.drop na) = some o → W p l e R s m args below meth c H locs cells slots Q (F0 m pc ls (st.map (si_v sz))))
    (hcV : ∀ n c' na rc ct tl q cs, i = .invokevirtual n → xs = c' :: na :: rc :: ct :: tl → st[na]? = some (.ref q) → sh[q]? = some (.inl (ct, cs)) → si_cat (st.drop (na + 1)) ≤ 8 → si_ret rc (call c' (.ref q :: (st.take na).reverse) σ) (fun st τ => k (pc + 3) L st τ) (st.drop (na + 1)) = some o → W p l e R s m args below meth c H locs cells slots Q (F0 m pc ls (st.map (si_v sz))))
    (hend : (i = .ireturn ∨ i = .lreturn ∨ i = .return_) → si_ins ret sh (pc + len) i xs ci cL L st σ = some (.inl o) → W p l e R s m args below meth c H locs cells slots Q (F0 m pc ls (st.map (si_v sz))))
    (hd : decode bs pc = .ok (i, len)) (hlen : len = si_len i) (hok : si_iok mt cl own fr lo pc i xs ci cL = true)
    (A : si_At s D dA cl sz sh mL H0 σ L H locs ls) (h : si_drv call k (si_ins ret sh (pc + len) i xs ci cL L st σ) = some o) :
    W p l e R s m args below meth c H locs cells slots Q (F0 m pc ls (st.map (si_v sz))) := by
  obtain ⟨hx, hb, hml, hown, hts, hK, hNk⟩ := X
  obtain ⟨hL, hP, hS, hl⟩ := id A
  have hD := si_W_D dA sz sh σ
  subst hlen
  cases i with
  | iconst n =>
    exact lv_iconst hx hb hd (of_decide_eq_true hok) (hk _ _ _ _ _ _ _ h A)
  | bipush n =>
    exact lv_bipush hx hb hd (of_decide_eq_true hok) (hk _ _ _ _ _ _ _ h A)
  | sipush n =>
    exact lv_sipush hx hb hd (of_decide_eq_true hok) (hk _ _ _ _ _ _ _ h A)
  | lconst n =>
    exact lv_lconst hx hb hd (of_decide_eq_true hok) (hk _ _ _ _ _ _ _ h A)
  | ldc n =>
    simp only [si_iok, si_kok] at hok
    split at hok
    · exact lv_ldc hx hb hown (hts _ (si_wi_mem hok)) hd (hk _ _ _ _ _ _ _ h A)
    · cases hok
  | ldc_w n =>
    simp only [si_iok, si_kok] at hok
    split at hok
    · exact lv_ldcw hx hb hown (hts _ (si_wi_mem hok)) hd (hk _ _ _ _ _ _ _ h A)
    · cases hok
  | ldc2_w n =>
    simp only [si_iok, si_kok] at hok
    split at hok
    · exact lv_ldc2 hx hb hown (hts _ (si_wi_mem hok)) hd (hk _ _ _ _ _ _ _ h A)
    · cases hok
  | iload_n n =>
    simp only [si_ins, si_ldI] at h
    split at h
    · rename_i x hx2
      exact lv_iload_n hx hb hd rfl (si_L_get hl hx2 (fun _ e => by cases e)) (hk _ _ _ _ _ _ _ h A)
    · cases h
  | iload n =>
    simp only [si_ins, si_ldI] at h
    split at h
    · rename_i x hx2
      exact lv_iload hx hb hd (si_L_get hl hx2 (fun _ e => by cases e)) (hk _ _ _ _ _ _ _ h A)
    · cases h
  | lload_n n =>
    simp only [si_ins, si_ldL] at h
    split at h
    · rename_i x hx2
      exact lv_lload_n hx hb hd rfl (si_L_get hl hx2 (fun _ e => by cases e)) (hk _ _ _ _ _ _ _ h A)
    · cases h
  | lload n =>
    simp only [si_ins, si_ldL] at h
    split at h
    · rename_i x hx2
      exact lv_lload hx hb hd (si_L_get hl hx2 (fun _ e => by cases e)) (hk _ _ _ _ _ _ _ h A)
    · cases h
  | aload_n n =>
    simp only [si_ins, si_ldA] at h
    split at h
    · rename_i x hx2
      exact lv_aload_n hx hb hd rfl (si_L_get hl hx2 (fun _ e => by cases e)) (hk _ _ _ _ _ _ _ h A)
    · cases h
  | aload n =>
    simp only [si_ins, si_ldA] at h
    split at h
    · rename_i x hx2
      exact lv_aload hx hb hd (si_L_get hl hx2 (fun _ e => by cases e)) (hk _ _ _ _ _ _ _ h A)
    · cases h
  | istore_n n =>
    simp only [si_ins, si_stI] at h
    split at h
    · rename_i x r
      split at h
      · rename_i hlt
        exact lv_istore_n hx hb hd rfl hl (by rw [hL] at hlt; exact hlt) rfl (fun ls' hl' => hk _ _ _ _ _ _ _ h ⟨by simp [si_put1, si_off_len]; exact hL, hP, hS, si_L_put1 (fun _ e => by cases e) hl'⟩)
      · cases h
    · cases h
  | istore n =>
    simp only [si_ins, si_stI] at h
    split at h
    · rename_i x r
      split at h
      · rename_i hlt
        exact lv_istore hx hb hd hl (by rw [hL] at hlt; exact hlt) rfl (fun ls' hl' => hk _ _ _ _ _ _ _ h ⟨by simp [si_put1, si_off_len]; exact hL, hP, hS, si_L_put1 (fun _ e => by cases e) hl'⟩)
      · cases h
    · cases h
  | astore_n n =>
    simp only [si_ins, si_stA] at h
    split at h
    · rename_i x r
      split at h
      · rename_i hlt
        exact lv_astore_n hx hb hd rfl hl (by rw [hL] at hlt; exact hlt) rfl (fun ls' hl' => hk _ _ _ _ _ _ _ h ⟨by simp [si_put1, si_off_len]; exact hL, hP, hS, si_L_put1 (fun _ e => by cases e) hl'⟩)
      · cases h
    · cases h
  | astore n =>
    simp only [si_ins, si_stA] at h
    split at h
    · rename_i x r
      split at h
      · rename_i hlt
        exact lv_astore hx hb hd hl (by rw [hL] at hlt; exact hlt) rfl (fun ls' hl' => hk _ _ _ _ _ _ _ h ⟨by simp [si_put1, si_off_len]; exact hL, hP, hS, si_L_put1 (fun _ e => by cases e) hl'⟩)
      · cases h
    · cases h
  | lstore_n n =>
    simp only [si_ins, si_stL] at h
    split at h
    · rename_i x r
      split at h
      · rename_i hlt
        exact lv_lstore_n hx hb hd rfl hl (by rw [hL] at hlt; exact hlt) rfl (fun ls' hl' => hk _ _ _ _ _ _ _ h ⟨by simp [si_put2, si_off_len]; exact hL, hP, hS, si_L_put2 (fun _ e => by cases e) hl'⟩)
      · cases h
    · cases h
  | lstore n =>
    simp only [si_ins, si_stL] at h
    split at h
    · rename_i x r
      split at h
      · rename_i hlt
        exact lv_lstore hx hb hd hl (by rw [hL] at hlt; exact hlt) rfl (fun ls' hl' => hk _ _ _ _ _ _ _ h ⟨by simp [si_put2, si_off_len]; exact hL, hP, hS, si_L_put2 (fun _ e => by cases e) hl'⟩)
      · cases h
    · cases h
  | iinc n d =>
    simp only [si_ins] at h
    split at h
    · rename_i x hx2
      have hlt : (n : Nat) < mL := by rw [← hL]; exact (List.getElem?_eq_some_iff.mp hx2).1
      obtain ⟨q, hq⟩ := List.getElem?_of_mem (si_as_mem.mpr ⟨n, .int x, hx2, (fun _ e => by cases e), rfl⟩ : _ ∈ si_as sz 0 L)
      rw [Nat.zero_add] at hq
      have hci : Int32.ofInt d = ci := of_decide_eq_true hok
      exact lv_iinc hx hb hd hl hq (by rw [hci]) hlt rfl (fun ls' hl' => hk _ _ _ _ _ _ _ h ⟨by simp [si_put1, si_off_len]; exact hL, hP, hS, si_L_put1 (fun _ e => by cases e) hl'⟩)
    · cases h
  | iadd =>
    simp only [si_ins, si_i2] at h
    split at h
    · exact lv_iadd hx hb hd (hk _ _ _ _ _ _ _ h A)
    · cases h
  | isub =>
    simp only [si_ins, si_i2] at h
    split at h
    · exact lv_isub hx hb hd (hk _ _ _ _ _ _ _ h A)
    · cases h
  | imul =>
    simp only [si_ins, si_i2] at h
    split at h
    · exact lv_imul hx hb hd (hk _ _ _ _ _ _ _ h A)
    · cases h
  | iand =>
    simp only [si_ins, si_i2] at h
    split at h
    · exact lv_iand hx hb hd (hk _ _ _ _ _ _ _ h A)
    · cases h
  | ior =>
    simp only [si_ins, si_i2] at h
    split at h
    · exact lv_ior hx hb hd (hk _ _ _ _ _ _ _ h A)
    · cases h
  | ixor =>
    simp only [si_ins, si_i2] at h
    split at h
    · exact lv_ixor hx hb hd (hk _ _ _ _ _ _ _ h A)
    · cases h
  | ishl =>
    simp only [si_ins, si_i2] at h
    split at h
    · exact lv_ishl hx hb hd (hk _ _ _ _ _ _ _ h A)
    · cases h
  | ishr =>
    simp only [si_ins, si_i2] at h
    split at h
    · exact lv_ishr hx hb hd (hk _ _ _ _ _ _ _ h A)
    · cases h
  | iushr =>
    simp only [si_ins, si_i2] at h
    split at h
    · exact lv_iushr hx hb hd rfl (hk _ _ _ _ _ _ _ h A)
    · cases h
  | ladd =>
    simp only [si_ins, si_l2] at h
    split at h
    · exact lv_ladd hx hb hd (hk _ _ _ _ _ _ _ h A)
    · cases h
  | lsub =>
    simp only [si_ins, si_l2] at h
    split at h
    · exact lv_lsub hx hb hd (hk _ _ _ _ _ _ _ h A)
    · cases h
  | lmul =>
    simp only [si_ins, si_l2] at h
    split at h
    · exact lv_lmul hx hb hd (hk _ _ _ _ _ _ _ h A)
    · cases h
  | land =>
    simp only [si_ins, si_l2] at h
    split at h
    · exact lv_land hx hb hd (hk _ _ _ _ _ _ _ h A)
    · cases h
  | lor =>
    simp only [si_ins, si_l2] at h
    split at h
    · exact lv_lor hx hb hd (hk _ _ _ _ _ _ _ h A)
    · cases h
  | lxor =>
    simp only [si_ins, si_l2] at h
    split at h
    · exact lv_lxor hx hb hd (hk _ _ _ _ _ _ _ h A)
    · cases h
  | lshl =>
    simp only [si_ins, si_ls] at h
    split at h
    · exact lv_lshl hx hb hd rfl (hk _ _ _ _ _ _ _ h A)
    · cases h
  | lshr =>
    simp only [si_ins, si_ls] at h
    split at h
    · exact lv_lshr hx hb hd rfl (hk _ _ _ _ _ _ _ h A)
    · cases h
  | lushr =>
    simp only [si_ins, si_ls] at h
    split at h
    · exact lv_lushr hx hb hd rfl (hk _ _ _ _ _ _ _ h A)
    · cases h
  | idiv =>
    simp only [si_ins] at h
    split at h
    · obtain ⟨h1, h2⟩ := si_ifw hk0 h
      exact lv_idiv hx hb hd (by simpa using h1) (hk _ _ _ _ _ _ _ h2 A)
    · cases h
  | irem =>
    simp only [si_ins] at h
    split at h
    · obtain ⟨h1, h2⟩ := si_ifw hk0 h
      exact lv_irem hx hb hd (by simpa using h1) (hk _ _ _ _ _ _ _ h2 A)
    · cases h
  | lcmp =>
    simp only [si_ins] at h
    split at h
    · exact W.lcmp hx hb hd (hk _ _ _ _ _ _ _ h A)
    · cases h
  | i2l =>
    simp only [si_ins] at h
    split at h
    · exact lv_i2l hx hb hd rfl (hk _ _ _ _ _ _ _ h A)
    · cases h
  | l2i =>
    simp only [si_ins] at h
    split at h
    · exact lv_l2i hx hb hd rfl (hk _ _ _ _ _ _ _ h A)
    · cases h
  | dup =>
    simp only [si_ins] at h
    split at h
    · exact lv_dup hx hb hd rfl (hk _ _ _ _ _ _ _ h A)
    · exact lv_dup hx hb hd rfl (hk _ _ _ _ _ _ _ h A)
    · cases h
  | dup2 =>
    simp only [si_ins] at h
    split at h
    · exact lv_dup2_2 hx hb hd rfl (hk _ _ _ _ _ _ _ h A)
    · exact lv_dup2_11 hx hb hd rfl rfl (hk _ _ _ _ _ _ _ h A)
    · cases h
  | pop =>
    simp only [si_ins] at h
    split at h
    · exact lv_pop hx hb hd rfl (hk _ _ _ _ _ _ _ h A)
    · cases h
  | goto off =>
    simp only [si_ins] at h
    simp only [si_iok, si_tok] at hok
    split at h
    · exact lv_goto hx hb hd (of_decide_eq_true hok) (hk _ _ _ _ _ _ _ h A)
    · cases h
  | ifCond cnd off =>
    cases cnd with
    | eq =>
      simp only [si_ins, si_i1] at h
      simp only [si_iok, si_tok] at hok
      split at h
      · have hh := si_brw h
        exact lv_if_eq hx hb hd (of_decide_eq_true hok) (fun hc => hk _ _ _ _ _ _ _ (hh.1 (decide_eq_true hc)) A) (fun hc => hk _ _ _ _ _ _ _ (hh.2 (decide_eq_false hc)) A)
      · cases h
    | ne =>
      simp only [si_ins, si_i1] at h
      simp only [si_iok, si_tok] at hok
      split at h
      · have hh := si_brw h
        exact lv_if_ne hx hb hd (of_decide_eq_true hok) (fun hc => hk _ _ _ _ _ _ _ (hh.1 (by simpa using hc)) A) (fun hc => hk _ _ _ _ _ _ _ (hh.2 (by simpa using hc)) A)
      · cases h
    | lt =>
      simp only [si_ins, si_i1] at h
      simp only [si_iok, si_tok] at hok
      split at h
      · have hh := si_brw h
        exact lv_if_lt hx hb hd (of_decide_eq_true hok) (fun hc => hk _ _ _ _ _ _ _ (hh.1 (decide_eq_true hc)) A) (fun hc => hk _ _ _ _ _ _ _ (hh.2 (decide_eq_false hc)) A)
      · cases h
    | ge =>
      simp only [si_ins, si_i1] at h
      simp only [si_iok, si_tok] at hok
      split at h
      · have hh := si_brw h
        exact lv_if_ge hx hb hd (of_decide_eq_true hok) (fun hc => hk _ _ _ _ _ _ _ (hh.1 (decide_eq_true hc)) A) (fun hc => hk _ _ _ _ _ _ _ (hh.2 (decide_eq_false hc)) A)
      · cases h
    | gt =>
      simp only [si_ins, si_i1] at h
      simp only [si_iok, si_tok] at hok
      split at h
      · have hh := si_brw h
        exact lv_if_gt hx hb hd (of_decide_eq_true hok) (fun hc => hk _ _ _ _ _ _ _ (hh.1 (decide_eq_true hc)) A) (fun hc => hk _ _ _ _ _ _ _ (hh.2 (decide_eq_false hc)) A)
      · cases h
    | le =>
      simp only [si_ins, si_i1] at h
      simp only [si_iok, si_tok] at hok
      split at h
      · have hh := si_brw h
        exact lv_if_le hx hb hd (of_decide_eq_true hok) (fun hc => hk _ _ _ _ _ _ _ (hh.1 (decide_eq_true hc)) A) (fun hc => hk _ _ _ _ _ _ _ (hh.2 (decide_eq_false hc)) A)
      · cases h
  | if_icmp cnd off =>
    cases cnd with
    | eq =>
      simp only [si_ins, si_ic] at h
      simp only [si_iok, si_tok] at hok
      split at h
      · have hh := si_brw h
        exact lv_icmp_eq hx hb hd (of_decide_eq_true hok) (fun hc => hk _ _ _ _ _ _ _ (hh.1 (decide_eq_true hc)) A) (fun hc => hk _ _ _ _ _ _ _ (hh.2 (decide_eq_false hc)) A)
      · cases h
    | ne =>
      simp only [si_ins, si_ic] at h
      simp only [si_iok, si_tok] at hok
      split at h
      · have hh := si_brw h
        exact lv_icmp_ne hx hb hd (of_decide_eq_true hok) (fun hc => hk _ _ _ _ _ _ _ (hh.1 (by simpa using hc)) A) (fun hc => hk _ _ _ _ _ _ _ (hh.2 (by simpa using hc)) A)
      · cases h
    | lt =>
      simp only [si_ins, si_ic] at h
      simp only [si_iok, si_tok] at hok
      split at h
      · have hh := si_brw h
        exact lv_icmp_lt hx hb hd (of_decide_eq_true hok) (fun hc => hk _ _ _ _ _ _ _ (hh.1 (decide_eq_true hc)) A) (fun hc => hk _ _ _ _ _ _ _ (hh.2 (decide_eq_false hc)) A)
      · cases h
    | ge =>
      simp only [si_ins, si_ic] at h
      simp only [si_iok, si_tok] at hok
      split at h
      · have hh := si_brw h
        exact lv_icmp_ge hx hb hd (of_decide_eq_true hok) (fun hc => hk _ _ _ _ _ _ _ (hh.1 (decide_eq_true hc)) A) (fun hc => hk _ _ _ _ _ _ _ (hh.2 (decide_eq_false hc)) A)
      · cases h
    | gt =>
      simp only [si_ins, si_ic] at h
      simp only [si_iok, si_tok] at hok
      split at h
      · have hh := si_brw h
        exact lv_icmp_gt hx hb hd (of_decide_eq_true hok) (fun hc => hk _ _ _ _ _ _ _ (hh.1 (decide_eq_true hc)) A) (fun hc => hk _ _ _ _ _ _ _ (hh.2 (decide_eq_false hc)) A)
      · cases h
    | le =>
      simp only [si_ins, si_ic] at h
      simp only [si_iok, si_tok] at hok
      split at h
      · have hh := si_brw h
        exact lv_icmp_le hx hb hd (of_decide_eq_true hok) (fun hc => hk _ _ _ _ _ _ _ (hh.1 (decide_eq_true hc)) A) (fun hc => hk _ _ _ _ _ _ _ (hh.2 (decide_eq_false hc)) A)
      · cases h
  | getfield n =>
    simp only [si_ins] at h
    split at h
    · rename_i q r ct j w3
      split at h
      · rename_i ct2 cs hsk
        split at h
        · rename_i cc he hj
          have ect : ct2 = ct := Nat.eq_of_beq_eq_true he
          subst ect
          simp only [si_iok, si_fok] at hok
          obtain ⟨C, T, hc, hty⟩ := hsh q ct2 cs hsk
          rw [hc] at hok
          simp only [Bool.and_eq_true] at hok
          obtain ⟨hin, -⟩ := hcl ct2 C T cs.length hc
          have hlt : j < cs.length := (List.getElem?_eq_some_iff.mp hj).1
          exact va_get hx hb hts hin hown hK hP q (si_P_O (H := H) hsk) hc j hlt (hts _ (si_wi_mem hok.1.2)) (fun _ h9 => h9) (by have e9 := (List.getElem?_eq_some_iff.mp hj).2; simp [hlt, e9]) hd (hk _ _ _ _ _ _ _ h A)
        · cases h
      · cases h
    · cases h
  | putfield n =>
    simp only [si_ins] at h
    split at h
    · rename_i v q r ct j w3
      split at h
      · rename_i ct2 cs hsk
        split at h
        · rename_i he hj
          have ect : ct2 = ct := Nat.eq_of_beq_eq_true he
          subst ect
          simp only [si_iok, si_fok] at hok
          obtain ⟨C, T, hc, hty⟩ := hsh q ct2 cs hsk
          rw [hc] at hok
          simp only [Bool.and_eq_true] at hok
          obtain ⟨hin, ⟨ty0, hty0⟩, hnm⟩ := hcl ct2 C T cs.length hc
          have hlt : j < cs.length := (List.getElem?_eq_some_iff.mp hj).1
          exact va_put hx hb hts hin ty0 hty0 hnm hown hK hP hD hS q (si_P_O (H := H) hsk) hc j hlt (hts _ (si_wi_mem hok.1.2)) (fun _ h9 => h9) (by simpa using hok.2) (ty := .int) (hty j _ hj) rfl rfl (by simp [hlt]) hd (fun H' locs' hP' hD' hS' => hk _ _ _ _ _ _ _ h ⟨hL, by
              rw [si_flds (τ := si_sI σ q j v) hlt (by simp [hj, si_pv, si_v, si_sI]) (fun a b hab => by unfold si_pv; split <;> simp [si_sI, hab])] at hP'
              rw [si_W_set (dA := dA) (sz := sz) (σ := σ) (τ := si_sI σ q j v) (x := .inr (ct2, List.map (fun i => si_v sz (si_pv (si_sI σ q j v) q i (cs.getD i 0))) (List.range cs.length))) hsk rfl (fun a d had => si_ce_ne (si_sI_o σ had j v).1 (si_sI_o σ had j v).2 d)] at hP'
              exact hP', hS', hl⟩)
        · rename_i he hj
          have ect : ct2 = ct := Nat.eq_of_beq_eq_true he
          subst ect
          simp only [si_iok, si_fok] at hok
          obtain ⟨C, T, hc, hty⟩ := hsh q ct2 cs hsk
          rw [hc] at hok
          simp only [Bool.and_eq_true] at hok
          obtain ⟨hin, ⟨ty0, hty0⟩, hnm⟩ := hcl ct2 C T cs.length hc
          have hlt : j < cs.length := (List.getElem?_eq_some_iff.mp hj).1
          obtain ⟨hv, h⟩ := si_ifw hk0 h
          have hv2 : v = 0 ∨ v = 1 := by simpa using hv
          exact va_put hx hb hts hin ty0 hty0 hnm hown hK hP hD hS q (si_P_O (H := H) hsk) hc j hlt (hts _ (si_wi_mem hok.1.2)) (fun _ h9 => h9) (by simpa using hok.2) (ty := .boolean) (hty j _ hj) (by rcases hv2 with rfl | rfl <;> rfl) (by rcases hv2 with rfl | rfl <;> rfl) (by simp [hlt]) hd (fun H' locs' hP' hD' hS' => hk _ _ _ _ _ _ _ h ⟨hL, by
              rw [si_flds (τ := si_sI σ q j v) hlt (by simp [hj, si_pv, si_v, si_sI]) (fun a b hab => by unfold si_pv; split <;> simp [si_sI, hab])] at hP'
              rw [si_W_set (dA := dA) (sz := sz) (σ := σ) (τ := si_sI σ q j v) (x := .inr (ct2, List.map (fun i => si_v sz (si_pv (si_sI σ q j v) q i (cs.getD i 0))) (List.range cs.length))) hsk rfl (fun a d had => si_ce_ne (si_sI_o σ had j v).1 (si_sI_o σ had j v).2 d)] at hP'
              exact hP', hS', hl⟩)
        · cases h
      · cases h
    · rename_i v q r ct j w3
      split at h
      · rename_i ct2 cs hsk
        split at h
        · rename_i he hj
          have ect : ct2 = ct := Nat.eq_of_beq_eq_true he
          subst ect
          simp only [si_iok, si_fok] at hok
          obtain ⟨C, T, hc, hty⟩ := hsh q ct2 cs hsk
          rw [hc] at hok
          simp only [Bool.and_eq_true] at hok
          obtain ⟨hin, ⟨ty0, hty0⟩, hnm⟩ := hcl ct2 C T cs.length hc
          have hlt : j < cs.length := (List.getElem?_eq_some_iff.mp hj).1
          exact va_put hx hb hts hin ty0 hty0 hnm hown hK hP hD hS q (si_P_O (H := H) hsk) hc j hlt (hts _ (si_wi_mem hok.1.2)) (fun _ h9 => h9) (by simpa using hok.2) (ty := .long) (hty j _ hj) rfl rfl (by simp [hlt]) hd (fun H' locs' hP' hD' hS' => hk _ _ _ _ _ _ _ h ⟨hL, by
              rw [si_flds (τ := si_sJ σ q j v) hlt (by simp [hj, si_pv, si_v, si_sJ]) (fun a b hab => by unfold si_pv; split <;> simp [si_sJ, hab])] at hP'
              rw [si_W_set (dA := dA) (sz := sz) (σ := σ) (τ := si_sJ σ q j v) (x := .inr (ct2, List.map (fun i => si_v sz (si_pv (si_sJ σ q j v) q i (cs.getD i 0))) (List.range cs.length))) hsk rfl (fun a d had => si_ce_ne (si_sJ_o σ had j v).1 (si_sJ_o σ had j v).2 d)] at hP'
              exact hP', hS', hl⟩)
        · cases h
      · cases h
    · cases h
  | iaload =>
    simp only [si_ins] at h
    split at h
    · split at h
      · rename_i n hsk
        obtain ⟨h1, h2⟩ := si_ifw hk0 h
        exact va_iald hx hb hK hP _ 0 (si_P_I (H := H) hsk) rfl (si_in_vp h1) hd (hk _ _ _ _ _ _ _ h2 A)
      · cases h
    · cases h
  | laload =>
    simp only [si_ins] at h
    split at h
    · split at h
      · rename_i n hsk
        obtain ⟨h1, h2⟩ := si_ifw hk0 h
        exact va_lald hx hb hK hP _ 1 (si_P_J (H := H) hsk) rfl (si_in_vp h1) hd (hk _ _ _ _ _ _ _ h2 A)
      · cases h
    · cases h
  | iastore =>
    simp only [si_ins] at h
    split at h
    · rename_i v j q r
      split at h
      · rename_i n hsk
        obtain ⟨h1, h2⟩ := si_ifw hk0 h
        exact va_iast hx hb hK hP hD hS q 0 (si_P_I (H := H) hsk) rfl (si_in_vp h1) hd (fun H' locs' hP' hD' hS' => hk _ _ _ _ _ _ _ h2 ⟨hL, by
          rw [si_W_set (τ := si_sI σ q j.toNatClampNeg v) hsk (by simp only [si_ce, si_sI_row]) (fun a d had => si_ce_ne (si_sI_o σ had _ v).1 (si_sI_o σ had _ v).2 d)] at hP'
          exact hP', hS', hl⟩)
      · cases h
    · cases h
  | lastore =>
    simp only [si_ins] at h
    split at h
    · rename_i v j q r
      split at h
      · rename_i n hsk
        obtain ⟨h1, h2⟩ := si_ifw hk0 h
        exact va_last hx hb hK hP hD hS q 1 (si_P_J (H := H) hsk) rfl (si_in_vp h1) hd (fun H' locs' hP' hD' hS' => hk _ _ _ _ _ _ _ h2 ⟨hL, by
          rw [si_W_set (τ := si_sJ σ q j.toNatClampNeg v) hsk (by simp only [si_ce, si_sJ_row]) (fun a d had => si_ce_ne (si_sJ_o σ had _ v).1 (si_sJ_o σ had _ v).2 d)] at hP'
          exact hP', hS', hl⟩)
      · cases h
    · cases h
  | arraylength =>
    simp only [si_ins] at h
    split at h
    · rename_i q r
      split at h
      · rename_i b n hsk
        cases b
        · exact va_alen hx hb hK hP q 0 (si_P_I (H := H) hsk) rfl rfl hd (hk _ _ _ _ _ _ _ h A)
        · exact va_alen hx hb hK hP q 1 (si_P_J (H := H) hsk) rfl rfl hd (hk _ _ _ _ _ _ _ h A)
      · cases h
    · cases h
  | ireturn =>
    generalize hins : si_ins ret sh _ _ xs ci cL L st σ = d at h
    have hd3 : ∃ o2, d = some (.inl o2) := by
      rw [← hins] at h ⊢
      simp only [si_ins] at h ⊢
      split at h <;> first | exact ⟨_, rfl⟩ | cases h
    obtain ⟨o2, rfl⟩ := hd3
    have h9 : some o2 = some o := h
    cases h9
    exact hend (by simp) hins
  | lreturn =>
    generalize hins : si_ins ret sh _ _ xs ci cL L st σ = d at h
    have hd3 : ∃ o2, d = some (.inl o2) := by
      rw [← hins] at h ⊢
      simp only [si_ins] at h ⊢
      split at h <;> first | exact ⟨_, rfl⟩ | cases h
    obtain ⟨o2, rfl⟩ := hd3
    have h9 : some o2 = some o := h
    cases h9
    exact hend (by simp) hins
  | return_ =>
    generalize hins : si_ins ret sh _ _ xs ci cL L st σ = d at h
    have hd3 : ∃ o2, d = some (.inl o2) := by
      rw [← hins] at h ⊢
      simp only [si_ins] at h ⊢
      split at h <;> first | exact ⟨_, rfl⟩ | cases h
    obtain ⟨o2, rfl⟩ := hd3
    have h9 : some o2 = some o := h
    cases h9
    exact hend (by simp) hins
  | invokestatic n =>
    simp only [si_iok] at hok
    generalize hins : si_ins ret sh _ _ xs ci cL L st σ = d at h
    simp only [si_ins] at hins
    split at hins
    · rename_i w1 w2 w3 w4
      split at hins
      · rename_i cnt dp k1 sp k0 r
        split at hins
        · rename_i n0 n1 h0 h1
          subst hins
          obtain ⟨ht, h2⟩ := si_ifw hk0 h
          simp only [Bool.and_eq_true, decide_eq_true_eq] at ht
          obtain ⟨⟨⟨⟨⟨t1, t2⟩, t3⟩, t4⟩, t5⟩, t6⟩ := ht
          simp only [si_cok, Bool.and_eq_true] at hok
          obtain ⟨⟨⟨⟨⟨q1, q2⟩, q3⟩, q4⟩, q5⟩, q6⟩ := hok
          have e6 : si_cat r ≤ 8 := Nat.le_of_ble_eq_true t6
          have e7 : 8 + (nativeFrameWords "java/lang/System" "arraycopy" 5 + 11) ≤ lo := Nat.le_of_ble_eq_true q6
          have e8 : ((r.map (si_v sz)).map fun v => v.category).sum = si_cat r := by
            unfold si_cat
            rw [List.map_map]
            congr 1
            apply List.map_congr_left
            intro a _
            exact si_v_cat sz a
          exact va_copyl hx hb (by rw [hml]; exact hl.1.symm) hown (hts _ (si_wi_mem q1)) (hts _ (si_wi_mem q2)) (hts _ (si_wi_mem q3)) (hts _ (si_wi_mem q4)) hK hP hD hS k0 k1 1 1 (si_P_J (H := H) h0) (si_P_J (H := H) h1) rfl rfl rfl (Int32.not_lt.mpr t1) (Int32.not_lt.mpr t2) (Int32.not_lt.mpr t3) t4 t5 (fun _ _ => rfl) (hR q5) (by rw [e8]; omega) hd (fun H' locs' hP' hD' hS' => hk _ _ _ _ _ _ _ h2 ⟨hL, by
            rw [si_W_set (τ := si_sA σ k1 (va_cpy (σ.2 k0) (σ.2 k1) sp.toNatClampNeg dp.toNatClampNeg cnt.toNatClampNeg)) h1 (by simp only [si_ce, si_sA_row]) (fun a d had => si_ce_ne (si_sA_o σ had _).1 (si_sA_o σ had _).2 d)] at hP'
            exact hP', hS', hl⟩)
        · subst hins; cases h
      · subst hins; cases h
    · rename_i w1 w2 w3 w4 w5
      split at hins
      · rename_i y9 x9 r9
        subst hins
        obtain ⟨ht, h2⟩ := si_ifw hk0 h
        simp only [si_cok, Bool.and_eq_true] at hok
        obtain ⟨⟨⟨⟨⟨q1, q2⟩, q3⟩, q4⟩, q5⟩, q6⟩ := hok
        have e6 : si_cat r9 ≤ 8 := Nat.le_of_ble_eq_true ht
        have e7 : 21 ≤ lo := Nat.le_of_ble_eq_true q6
        have e8 : ((r9.map (si_v sz)).map fun v => v.category).sum = si_cat r9 := by
          unfold si_cat
          rw [List.map_map]
          congr 1
          apply List.map_congr_left
          intro a _
          exact si_v_cat sz a
        exact va_mmin hx hb (by rw [hml]; exact hl.1.symm) hown (hts _ (si_wi_mem q1)) (hts _ (si_wi_mem q2)) (hts _ (si_wi_mem q3)) (hts _ (si_wi_mem q4)) (hR q5) (by rw [e8]; omega) hRc hRs hd (hk _ _ _ _ _ _ _ h2 A)
      · subst hins; cases h
    · rename_i c2 na rc tl hne hne2
      split at hins
      · rename_i hb2
        subst hins
        rw [Bool.and_eq_true] at hb2
        exact hcS _ _ _ _ _ rfl rfl ⟨fun e1 => by obtain ⟨z, rfl⟩ := List.length_eq_one_iff.mp e1; exact hne _ rfl, (fun e1 => by match tl, e1, hne2 with | [z1, z2], _, hne2 => exact hne2 _ _ rfl)⟩ (Nat.le_of_ble_eq_true hb2.1) (Nat.le_of_ble_eq_true hb2.2) h
      · subst hins; cases h
    · subst hins; cases h
  | invokevirtual n =>
    simp only [si_ins] at h
    split at h
    · rename_i c2 na rc ct tl
      split at h
      · rename_i q hq
        split at h
        · rename_i ct2 cs hsk
          split at h
          · rename_i hb2
            rw [Bool.and_eq_true] at hb2
            have ect : ct2 = ct := Nat.eq_of_beq_eq_true hb2.1
            subst ect
            exact hcV _ _ _ _ _ _ _ _ rfl rfl hq hsk (Nat.le_of_ble_eq_true hb2.2) h
          · cases h
        · cases h
      · cases h
    · cases h
  | _ => cases h
end SIM
end
section
/-! CALLS AND ANSWERS: the contract of every method out of the pure machine's run -/
theorem si_zret {p : Program} {l : Launch} {e : Env} {R : Room} {s : State} {m : MethodId} {args : Array Value} {below : List Frame} {meth : Method} {c : Code} {H : Heap} {locs : List Loc} {cells slots : Nat} {cc : ByteArray} {Qc : Array Value → State → Outcome → State → Prop} {free : Addr → Prop} {v v2 : Int32} {ty : FieldType} (hexec : p.tables.exec = Jvm.exec) (hb : c.code = cc) (hr : meth.sig.returnType = some ty) (hn : narrow ty (.int v) = .int v2)
    (hq : ∀ t : State, t.heap = H → s.WarmedH t.vm → Qc args s (.returned (some (.int v2))) t) (hf : ∀ q ∈ locs, free q.base)
    {pc : Nat} {ls : Array Slot} (hdg : decode cc pc = .ok (.ireturn, 1)) (hlocks : meth.locks = false) : W p l e R s m args below meth c H locs cells slots (MQ below Qc args s cells slots free) (F0 m pc ls [.int v]) := by
  intro T hT X
  have hlocks : meth.locks = false := hlocks
  obtain ⟨fs, hret, hrun, hended, hW, hframe⟩ := X.leave (v := some (.int v2)) (fun h => by rw [hr] at h; cases h)
  have hmeth' : T.vm.method? m = some meth := X.method'
  refine ⟨T.setFrames fs, ?_, .returned (some (.int v2)), hrun, hended, hq _ hT hW, locs, ⟨⟨_, rfl⟩, hW, hframe⟩, hf⟩
  jvm_step X.here [X.here.top, hexec, hb, hdg, hmeth', hr, hn]
  (try refine ⟨rfl, ?_⟩); (try refine ⟨rfl, ?_⟩)
  first | (intro acts; rw [hret _ acts rfl rfl rfl]) | rw [hret _ _ rfl rfl rfl]
  exact Steps.refl _
theorem si_catm (sz : Nat) (r : List Value) : ((r.map (si_v sz)).map fun v => v.category).sum = si_cat r := by
  unfold si_cat
  rw [List.map_map]
  congr 1
  apply List.map_congr_left
  intro a _
  exact si_v_cat sz a
theorem si_goodw (hg : si_good) {y : MethodName} {bs : ByteArray} {mL : Nat} {ret : Option FieldType} (h : Jvm.Cond.code y bs mL ret ∈ si_tb) : GoodIn si_tb (Jvm.Cond.code y bs mL ret :: si_tb) := by
  intro w hw
  rcases List.mem_cons.mp hw with rfl | hw
  · exact ⟨h, hg _ h⟩
  · exact ⟨hw, hg _ hw⟩
theorem si_K_blind {D : va_G} {dA : Bool → ClassId} {cl : List vw_C} {sz : Nat} {sh : List si_kd} {as : List Value} {σ : si_M} : FrameBlind (si_Pc D dA cl sz sh as σ) := by
  intro a U g mk q
  obtain ⟨q0, q1, q2, q3⟩ := q
  exact ⟨q0, q1, va_K.moved (u := U) (U := U.calling g mk a) (Vm.Alike.refl U.vm) q2, si_Nk.same (u := U) rfl q3⟩
theorem si_npw {y : MethodName} {n : Nat} (h : si_np y n = true) : y.cls ≠ "java/lang/invoke/MethodHandle" ∧ y.cls ≠ "java/lang/invoke/VarHandle" ∧ (parseMethodDescriptor y.desc).map (fun d => d.parameters.length) = some n := by
  unfold si_np at h
  rw [Bool.and_eq_true] at h
  have h1 := of_decide_eq_true h.1
  exact ⟨h1.1, h1.2, of_decide_eq_true h.2⟩
theorem si_retw {rc : Nat} {x : Option si_O} {k : List Value → si_M → Option si_O} {r : List Value} {o : si_O} (h : si_ret rc x k r = some o) : ∃ o2 : si_O, x = some o2 ∧ k (o2.1.toList ++ r) o2.2 = some o := by
  unfold si_ret si_cv si_ci si_cl at h
  split at h
  · split at h
    · exact ⟨_, rfl, h⟩
    · cases h
  · split at h
    · exact ⟨_, rfl, h⟩
    · cases h
  · split at h
    · exact ⟨_, rfl, h⟩
    · cases h
  · cases h
def si_Met (l : Launch) (D : va_G) (dA : Bool → ClassId) (cl : List vw_C) (sz : Nat) (P : si_P) (n : Nat) : Prop :=
  ∀ (m : Nat) (y : MethodName) (bs : ByteArray) (mL : Nat) (ret : Option FieldType) (fr lo : Nat) (rows : List si_row), P.1[m]? = some (y, bs, mL, ret, fr, lo, rows) → ∀ (as : List Value) (σ : si_M) (o : si_O), (si_lay as).length ≤ mL → si_run P n m 0 (si_ent mL as) [] σ = some o →
    Met l y (Jvm.Cond.code y bs mL ret :: si_tb) (si_rm fr lo) (si_Pc D dA cl sz P.2 as σ) (si_Qc D dA cl sz P.2 o) 0 0 (si_fr sz)
def si_call (P : si_P) (n : Nat) : Nat → List Value → si_M → Option si_O := fun c as τ => match P.1[c]? with
  | none => none
  | some (_, _, mL, _) => match Nat.ble (si_lay as).length mL with
    | true => si_run P n c 0 (si_ent mL as) [] τ
    | false => none
section MET
variable {p : Program} {l : Launch} {e : Env} {s : State} {m : MethodId} {args : Array Value} {below : List Frame} {meth : Method} {c : Code} {D : va_G} {dA : Bool → ClassId} {cl : List vw_C} {sz : Nat} {P : si_P} {R : Room} {cells slots : Nat} {Q : State → Prop} {bs : ByteArray} {own : String} {mL : Nat} {H0 : Heap} {H : Heap} {locs : List Loc} {ls : Array Slot}
set_option maxHeartbeats 4000000 in
theorem si_stat (hg : si_good) {n : Nat} (hM : si_Met l D dA cl sz P n) (X : si_Ctx p s m args c D dA cl bs own mL) {pc idx c2 na rc fr lo : Nat} {tl : List Nat} {st L : List Value} {σ : si_M} {o : si_O} {k : List Value → si_M → Option si_O} (hfr : fr ≤ R.frames) (hlo : lo ≤ R.locals) (hce : cells ≤ R.cells) (hsl : slots ≤ R.slots)
    (htl : tl.length ≠ 1 ∧ tl.length ≠ 2) (hok : si_cok P.1 cl own fr lo idx (c2 :: na :: rc :: tl) false = true) (hna : na ≤ st.length) (hcat : si_cat (st.drop na) ≤ 8) (h : si_ret rc (si_call P n c2 (st.take na).reverse σ) k (st.drop na) = some o) (A : si_At s D dA cl sz P.2 mL H0 σ L H locs ls) (hd : decode bs pc = .ok (.invokestatic idx, 3))
    (hk : ∀ st' σ' H' locs' ls', k st' σ' = some o → si_At s D dA cl sz P.2 mL H0 σ' L H' locs' ls' → W p l e R s m args below meth c H' locs' cells slots Q (F0 m (pc + 3) ls' (st'.map (si_v sz)))) : W p l e R s m args below meth c H locs cells slots Q (F0 m pc ls (st.map (si_v sz))) := by
  obtain ⟨hx, hb, hml, hown, hts, hK, hNk⟩ := X
  obtain ⟨hL, hP, hS, hl⟩ := A
  obtain ⟨o2, h1, h2⟩ := si_retw h
  unfold si_call at h1
  unfold si_cok at hok
  split at hok
  · rename_i hw
    cases hw
    exact absurd rfl htl.1
  · rename_i hw
    cases hw
    exact absurd rfl htl.2
  · rename_i w1 w2 w3 w4 hw
    cases hw
    split at hok
    · rename_i y bs2 mL2 ret2 fr2 lo2 rows hmt
      rw [hmt] at h1
      dsimp only at h1
      split at h1
      · rename_i hle
        simp only [Bool.and_eq_true] at hok
        obtain ⟨⟨⟨⟨⟨⟨q1, q2⟩, q3⟩, q4⟩, q5⟩, q6⟩, q7⟩ := hok
        have e6 : fr2 + 1 ≤ fr := Nat.le_of_ble_eq_true q6
        have e7 : 8 + (mL2 + 11) + lo2 ≤ lo := Nat.le_of_ble_eq_true q7
        have hMet := hM c2 y bs2 mL2 ret2 fr2 lo2 rows hmt _ _ _ (Nat.le_of_ble_eq_true hle) h1
        have hcw : Jvm.Cond.code y bs2 mL2 ret2 ∈ si_tb := si_wi_mem q4
        have hst : (st.map (si_v sz)) = ((st.take na).reverse.map (si_v sz)).reverse ++ (st.drop na).map (si_v sz) := by
          rw [← List.map_reverse, List.reverse_reverse, ← List.map_append, List.take_append_drop]
        have hpre : PreS s H (si_Pc D dA cl sz P.2 (st.take na).reverse σ) ((st.take na).reverse.map (si_v sz)) := ⟨si_K_blind, fun U hU hW => ⟨rfl, by rw [hU]; exact hP, va_K.moved hW.alike hK, hNk.warm hW⟩⟩
        have hlen : ((st.take na).reverse.map (si_v sz)).length = na := by simp; omega
        rw [hst]
        have go : ∀ (H1 : Heap) (locs1 : List Loc), va_P D cl (si_W dA sz P.2 o2.2) H1 → va_S (fun q => sz ≤ q) H0 H1 locs1 → W p l e R s m args below meth c H1 locs1 cells slots Q (F0 m (pc + 3) ls ((o2.1.map (si_v sz)).toList ++ (st.drop na).map (si_v sz))) := by
          intro H1 locs1 hP1 hS1
          have hh := hk _ _ H1 locs1 ls h2 ⟨hL, hP1, hS1, hl⟩
          rw [List.map_append] at hh
          cases h9 : o2.1 with
          | none => rw [h9] at hh; exact hh
          | some v => rw [h9] at hh; exact hh
        rcases si_lk_mem q1 with hlk | ⟨host, hlk⟩
        · refine si_goes (va_runS ⟨hx, hb, hml, hown, hts⟩ hMet ⟨callB_of na hts (si_goodw hg hcw) rfl rfl rfl (hts _ (si_wi_mem q3)) (hts _ hlk) (si_npw q5) ⟨?_, ?_⟩, hts _ (si_wi_mem q2)⟩ hpre rfl hlen hl.1 rfl ?_ hd ⟨hce, hsl⟩) hS go
          · exact Nat.le_trans e6 hfr
          · exact Nat.le_trans e7 hlo
          · exact lv_room (m := m) (pc := pc) (ls := ls) (rest := []) (by rw [si_catm]; exact hcat)
        · refine si_goes (va_runSN (host := host) ⟨hx, hb, hml, hown, hts⟩ hMet ⟨va_cnB na hts (si_goodw hg hcw) rfl rfl rfl ?_ (hts _ (si_wi_mem q3)) (si_npw q5) ⟨?_, ?_⟩, hts _ (si_wi_mem q2), trivial⟩ hpre rfl hlen hl.1 rfl ?_ hd ⟨hce, hsl⟩) hS go
          · exact hNk _ hlk
          · exact Nat.le_trans e6 hfr
          · exact Nat.le_trans e7 hlo
          · exact lv_room (m := m) (pc := pc) (ls := ls) (rest := []) (by rw [si_catm]; exact hcat)
      · cases h1
    · cases hok
  · exact absurd ‹false = true› (by decide)
  · cases hok
set_option maxHeartbeats 4000000 in
theorem si_virt (hg : si_good) {n : Nat} (hM : si_Met l D dA cl sz P n) (X : si_Ctx p s m args c D dA cl bs own mL) {pc idx c2 na rc ct q fr lo : Nat} {tl cs : List Nat} {st L : List Value} {σ : si_M} {o : si_O} {k : List Value → si_M → Option si_O} (hfr : fr ≤ R.frames) (hlo : lo ≤ R.locals) (hce : cells ≤ R.cells) (hsl : slots ≤ R.slots)
    (hok : si_cok P.1 cl own fr lo idx (c2 :: na :: rc :: ct :: tl) true = true) (hna : st[na]? = some (.ref q)) (hsk : P.2[q]? = some (.inl (ct, cs))) (hcat : si_cat (st.drop (na + 1)) ≤ 8) (h : si_ret rc (si_call P n c2 (.ref q :: (st.take na).reverse) σ) k (st.drop (na + 1)) = some o) (A : si_At s D dA cl sz P.2 mL H0 σ L H locs ls) (hd : decode bs pc = .ok (.invokevirtual idx, 3))
    (hk : ∀ st' σ' H' locs' ls', k st' σ' = some o → si_At s D dA cl sz P.2 mL H0 σ' L H' locs' ls' → W p l e R s m args below meth c H' locs' cells slots Q (F0 m (pc + 3) ls' (st'.map (si_v sz)))) : W p l e R s m args below meth c H locs cells slots Q (F0 m pc ls (st.map (si_v sz))) := by
  obtain ⟨hx, hb, hml, hown, hts, hK, hNk⟩ := X
  obtain ⟨hL, hP, hS, hl⟩ := A
  obtain ⟨o2, h1, h2⟩ := si_retw h
  unfold si_call at h1
  unfold si_cok at hok
  split at hok
  · exact absurd ‹true = false› (by decide)
  · exact absurd ‹true = false› (by decide)
  · exact absurd ‹true = false› (by decide)
  · rename_i w1 w2 w3 w4 w5 hw
    cases hw
    split at hok
    · rename_i y bs2 mL2 ret2 fr2 lo2 rows C T N hmt hct
      rw [hmt] at h1
      dsimp only at h1
      split at h1
      · rename_i hle
        simp only [Bool.and_eq_true] at hok
        obtain ⟨⟨⟨⟨⟨⟨⟨⟨q0, q1⟩, q2⟩, q3⟩, q4⟩, q5⟩, q6⟩, q7⟩, q8⟩ := hok
        have e0 : y.cls = C := of_decide_eq_true q0
        have e7 : fr2 + 1 ≤ fr := Nat.le_of_ble_eq_true q7
        have e8 : 8 + (mL2 + 11) + lo2 ≤ lo := Nat.le_of_ble_eq_true q8
        have hMet := hM c2 y bs2 mL2 ret2 fr2 lo2 rows hmt _ _ _ (Nat.le_of_ble_eq_true hle) h1
        have hcw : Jvm.Cond.code y bs2 mL2 ret2 ∈ si_tb := si_wi_mem q4
        have hnl : na < st.length := (List.getElem?_eq_some_iff.mp hna).1
        have hst : (st.map (si_v sz)) = ((st.take na).reverse.map (si_v sz)).reverse ++ .ref (sz + q) :: (st.drop (na + 1)).map (si_v sz) := by
          have e1 : st = st.take na ++ (.ref q :: st.drop (na + 1)) := by
            have e2 : st.drop na = .ref q :: st.drop (na + 1) := by
              rw [List.drop_eq_getElem_cons hnl]
              rw [(List.getElem?_eq_some_iff.mp hna).2]
            rw [← e2, List.take_append_drop]
          rw [← List.map_reverse, List.reverse_reverse]
          conv => lhs; rw [e1]
          rw [List.map_append]
          rfl
        have hpre : PreV s H y.cls (sz + q) (si_Pc D dA cl sz P.2 (.ref q :: (st.take na).reverse) σ) ((st.take na).reverse.map (si_v sz)) := ⟨si_K_blind, by rw [e0]; exact va_recv hK hP hct (si_W_at hsk), fun U hU hW => ⟨rfl, by rw [hU]; exact hP, va_K.moved hW.alike hK, hNk.warm hW⟩⟩
        have hlen : ((st.take na).reverse.map (si_v sz)).length = na := by simp; omega
        rw [hst]
        have go : ∀ (H1 : Heap) (locs1 : List Loc), va_P D cl (si_W dA sz P.2 o2.2) H1 → va_S (fun q => sz ≤ q) H0 H1 locs1 → W p l e R s m args below meth c H1 locs1 cells slots Q (F0 m (pc + 3) ls ((o2.1.map (si_v sz)).toList ++ (st.drop (na + 1)).map (si_v sz))) := by
          intro H1 locs1 hP1 hS1
          have hh := hk _ _ H1 locs1 ls h2 ⟨hL, hP1, hS1, hl⟩
          rw [List.map_append] at hh
          cases h9 : o2.1 with
          | none => rw [h9] at hh; exact hh
          | some v => rw [h9] at hh; exact hh
        refine si_goes (va_runV ⟨hx, hb, hml, hown, hts⟩ hMet ⟨callB_of na hts (si_goodw hg hcw) rfl rfl rfl (hts _ (si_wi_mem q3)) (hts _ (si_wi_mem q1)) (si_npw q6) ⟨?_, ?_⟩, hts _ (si_wi_mem q2), hts _ (si_wi_mem q5)⟩ hpre rfl hlen hl.1 rfl ?_ hd ⟨hce, hsl⟩) hS go
        · exact Nat.le_trans e7 hfr
        · exact Nat.le_trans e8 hlo
        · exact lv_room (m := m) (pc := pc) (ls := ls) (rest := []) (by rw [si_catm]; exact hcat)
      · cases h1
    · cases hok
  · cases hok
end MET
/-- what stands at a place that no row has -/
theorem si_get_row {rows : List si_row} {pc : Nat} {r : si_row} (h : si_get rows pc = some r) : r ∈ rows ∧ r.1 = pc := by
  induction rows with
  | nil => cases h
  | cons a rs ih =>
    unfold si_get at h
    split at h
    · rename_i hb
      cases h
      exact ⟨List.mem_cons_self, Nat.eq_of_beq_eq_true hb⟩
    · exact ⟨List.mem_cons_of_mem _ (ih h).1, (ih h).2⟩
theorem si_lg_lay (vs : List Value) (sz : Nat) : (lg_sl (vs.map (si_v sz))).length = (lg_sl vs).length := by
  induction vs with
  | nil => rfl
  | cons v vs ih =>
    have e : ∀ (w : Value) (ws : List Value), lg_sl (w :: ws) = (if w.category = 2 then [.val w, .second] else [.val w]) ++ lg_sl ws := fun w ws => by simp [lg_sl]
    rw [List.map_cons, e, e, List.length_append, List.length_append, ih, si_v_cat]
    split <;> rfl
theorem si_lay_len {vs : List Value} : (si_lay vs).length = (lg_sl vs).length := by
  induction vs with
  | nil => rfl
  | cons v vs ih =>
    have e : lg_sl (v :: vs) = (if v.category = 2 then [.val v, .second] else [.val v]) ++ lg_sl vs := by simp [lg_sl]
    rw [e]
    cases v <;> simp_all [si_lay, Value.category] <;> omega
theorem si_ent_as {sz n : Nat} {vs : List Value} : ∀ q ∈ si_as sz 0 (si_ent n vs), q ∈ lv_args 0 (vs.map (si_v sz)) := by
  have rep : ∀ (r i : Nat), si_as sz i (List.replicate r si_U) = [] := by
    intro r
    induction r with
    | zero => intro i; rfl
    | succ r ih => intro i; rw [List.replicate_succ]; simp only [si_as]; exact ih _
  have gen : ∀ (vs : List Value) (r i : Nat), ∀ q ∈ si_as sz i (si_lay vs ++ List.replicate r si_U), q ∈ lv_args i (vs.map (si_v sz)) := by
    intro vs
    induction vs with
    | nil =>
      intro r i q hq
      simp only [si_lay, List.nil_append] at hq
      rw [rep] at hq
      cases hq
    | cons v vs ih =>
      intro r i q hq
      cases v with
      | double x =>
        simp only [si_lay, List.cons_append, si_as] at hq
        rcases List.mem_cons.mp hq with h1 | h1
        · rw [h1]; simp [lv_args]
        · simp only [List.map_cons, lv_args]
          refine List.mem_cons_of_mem _ ?_
          exact ih r (i + 1 + 1) q h1
      | long x =>
        simp only [si_lay, List.cons_append, si_as] at hq
        rcases List.mem_cons.mp hq with h1 | h1
        · rw [h1]; simp [lv_args]
        · simp only [List.map_cons, lv_args]
          refine List.mem_cons_of_mem _ ?_
          exact ih r (i + 1 + 1) q h1
      | retAddr x =>
        simp only [si_lay, List.cons_append, si_as] at hq
        simp only [List.map_cons, lv_args]
        exact List.mem_cons_of_mem _ (ih r (i + 1) q hq)
      | _ =>
        simp only [si_lay, List.cons_append, si_as] at hq
        rcases List.mem_cons.mp hq with h1 | h1
        · rw [h1]; simp [lv_args]
        · simp only [List.map_cons, lv_args]
          refine List.mem_cons_of_mem _ ?_
          exact ih r (i + 1) q h1
  exact gen vs _ 0
theorem si_run_eq (P : si_P) (n m pc : Nat) (L st : List Value) (σ : si_M) : si_run P (n + 1) m pc L st σ = match P.1[m]? with
    | none => none
    | some (_, _, _, ret, _, _, rows) => si_drv (si_call P n) (fun p L st τ => si_run P n m p L st τ) (si_pre ret P.2 rows pc L st σ) := rfl
/-- all that the theorem asks of a program -/
def si_ok (P : si_P) (cl : List vw_C) : Prop := (∀ mi ∈ P.1, si_mok P.1 cl mi = true ∧ si_get mi.2.2.2.2.2.2 65535 = none) ∧ si_clok cl ∧ si_shok cl P.2 ∧ si_good
theorem si_no {P : si_P} {cl : List vw_C} (hP : si_ok P cl) (n m : Nat) (L st : List Value) (σ : si_M) : si_run P n m 65535 L st σ = none := by
  cases n with
  | zero => rfl
  | succ n =>
    rw [si_run_eq]
    split
    · rfl
    · rename_i y bs mL ret fr lo rows hm
      have h := (hP.1 _ (List.mem_of_getElem? hm)).2
      dsimp only at h
      unfold si_pre
      rw [h]
      rfl
/-- at an answer -/
theorem si_end {p : Program} {l : Launch} {e : Env} {s : State} {m : MethodId} {args : Array Value} {below : List Frame} {meth : Method} {c : Code} {D : va_G} {dA : Bool → ClassId} {cl : List vw_C} {sz : Nat} {sh : List si_kd} {R : Room} {bs : ByteArray} {own : String} {mL : Nat} {H : Heap} {locs : List Loc} {ls : Array Slot} {ret : Option FieldType} {pc len : Nat} {i : Instr} {xs : List Nat} {ci : Int32} {cL : Int64} {L st : List Value} {σ : si_M} {o : si_O}
    (X : si_Ctx p s m args c D dA cl bs own mL) (hr : meth.sig.returnType = ret) (hlocks : meth.locks = false) (A : si_At s D dA cl sz sh mL s.heap σ L H locs ls) (hd : decode bs pc = .ok (i, len)) (hlen : len = si_len i) (hi : i = .ireturn ∨ i = .lreturn ∨ i = .return_) (h : si_ins ret sh (pc + len) i xs ci cL L st σ = some (.inl o)) :
    W p l e R s m args below meth c H locs 0 0 (MQ below (si_Qc D dA cl sz sh o) args s 0 0 (si_fr sz)) (F0 m pc ls (st.map (si_v sz))) := by
  obtain ⟨hx, hb, hml, hown, hts, hK, hNk⟩ := X
  obtain ⟨hL, hP, hS, hl⟩ := A
  subst hlen
  rcases hi with rfl | rfl | rfl
  · simp only [si_ins] at h
    split at h
    · cases h
      exact W.iret hx hb hr (fun t ht hW => ⟨rfl, by rw [ht]; exact hP, hS.F ht⟩) hS.2.2 hd hlocks
    · cases h
      exact si_zret hx hb hr rfl (fun t ht hW => ⟨rfl, by rw [ht]; exact hP, hS.F ht⟩) hS.2.2 hd hlocks
    · cases h
  · simp only [si_ins] at h
    split at h
    · cases h
      exact W.lret hx hb hr (fun t ht hW => ⟨rfl, by rw [ht]; exact hP, hS.F ht⟩) hS.2.2 hd hlocks
    · cases h
  · simp only [si_ins] at h
    split at h
    · cases h
      exact W.vret hx hb hr (fun t ht hW => ⟨rfl, by rw [ht]; exact hP, hS.F ht⟩) hS.2.2 hd hlocks
    · cases h
set_option maxHeartbeats 4000000 in
/-- THE THEOREM: what the pure machine does in n steps, the real one does -/
theorem si_sim {P : si_P} {cl : List vw_C} (hP : si_ok P cl) (l : Launch) (D : va_G) (dA : Bool → ClassId) (sz : Nat) : ∀ n, si_Met l D dA cl sz P n := by
  have body : ∀ n, (∀ n', n' < n → si_Met l D dA cl sz P n') → ∀ (m : Nat) (y : MethodName) (bs : ByteArray) (mL : Nat) (ret : Option FieldType) (fr lo : Nat) (rows : List si_row), P.1[m]? = some (y, bs, mL, ret, fr, lo, rows) →
      ∀ (p : Program) (e : Env) (s : State) (mid : MethodId) (args : Array Value) (below : List Frame) (meth : Method) (c : Code), si_Ctx p s mid args c D dA cl bs y.cls mL → meth.sig.returnType = ret → meth.locks = false →
      ∀ (pc : Nat) (L st : List Value) (σ : si_M) (o : si_O) (H : Heap) (locs : List Loc) (ls : Array Slot), si_run P n m pc L st σ = some o → si_At s D dA cl sz P.2 mL s.heap σ L H locs ls →
      W p l e (si_rm fr lo) s mid args below meth c H locs 0 0 (MQ below (si_Qc D dA cl sz P.2 o) args s 0 0 (si_fr sz)) (F0 mid pc ls (st.map (si_v sz))) := by
    intro n
    induction n with
    | zero =>
      intro hM m y bs mL ret fr lo rows hm p e s mid args below meth c X hr hlocks pc L st σ o H locs ls h
      cases h
    | succ n ih =>
      intro hM m y bs mL ret fr lo rows hm p e s mid args below meth c X hr hlocks pc L st σ o H locs ls h A
      have hMn := hM n (Nat.lt_succ_self n)
      have ihn := ih (fun n' hn' => hM n' (Nat.lt_succ_of_lt hn')) m y bs mL ret fr lo rows hm p e s mid args below meth c X hr hlocks
      rw [si_run_eq, hm] at h
      dsimp only at h
      unfold si_pre at h
      split at h
      · cases h
      · rename_i pc2 i len xs ci cL dead hrow
        obtain ⟨hmem, hpc⟩ := si_get_row hrow
        dsimp only at hpc
        subst hpc
        have hmok := (hP.1 _ (List.mem_of_getElem? hm)).1
        simp only [si_mok, Bool.and_eq_true] at hmok
        have hrok := List.all_eq_true.mp hmok.2 _ hmem
        simp only [si_rok, Bool.and_eq_true] at hrok
        obtain ⟨⟨hd0, hlen0⟩, hok⟩ := hrok
        have hd := of_decide_eq_true hd0
        have hlen := Nat.eq_of_beq_eq_true hlen0
        obtain ⟨hL, hPw, hS, hl⟩ := A
        have A' : si_At s D dA cl sz P.2 mL s.heap σ (si_clr L dead) H locs ls := ⟨by rw [si_clr_len]; exact hL, hPw, hS, si_L_clr hl dead⟩
        refine si_step (mt := P.1) (fr := fr) (lo := lo) (R := si_rm fr lo) hP.2.1 hP.2.2.1 X (fun h => Nat.le_of_ble_eq_true h) (Nat.le_refl _) (Nat.zero_le _) (Nat.zero_le _) (si_no hP n m) (fun pc' L' st' σ' H' locs' ls' hk A' => ihn pc' L' st' σ' o H' locs' ls' hk A') ?_ ?_ ?_ hd hlen hok A' h
        · intro idx c' na rc tl hi hxs htl hna hcat hret
          subst hi; subst hxs
          exact si_stat hP.2.2.2 hMn X (Nat.le_refl _) (Nat.le_refl _) (Nat.zero_le _) (Nat.zero_le _) htl hok hna hcat hret A' (by rw [hd, hlen]; rfl) (fun st' σ' H' locs' ls' hk A' => ihn _ _ _ _ o H' locs' ls' hk A')
        · intro idx c' na rc ct tl q cs hi hxs hna hsk hcat hret
          subst hi; subst hxs
          exact si_virt hP.2.2.2 hMn X (Nat.le_refl _) (Nat.le_refl _) (Nat.zero_le _) (Nat.zero_le _) hok hna hsk hcat hret A' (by rw [hd, hlen]; rfl) (fun st' σ' H' locs' ls' hk A' => ihn _ _ _ _ o H' locs' ls' hk A')
        · intro hi ho
          exact si_end X hr hlocks A' hd hlen hi ho
  intro n
  induction n using Nat.strongRecOn with
  | _ n ihM =>
    intro m y bs mL ret fr lo rows hm as σ o hle h
    have hmok := (hP.1 _ (List.mem_of_getElem? hm)).1
    simp only [si_mok, Bool.and_eq_true] at hmok
    refine Met.ofW (cc := bs) (maxL := mL) (ret := ret) hmok.1 rfl ?_
    intro p e s mid args below meth c s₁ B hml hv
    obtain ⟨rfl, hPw, hK, hNk⟩ := hv
    have hts := atoms_spec (ws := Jvm.Cond.code y bs mL ret :: si_tb) B.pre
    have X : si_Ctx p s mid (as.map (si_v sz)).toArray c D dA cl bs y.cls mL := ⟨B.exec, B.bytes, hml, findClass_of_methodNamed B.named, fun w hw => hts w (List.mem_cons_of_mem _ hw), hK, hNk⟩
    have hln : (lg_sl (as.map (si_v sz))).length ≤ mL := by rw [si_lg_lay, ← si_lay_len]; exact hle
    have hl := lv_entry (as.map (si_v sz)) (n := mL) hln
    rw [lg_entry_eq]
    generalize (lg_sl (as.map (si_v sz)) ++ List.replicate (mL - (lg_sl (as.map (si_v sz))).length) Slot.unset).toArray = ls at hl ⊢
    exact body n ihM m y bs mL ret fr lo rows hm p e s mid _ below meth c X B.returns B.notSynchronized 0 (si_ent mL as) [] σ o s.heap [] ls h ⟨by simp only [si_ent, List.length_append, List.length_replicate]; omega, hPw, va_S.rf, lv_has.less hl si_ent_as⟩
end
section
/-! WHAT A METHOD COMES TO, without counting steps -/
noncomputable def si_sem (P : si_P) (m pc : Nat) (L st : List Value) (σ : si_M) : Option si_O := @dite _ (∃ o n, si_run P n m pc L st σ = some o) (Classical.propDecidable _) (fun h => some h.choose) (fun _ => none)
theorem si_drv_mono {call call' : Nat → List Value → si_M → Option si_O} {k k' : Nat → List Value → List Value → si_M → Option si_O} (h1 : ∀ c as τ o, call c as τ = some o → call' c as τ = some o) (h2 : ∀ p L st τ o, k p L st τ = some o → k' p L st τ = some o) {d : Option si_D} {o : si_O} (h : si_drv call k d = some o) : si_drv call' k' d = some o := by
  unfold si_drv at h ⊢
  split at h
  · cases h
  · exact h
  · rename_i c a b L st σ
    cases c
    · exact h2 _ _ _ _ _ h
    · exact h2 _ _ _ _ _ h
  · obtain ⟨o2, e1, e2⟩ := si_retw h
    have e3 := h1 _ _ _ _ e1
    have e4 := h2 _ _ _ _ _ e2
    unfold si_ret si_cv si_ci si_cl at h ⊢
    rw [e1] at h
    rw [e3]
    split at h
    · split at h
      · rename_i e; cases e; exact e4
      · cases h
    · split at h
      · rename_i e; cases e; exact e4
      · cases h
    · split at h
      · rename_i e; cases e; exact e4
      · cases h
    · cases h
theorem si_run_mono (P : si_P) : ∀ (n m pc : Nat) (L st : List Value) (σ : si_M) (o : si_O), si_run P n m pc L st σ = some o → si_run P (n + 1) m pc L st σ = some o := by
  intro n
  induction n with
  | zero => intro m pc L st σ o h; cases h
  | succ n ih =>
    intro m pc L st σ o h
    rw [si_run_eq] at h ⊢
    split at h
    · cases h
    · refine si_drv_mono (fun c as τ o h => ?_) (fun p L st τ o h => ih _ _ _ _ _ _ h) h
      unfold si_call at h ⊢
      split at h
      · cases h
      · split at h
        · exact ih _ _ _ _ _ _ h
        · cases h
theorem si_run_le (P : si_P) {n n' m pc : Nat} {L st : List Value} {σ : si_M} {o : si_O} (hn : n ≤ n') (h : si_run P n m pc L st σ = some o) : si_run P n' m pc L st σ = some o := by
  induction hn with
  | refl => exact h
  | step _ ih => exact si_run_mono P _ _ _ _ _ _ _ ih
theorem si_sem_of {P : si_P} {n m pc : Nat} {L st : List Value} {σ : si_M} {o : si_O} (h : si_run P n m pc L st σ = some o) : si_sem P m pc L st σ = some o := by
  unfold si_sem
  have hex : ∃ o n, si_run P n m pc L st σ = some o := ⟨o, n, h⟩
  rw [dif_pos hex]
  obtain ⟨n2, h2⟩ := hex.choose_spec
  have a := si_run_le P (Nat.le_max_left n n2) h
  have b := si_run_le P (Nat.le_max_right n n2) h2
  rw [a] at b
  exact b.symm
theorem si_sem_run {P : si_P} {m pc : Nat} {L st : List Value} {σ : si_M} {o : si_O} (h : si_sem P m pc L st σ = some o) : ∃ n, si_run P n m pc L st σ = some o := by
  unfold si_sem at h
  split at h
  · rename_i hex
    obtain ⟨n2, h2⟩ := hex.choose_spec
    cases h
    exact ⟨n2, h2⟩
  · cases h
noncomputable def si_sc (P : si_P) (c : Nat) (as : List Value) (τ : si_M) : Option si_O := match P.1[c]? with
  | none => none
  | some (_, _, mL, _) => match Nat.ble (si_lay as).length mL with
    | true => si_sem P c 0 (si_ent mL as) [] τ
    | false => none
theorem si_sc_call {P : si_P} {n c : Nat} {as : List Value} {τ : si_M} {o : si_O} (h : si_call P n c as τ = some o) : si_sc P c as τ = some o := by
  unfold si_call at h
  unfold si_sc
  split at h
  · cases h
  · rename_i h0
    split at h
    · rename_i h3
      rw [h0]
      dsimp only
      rw [h3]
      exact si_sem_of h
    · cases h
theorem si_sc_run {P : si_P} {c : Nat} {as : List Value} {τ : si_M} {o : si_O} (h : si_sc P c as τ = some o) : ∃ n, si_call P n c as τ = some o := by
  unfold si_sc at h
  unfold si_call
  split at h
  · cases h
  · rename_i h0
    split at h
    · rename_i h3
      obtain ⟨n, hn⟩ := si_sem_run h
      exact ⟨n, by rw [h0]; dsimp only; rw [h3]; exact hn⟩
    · cases h
theorem si_call_le {P : si_P} {n n' c : Nat} {as : List Value} {τ : si_M} {o : si_O} (hn : n ≤ n') (h : si_call P n c as τ = some o) : si_call P n' c as τ = some o := by
  unfold si_call at h ⊢
  split at h
  · cases h
  · rename_i h0
    split at h
    · rename_i h3
      exact si_run_le P hn h
    · cases h
theorem si_sem_eq (P : si_P) (m pc : Nat) (L st : List Value) (σ : si_M) : si_sem P m pc L st σ = match P.1[m]? with
    | none => none
    | some (_, _, _, ret, _, _, rows) => si_drv (si_sc P) (fun p L st τ => si_sem P m p L st τ) (si_pre ret P.2 rows pc L st σ) := by
  apply Option.ext
  intro o
  constructor
  · intro h
    obtain ⟨n, hn⟩ := si_sem_run h
    cases n with
    | zero => cases hn
    | succ n =>
      rw [si_run_eq] at hn
      split at hn
      · cases hn
      · rename_i hm
        rw [hm]
        exact si_drv_mono (fun _ _ _ _ h => si_sc_call h) (fun _ _ _ _ _ h => si_sem_of h) hn
  · intro h
    split at h
    · cases h
    · rename_i y bs mL ret fr lo rows hm
      have key : ∃ n, si_drv (si_call P n) (fun p L st τ => si_run P n m p L st τ) (si_pre ret P.2 rows pc L st σ) = some o := by
        generalize si_pre ret P.2 rows pc L st σ = d at h
        unfold si_drv at h
        split at h
        · cases h
        · exact ⟨0, h⟩
        · rename_i c a b L st σ
          cases c
          · obtain ⟨n, hn⟩ := si_sem_run h; exact ⟨n, hn⟩
          · obtain ⟨n, hn⟩ := si_sem_run h; exact ⟨n, hn⟩
        · rename_i c as rc p L r σ
          obtain ⟨o2, e1, e2⟩ := si_retw h
          obtain ⟨n1, hn1⟩ := si_sc_run e1
          obtain ⟨n2, hn2⟩ := si_sem_run e2
          refine ⟨max n1 n2, ?_⟩
          have f1 := si_call_le (Nat.le_max_left n1 n2) hn1
          have f2 := si_run_le P (Nat.le_max_right n1 n2) hn2
          unfold si_drv
          dsimp only
          rw [e1] at h
          rw [f1]
          unfold si_ret si_cv si_ci si_cl at h ⊢
          split at h
          · split at h
            · rename_i e; cases e; exact f2
            · cases h
          · split at h
            · rename_i e; cases e; exact f2
            · cases h
          · split at h
            · rename_i e; cases e; exact f2
            · cases h
          · cases h
      obtain ⟨n, hn⟩ := key
      refine si_sem_of (n := n + 1) ?_
      rw [si_run_eq, hm]
      exact hn
theorem si_clr_idem (L : List Value) (ds : List Nat) : si_clr (si_clr L ds) ds = si_clr L ds := by
  have comm : ∀ (ds : List Nat) (L : List Value) (i : Nat), (si_clr L ds).set i si_U = si_clr (L.set i si_U) ds := by
    intro ds
    induction ds with
    | nil => intro L i; rfl
    | cons d ds ih =>
      intro L i
      simp only [si_clr]
      rw [ih]
      by_cases h : d = i
      · subst h; simp
      · rw [List.set_comm _ _ h]
  induction ds generalizing L with
  | nil => rfl
  | cons d ds ih =>
    simp only [si_clr]
    rw [comm, List.set_set]
    exact ih _
theorem si_sem_clr {P : si_P} {m pc : Nat} {L st : List Value} {σ : si_M} {y : MethodName} {bs : ByteArray} {mL fr lo : Nat} {ret : Option FieldType} {rows : List si_row} {r : si_row} (hm : P.1[m]? = some (y, bs, mL, ret, fr, lo, rows)) (hr : si_get rows pc = some r) : si_sem P m pc (si_clr L r.2.2.2.2.2.2) st σ = si_sem P m pc L st σ := by
  rw [si_sem_eq, si_sem_eq, hm]
  dsimp only
  obtain ⟨p, i, len, xs, ci, cl, dead⟩ := r
  unfold si_pre
  rw [hr]
  dsimp only
  rw [si_clr_idem]
def si_isin (p : Nat) : List Nat → Bool
  | [] => false
  | q :: qs => match Nat.beq q p with
    | true => true
    | false => si_isin p qs
/-- goes on up to a place where it must stop -/
noncomputable def si_ex (P : si_P) (ret : Option FieldType) (rows : List si_row) (stop : List Nat) (m : Nat) : Nat → Nat → List Value → List Value → si_M → Option si_O
  | 0, pc, L, st, σ => si_sem P m pc L st σ
  | n + 1, pc, L, st, σ => si_drv (si_sc P) (fun p L st τ => match si_isin p stop with
      | true => (match si_get rows p with
        | none => none
        | some (_, _, _, _, _, _, dead) => si_sem P m p (si_clr L dead) st τ)
      | false => si_ex P ret rows stop m n p L st τ) (si_pre ret P.2 rows pc L st σ)
theorem si_ex_eq {P : si_P} {m : Nat} {y : MethodName} {bs : ByteArray} {mL fr lo : Nat} {ret : Option FieldType} {rows : List si_row} (hm : P.1[m]? = some (y, bs, mL, ret, fr, lo, rows)) (stop : List Nat) : ∀ (n pc : Nat) (L st : List Value) (σ : si_M), si_ex P ret rows stop m n pc L st σ = si_sem P m pc L st σ := by
  intro n
  induction n with
  | zero => intro pc L st σ; rfl
  | succ n ih =>
    intro pc L st σ
    rw [si_sem_eq, hm]
    dsimp only
    unfold si_ex
    have e : (fun p L st τ => match si_isin p stop with
      | true => (match si_get rows p with
        | none => none
        | some (_, _, _, _, _, _, dead) => si_sem P m p (si_clr L dead) st τ)
      | false => si_ex P ret rows stop m n p L st τ) = (fun p L st τ => si_sem P m p L st τ) := by
      funext p L st τ
      split
      · split
        · rename_i hg
          rw [si_sem_eq, hm]
          dsimp only
          unfold si_pre
          rw [hg]
          rfl
        · rename_i a b c d e f dead hg
          exact si_sem_clr hm hg
      · exact ih p L st τ
    rw [e]
/-- a block's equation: from its head on up to the next heads -/
theorem si_blk {P : si_P} {m : Nat} {y : MethodName} {bs : ByteArray} {mL fr lo : Nat} {ret : Option FieldType} {rows : List si_row} (hm : P.1[m]? = some (y, bs, mL, ret, fr, lo, rows)) (stop : List Nat) (n : Nat) {pc : Nat} {L st : List Value} {σ : si_M} {x : Option si_O} (h : si_ex P ret rows stop m n pc L st σ = x) : si_sem P m pc L st σ = x := (si_ex_eq hm stop n pc L st σ).symm.trans h
theorem si_ent_blk {P : si_P} {m : Nat} {y : MethodName} {bs : ByteArray} {mL fr lo : Nat} {ret : Option FieldType} {rows : List si_row} (hm : P.1[m]? = some (y, bs, mL, ret, fr, lo, rows)) (stop : List Nat) (n : Nat) {as : List Value} {σ : si_M} {x : Option si_O} (hl : Nat.ble (si_lay as).length mL = true) (h : si_ex P ret rows stop m n 0 (si_ent mL as) [] σ = x) : si_sc P m as σ = x := by
  unfold si_sc
  rw [hm]
  dsimp only
  rw [hl]
  exact si_blk hm stop n h
/-- the contract of a method out of what it comes to -/
theorem si_met {P : si_P} {cl : List vw_C} (hP : si_ok P cl) (l : Launch) (D : va_G) (dA : Bool → ClassId) (sz : Nat) {m : Nat} {y : MethodName} {bs : ByteArray} {mL fr lo : Nat} {ret : Option FieldType} {rows : List si_row} (hm : P.1[m]? = some (y, bs, mL, ret, fr, lo, rows)) {as : List Value} {σ : si_M} {o : si_O} (h : si_sc P m as σ = some o) :
    Met l y (Jvm.Cond.code y bs mL ret :: si_tb) (si_rm fr lo) (si_Pc D dA cl sz P.2 as σ) (si_Qc D dA cl sz P.2 o) 0 0 (si_fr sz) := by
  obtain ⟨n, hn⟩ := si_sc_run h
  unfold si_call at hn
  rw [hm] at hn
  dsimp only at hn
  split at hn
  · rename_i hle
    exact si_sim hP l D dA sz n m y bs mL ret fr lo rows hm as σ o (Nat.le_of_ble_eq_true hle) hn
  · cases hn
end
section
/-! SEGMENTS: n plain steps, then an instruction that branches, calls, answers, or comes to a head -/
def si_sg (ret : Option FieldType) (sh : List si_kd) (rows : List si_row) : Nat → Nat → List Value → List Value → si_M → Option si_D
  | 0, pc, L, st, σ => si_pre ret sh rows pc L st σ
  | n + 1, pc, L, st, σ => match si_pre ret sh rows pc L st σ with
    | some (.inr (.inl (true, p, _, L', st', σ'))) => si_sg ret sh rows n p L' st' σ'
    | _ => none
section SEG
variable {P : si_P} {m : Nat} {y : MethodName} {bs : ByteArray} {mL fr lo : Nat} {ret : Option FieldType} {rows : List si_row} {pc : Nat} {L st : List Value} {σ : si_M} {X Y : Option si_O}
theorem si_sg_eq (hm : P.1[m]? = some (y, bs, mL, ret, fr, lo, rows)) (n : Nat) : ∀ (pc : Nat) (L st : List Value) (σ : si_M) (d : si_D), si_sg ret P.2 rows n pc L st σ = some d → si_sem P m pc L st σ = si_drv (si_sc P) (fun p L st τ => si_sem P m p L st τ) (some d) := by
  induction n with
  | zero =>
    intro pc L st σ d h
    rw [si_sem_eq, hm]
    dsimp only
    rw [show si_pre ret P.2 rows pc L st σ = some d from h]
  | succ n ih =>
    intro pc L st σ d h
    unfold si_sg at h
    split at h
    · rename_i p b L' st' σ' hp
      rw [si_sem_eq, hm]
      dsimp only
      rw [hp]
      exact ih p L' st' σ' d h
    · cases h
theorem x_br (hm : P.1[m]? = some (y, bs, mL, ret, fr, lo, rows)) (n a b : Nat) (L' st' : List Value) (σ' : si_M) {c : Bool} (h : si_sg ret P.2 rows n pc L st σ = some (.inr (.inl (c, a, b, L', st', σ')))) (h1 : si_sem P m a L' st' σ' = X) (h2 : si_sem P m b L' st' σ' = Y) : si_sem P m pc L st σ = cond c X Y := by
  rw [si_sg_eq hm n pc L st σ _ h, ← h1, ← h2]
  rfl
theorem x_if (hm : P.1[m]? = some (y, bs, mL, ret, fr, lo, rows)) (h0 : si_get rows 65535 = none) (n a : Nat) (L' st' : List Value) (σ' : si_M) {c : Bool} (h : si_sg ret P.2 rows n pc L st σ = some (.inr (.inl (c, a, 65535, L', st', σ')))) (h1 : si_sem P m a L' st' σ' = X) : si_sem P m pc L st σ = cond c X none := by
  refine x_br hm n a 65535 L' st' σ' h h1 ?_
  rw [si_sem_eq, hm]
  dsimp only
  unfold si_pre
  rw [h0]
  rfl
theorem x_cv (hm : P.1[m]? = some (y, bs, mL, ret, fr, lo, rows)) (n p c : Nat) (as L' r : List Value) (σ' : si_M) {K : si_M → Option si_O} (h : si_sg ret P.2 rows n pc L st σ = some (.inr (.inr (c, as, 0, p, L', r, σ')))) (h1 : ∀ τ, si_sem P m p L' r τ = K τ) : si_sem P m pc L st σ = si_cv (si_sc P c as σ') K := by
  rw [si_sg_eq hm n pc L st σ _ h, show K = fun τ => si_sem P m p L' r τ from funext fun τ => (h1 τ).symm]
  rfl
theorem x_ci (hm : P.1[m]? = some (y, bs, mL, ret, fr, lo, rows)) (n p c : Nat) (as L' r : List Value) (σ' : si_M) {K : Int32 → si_M → Option si_O} (h : si_sg ret P.2 rows n pc L st σ = some (.inr (.inr (c, as, 1, p, L', r, σ')))) (h1 : ∀ v τ, si_sem P m p L' (.int v :: r) τ = K v τ) : si_sem P m pc L st σ = si_ci (si_sc P c as σ') K := by
  rw [si_sg_eq hm n pc L st σ _ h, show K = fun v τ => si_sem P m p L' (.int v :: r) τ from funext fun v => funext fun τ => (h1 v τ).symm]
  rfl
theorem x_cl (hm : P.1[m]? = some (y, bs, mL, ret, fr, lo, rows)) (n p c : Nat) (as L' r : List Value) (σ' : si_M) {K : Int64 → si_M → Option si_O} (h : si_sg ret P.2 rows n pc L st σ = some (.inr (.inr (c, as, 2, p, L', r, σ')))) (h1 : ∀ v τ, si_sem P m p L' (.long v :: r) τ = K v τ) : si_sem P m pc L st σ = si_cl (si_sc P c as σ') K := by
  rw [si_sg_eq hm n pc L st σ _ h, show K = fun v τ => si_sem P m p L' (.long v :: r) τ from funext fun v => funext fun τ => (h1 v τ).symm]
  rfl
theorem x_end (hm : P.1[m]? = some (y, bs, mL, ret, fr, lo, rows)) (n : Nat) {o : si_O} (h : si_sg ret P.2 rows n pc L st σ = some (.inl o)) : si_sem P m pc L st σ = some o := by
  rw [si_sg_eq hm n pc L st σ _ h]
  rfl
/-- a jump to a head, the dead locals forgotten -/
theorem x_hd (hm : P.1[m]? = some (y, bs, mL, ret, fr, lo, rows)) (n p : Nat) (L' st' : List Value) (σ' : si_M) (h : si_sg ret P.2 rows n pc L st σ = some (.inr (.inl (true, p, 0, L', st', σ')))) {i : Instr} {len : Nat} {xs : List Nat} {ci : Int32} {cl : Int64} (dead : List Nat) (hr : si_get rows p = some (p, i, len, xs, ci, cl, dead)) {L2 : List Value} (hL : si_clr L' dead = L2) : si_sem P m pc L st σ = si_sem P m p L2 st' σ' := by
  rw [si_sg_eq hm n pc L st σ _ h, ← hL, si_sem_clr (r := (p, i, len, xs, ci, cl, dead)) hm hr]
  rfl
/-- already at a head -/
theorem x_at (hm : P.1[m]? = some (y, bs, mL, ret, fr, lo, rows)) {i : Instr} {len : Nat} {xs : List Nat} {ci : Int32} {cl : Int64} (dead : List Nat) (hr : si_get rows pc = some (pc, i, len, xs, ci, cl, dead)) {L2 : List Value} (hL : si_clr L dead = L2) : si_sem P m pc L st σ = si_sem P m pc L2 st σ := by
  rw [← hL, si_sem_clr (r := (pc, i, len, xs, ci, cl, dead)) hm hr]
theorem x_ent (hm : P.1[m]? = some (y, bs, mL, ret, fr, lo, rows)) {as : List Value} (L0 : List Value) (hl : Nat.ble (si_lay as).length mL = true) (hL : si_ent mL as = L0) (h : si_sem P m 0 L0 [] σ = X) : si_sc P m as σ = X := by
  unfold si_sc
  rw [hm]
  dsimp only
  rw [hl, hL]
  exact h
end SEG
end
section
/-! printed by gen2.py: the rows of every method that the law reaches, as the pure machine has them -/
abbrev nX3_put : Nat := 0
abbrev nX3_length : Nat := 1
abbrev nX8_append : Nat := 2
abbrev nX9_within : Nat := 3
abbrev nX9_append : Nat := 4
abbrev nX3_clear : Nat := 5
abbrev nX8_clearInput : Nat := 6
abbrev nX9_clearInput : Nat := 7
abbrev nX8_symbolOf : Nat := 8
abbrev nX8_isNonterminal : Nat := 9
abbrev nX3_stateAfter : Nat := 10
abbrev nX3_errorPlace : Nat := 11
abbrev nX8_firstError : Nat := 12
abbrev nX9_begin : Nat := 13
abbrev nX9_symbolOf : Nat := 14
abbrev nX9_isNonterminal : Nat := 15
abbrev nX9_put : Nat := 16
abbrev nX9_left : Nat := 17
abbrev nX9_takes : Nat := 18
abbrev nX9_rightLength : Nat := 19
abbrev nX9_firstError : Nat := 20
abbrev nX3_isGrammar : Nat := 21
abbrev nX2_clear : Nat := 22
abbrev nX5_withoutRight : Nat := 23
abbrev nX2_placeOf : Nat := 24
abbrev nX2_add : Nat := 25
abbrev nX5_cut : Nat := 26
abbrev nX5_length : Nat := 27
abbrev nX5_extended : Nat := 28
abbrev nX3_readInto : Nat := 29
abbrev nX2_count : Nat := 30
abbrev nX8_load : Nat := 31
abbrev nX9_load : Nat := 32
abbrev nX8_isTerminal : Nat := 33
abbrev nX3_isWord : Nat := 34
abbrev nX3_codeAt : Nat := 35
abbrev nX4_read : Nat := 36
abbrev nJ7_fill_53178 : Nat := 37
abbrev nX2_at : Nat := 38
abbrev nX5_left : Nat := 39
abbrev nX5_symbolAt : Nat := 40
abbrev nX4_stands : Nat := 41
abbrev nX4_endsFrom : Nat := 42
abbrev nX4_endsOf : Nat := 43
abbrev nX4_addEnds : Nat := 44
abbrev nX4_derives : Nat := 45
abbrev nX8_bit : Nat := 46
abbrev nX8_accepts : Nat := 47
abbrev nX9_isWord : Nat := 48
abbrev nX9_takeWord : Nat := 49
abbrev nX9_at : Nat := 50
abbrev nX9_goOver : Nat := 51
abbrev nX9_derives : Nat := 52
abbrev nX9_accepts : Nat := 53
abbrev nX2_hasEmpty : Nat := 54
abbrev nX5_isUnit : Nat := 55
abbrev nX5_rightSet : Nat := 56
abbrev nX8_isIn : Nat := 57
abbrev nX1_close : Nat := 58
abbrev nX1_followUnits : Nat := 59
abbrev nX1_loops : Nat := 60
abbrev nX8_isEndless : Nat := 61
abbrev nJ7_fill_d0a16 : Nat := 62
abbrev nX2_hasUnit : Nat := 63
abbrev nX4_treesAt : Nat := 64
abbrev nX4_treesOfSymbol : Nat := 65
abbrev nX4_takeSymbol : Nat := 66
abbrev nX4_waysThrough : Nat := 67
abbrev nX4_countPlain : Nat := 68
abbrev nX4_spreadUnits : Nat := 69
abbrev nX4_keepTotals : Nat := 70
abbrev nX4_treesOf : Nat := 71
abbrev nX8_countTrees : Nat := 72
abbrev nX9_isEmpty : Nat := 73
abbrev nX9_hasEmpty : Nat := 74
abbrev nX9_clearLeads : Nat := 75
abbrev nX9_isUnit : Nat := 76
abbrev nX9_closeLeads : Nat := 77
abbrev nX9_layUnits : Nat := 78
abbrev nX9_loops : Nat := 79
abbrev nX9_hasUnitCycle : Nat := 80
abbrev nX9_waysOf : Nat := 81
abbrev nX9_countStretch : Nat := 82
abbrev nX9_countTrees : Nat := 83
abbrev nX8_productionCount : Nat := 84
abbrev nX9_productionCount : Nat := 85
abbrev nX8_codeOf : Nat := 86
abbrev nX8_symbol : Nat := 87
abbrev nX9_size : Nat := 88
abbrev nX9_codeOf : Nat := 89
abbrev nX9_symbol : Nat := 90
abbrev nX5_staysIn : Nat := 91
abbrev nX2_derivable : Nat := 92
abbrev nX2_nullable : Nat := 93
abbrev nX8_nullableSet : Nat := 94
abbrev nX9_allIn : Nat := 95
abbrev nX9_closedUnder : Nat := 96
abbrev nX9_nullables : Nat := 97
abbrev nX9_nullableSet : Nat := 98
abbrev nX2_productive : Nat := 99
abbrev nX8_productiveSet : Nat := 100
abbrev nX9_productives : Nat := 101
abbrev nX9_productiveSet : Nat := 102
abbrev nX1_followOccurrences : Nat := 103
abbrev nX1_reachFrom : Nat := 104
abbrev nX8_reachableSet : Nat := 105
abbrev nX9_reached : Nat := 106
abbrev nX9_reachableSet : Nat := 107
abbrev nX1_leftEnds : Nat := 108
abbrev nX1_followLeftEnds : Nat := 109
abbrev nX8_leftRecursiveSet : Nat := 110
abbrev nX9_recursives : Nat := 111
abbrev nX9_leftRecursiveSet : Nat := 112
abbrev nX8_unitReach : Nat := 113
abbrev nX9_isIndex : Nat := 114
abbrev nX9_unitReach : Nat := 115
abbrev nX0_beginnings : Nat := 116
abbrev nX0_grow : Nat := 117
abbrev nX0_findFirsts : Nat := 118
abbrev nX0_followOf : Nat := 119
abbrev nX0_comingAfter : Nat := 120
abbrev nX0_passFollows : Nat := 121
abbrev nX0_findFollows : Nat := 122
abbrev nX0_study : Nat := 123
abbrev nX0_firstOf : Nat := 124
abbrev nX8_firstSet : Nat := 125
abbrev nX9_firstOf : Nat := 126
abbrev nX9_layFirsts : Nat := 127
abbrev nX9_firstNow : Nat := 128
abbrev nX9_firstSet : Nat := 129
abbrev nX8_followSet : Nat := 130
abbrev nX9_layFollows : Nat := 131
abbrev nX9_followNow : Nat := 132
abbrev nX9_followSet : Nat := 133
abbrev nX0_hasDistinctLookaheads : Nat := 134
abbrev nX8_isLl1 : Nat := 135
abbrev nX9_isPredictive : Nat := 136
abbrev nX9_isLl1 : Nat := 137
abbrev nX5_fitsChomsky : Nat := 138
abbrev nX8_isChomsky : Nat := 139
abbrev nX9_isInChomsky : Nat := 140
abbrev nX9_isChomsky : Nat := 141
abbrev nX5_fitsGreibach : Nat := 142
abbrev nX8_isGreibach : Nat := 143
abbrev nX9_isInGreibach : Nat := 144
abbrev nX9_isGreibach : Nat := 145
abbrev nX2_copyFrom : Nat := 146
abbrev nX7_begin : Nat := 147
abbrev nX7_beginStep : Nat := 148
abbrev nX7_dropUseless : Nat := 149
abbrev nX2_isTooLarge : Nat := 150
abbrev nX7_finish : Nat := 151
abbrev nX8_removeUseless : Nat := 152
abbrev nX9_start : Nat := 153
abbrev nX9_step : Nat := 154
abbrev nX9_finish : Nat := 155
abbrev nX9_removeUseless : Nat := 156
abbrev nJ6_bitCount_0f7a4 : Nat := 157
abbrev nX5_thinned : Nat := 158
abbrev nX7_addThinned : Nat := 159
abbrev nX7_dropEmpty : Nat := 160
abbrev nX8_removeEmpty : Nat := 161
abbrev nX9_putRow : Nat := 162
abbrev nX9_putWithout : Nat := 163
abbrev nX9_removeEmpty : Nat := 164
abbrev nX5_joined : Nat := 165
abbrev nX7_addLent : Nat := 166
abbrev nX7_dropUnits : Nat := 167
abbrev nX8_removeUnits : Nat := 168
abbrev nX9_addRow : Nat := 169
abbrev nX9_removeUnits : Nat := 170
abbrev nX7_occursInLong : Nat := 171
abbrev nX2_leftSides : Nat := 172
abbrev nX2_freeNonterminal : Nat := 173
abbrev nX2_refuse : Nat := 174
abbrev nX5_renamed : Nat := 175
abbrev nX7_nameTerminal : Nat := 176
abbrev nX7_nameTerminals : Nat := 177
abbrev nX7_firstLong : Nat := 178
abbrev nX2_remove : Nat := 179
abbrev nX7_split : Nat := 180
abbrev nX7_splitLong : Nat := 181
abbrev nX8_toChomsky : Nat := 182
abbrev nX9_hasUnit : Nat := 183
abbrev nX9_mayNotStay : Nat := 184
abbrev nX9_freeOne : Nat := 185
abbrev nX9_veil : Nat := 186
abbrev nX9_veilAll : Nat := 187
abbrev nX9_cut : Nat := 188
abbrev nX9_toChomsky : Nat := 189
abbrev nX5_begins : Nat := 190
abbrev nX7_addExpansions : Nat := 191
abbrev nX7_expandAll : Nat := 192
abbrev nX7_isRecursive : Nat := 193
abbrev nX7_turnRecursion : Nat := 194
abbrev nX7_treatLeft : Nat := 195
abbrev nX7_dropLeftRecursion : Nat := 196
abbrev nX8_removeLeftRecursion : Nat := 197
abbrev nX9_putTold : Nat := 198
abbrev nX9_tell : Nat := 199
abbrev nX9_beginsWithItself : Nat := 200
abbrev nX9_putTail : Nat := 201
abbrev nX9_unwind : Nat := 202
abbrev nX9_unwindAll : Nat := 203
abbrev nX9_removeLeftRecursion : Nat := 204
abbrev nX7_sharedLength : Nat := 205
abbrev nX7_firstShared : Nat := 206
abbrev nX7_factor : Nat := 207
abbrev nX7_factorPrefixes : Nat := 208
abbrev nX8_leftFactor : Nat := 209
abbrev nX9_factor : Nat := 210
abbrev nX9_leftFactor : Nat := 211
abbrev nX7_firstWithNonterminal : Nat := 212
abbrev nX7_expandLeftEnds : Nat := 213
abbrev nX8_toGreibach : Nat := 214
abbrev nX9_tellFirst : Nat := 215
abbrev nX9_toGreibach : Nat := 216
abbrev nX8_save : Nat := 217
abbrev nX9_save : Nat := 218
abbrev nX8_restore : Nat := 219
abbrev nX9_restore : Nat := 220
abbrev nX6_pairs : Nat := 221
abbrev nX6_readOn : Nat := 222
abbrev nX6_readRight : Nat := 223
abbrev nX6_keepRead : Nat := 224
abbrev nX6_study : Nat := 225
abbrev nX6_ofLength : Nat := 226
abbrev nJ13_bitCount_95d88 : Nat := 227
abbrev nX8_countWords : Nat := 228
abbrev nX9_wordsOf : Nat := 229
abbrev nX9_layWord : Nat := 230
abbrev nX9_countNow : Nat := 231
abbrev nX9_countWords : Nat := 232
abbrev nX8_countDifferences : Nat := 233
abbrev nX9_countDifferences : Nat := 234
abbrev nX8_mixed : Nat := 235
abbrev nX8_hashOfProductions : Nat := 236
abbrev nX8_hashOfProperties : Nat := 237
abbrev nX8_digest : Nat := 238
abbrev nX9_mix : Nat := 239
abbrev nX9_digest : Nat := 240
def wX3_put : List si_row := [(0, .aload_n 0, 1, [], 0, 0, []), (1, .getfield 15, 3, [3, 1, 121], 0, 0, []), (4, .bipush (60), 2, [], 60, 0, []), (6, .if_icmp .lt (5), 3, [11], 0, 0, []), (9, .iconst (0), 1, [], 0, 0, []), (10, .ireturn, 1, [], 0, 0, []), (11, .aload_n 0, 1, [], 0, 0, []), (12, .getfield 11, 3, [3, 0, 120], 0, 0, []), (15, .aload_n 0, 1, [], 0, 0, []), (16, .getfield 15, 3, [3, 1, 121], 0, 0, []), (19, .iload_n 1, 1, [], 0, 0, []), (20, .iastore, 1, [], 0, 0, []), (21, .aload_n 0, 1, [], 0, 0, []), (22, .dup, 1, [], 0, 0, []), (23, .getfield 15, 3, [3, 1, 121], 0, 0, []), (26, .iconst (1), 1, [], 1, 0, []), (27, .iadd, 1, [], 0, 0, []), (28, .putfield 15, 3, [3, 1, 121], 0, 0, []), (31, .iconst (1), 1, [], 1, 0, []), (32, .ireturn, 1, [], 0, 0, [])]
def wX3_length : List si_row := [(0, .aload_n 0, 1, [], 0, 0, []), (1, .getfield 15, 3, [3, 1, 121], 0, 0, []), (4, .ireturn, 1, [], 0, 0, [])]
def wX8_append : List si_row := [(0, .iload_n 1, 1, [], 0, 0, []), (1, .bipush (32), 2, [], 32, 0, []), (3, .if_icmp .lt (9), 3, [12], 0, 0, []), (6, .iload_n 1, 1, [], 0, 0, []), (7, .bipush (126), 2, [], 126, 0, []), (9, .if_icmp .le (6), 3, [15], 0, 0, []), (12, .bipush (-2), 2, [], -2, 0, []), (14, .ireturn, 1, [], 0, 0, []), (15, .aload_n 0, 1, [], 0, 0, []), (16, .getfield 12, 3, [7, 0, 242], 0, 0, []), (19, .iload_n 1, 1, [], 0, 0, []), (20, .invokevirtual 65, 3, [0, 1, 1, 3, 274, 275, 92, 277, 276], 0, 0, []), (23, .ifCond .eq (13), 3, [36], 0, 0, []), (26, .aload_n 0, 1, [], 0, 0, []), (27, .getfield 12, 3, [7, 0, 242], 0, 0, []), (30, .invokevirtual 69, 3, [1, 0, 1, 3, 278, 279, 92, 281, 280], 0, 0, []), (33, .goto (5), 3, [38], 0, 0, []), (36, .bipush (-3), 2, [], -3, 0, []), (38, .ireturn, 1, [], 0, 0, [])]
def wX9_within : List si_row := [(0, .iload_n 0, 1, [], 0, 0, []), (1, .iload_n 1, 1, [], 0, 0, []), (2, .if_icmp .lt (12), 3, [14], 0, 0, []), (5, .iload_n 0, 1, [], 0, 0, []), (6, .iload_n 2, 1, [], 0, 0, []), (7, .if_icmp .gt (7), 3, [14], 0, 0, []), (10, .iconst (1), 1, [], 1, 0, []), (11, .goto (4), 3, [15], 0, 0, []), (14, .iconst (0), 1, [], 0, 0, []), (15, .ireturn, 1, [], 0, 0, [])]
def wX9_append : List si_row := [(0, .iload_n 1, 1, [], 0, 0, []), (1, .bipush (32), 2, [], 32, 0, []), (3, .bipush (126), 2, [], 126, 0, []), (5, .invokestatic 60, 3, [3, 3, 1, 1033, 1034, 99, 1035], 0, 0, []), (8, .ifCond .ne (6), 3, [14], 0, 0, []), (11, .bipush (-2), 2, [], -2, 0, []), (13, .ireturn, 1, [], 0, 0, []), (14, .aload_n 0, 1, [], 0, 0, []), (15, .getfield 68, 3, [8, 5, 946], 0, 0, []), (18, .bipush (60), 2, [], 60, 0, []), (20, .if_icmp .ne (6), 3, [26], 0, 0, []), (23, .bipush (-3), 2, [], -3, 0, []), (25, .ireturn, 1, [], 0, 0, []), (26, .aload_n 0, 1, [], 0, 0, []), (27, .getfield 16, 3, [8, 6, 947], 0, 0, []), (30, .aload_n 0, 1, [], 0, 0, []), (31, .getfield 68, 3, [8, 5, 946], 0, 0, []), (34, .iload_n 1, 1, [], 0, 0, []), (35, .iastore, 1, [], 0, 0, []), (36, .aload_n 0, 1, [], 0, 0, []), (37, .dup, 1, [], 0, 0, []), (38, .getfield 68, 3, [8, 5, 946], 0, 0, []), (41, .iconst (1), 1, [], 1, 0, []), (42, .iadd, 1, [], 0, 0, []), (43, .putfield 68, 3, [8, 5, 946], 0, 0, []), (46, .aload_n 0, 1, [], 0, 0, []), (47, .getfield 68, 3, [8, 5, 946], 0, 0, []), (50, .ireturn, 1, [], 0, 0, [])]
def wX3_clear : List si_row := [(0, .aload_n 0, 1, [], 0, 0, []), (1, .iconst (0), 1, [], 0, 0, []), (2, .putfield 15, 3, [3, 1, 121], 0, 0, []), (5, .return_, 1, [], 0, 0, [])]
def wX8_clearInput : List si_row := [(0, .aload_n 0, 1, [], 0, 0, []), (1, .getfield 12, 3, [7, 0, 242], 0, 0, []), (4, .invokevirtual 69, 3, [1, 0, 1, 3, 278, 279, 92, 281, 280], 0, 0, []), (7, .istore_n 1, 1, [], 0, 0, []), (8, .aload_n 0, 1, [], 0, 0, []), (9, .getfield 12, 3, [7, 0, 242], 0, 0, []), (12, .invokevirtual 73, 3, [5, 0, 0, 3, 286, 287, 92, 289, 288], 0, 0, []), (15, .iload_n 1, 1, [], 0, 0, []), (16, .ireturn, 1, [], 0, 0, [])]
def wX9_clearInput : List si_row := [(0, .aload_n 0, 1, [], 0, 0, []), (1, .getfield 68, 3, [8, 5, 946], 0, 0, []), (4, .istore_n 1, 1, [], 0, 0, []), (5, .aload_n 0, 1, [], 0, 0, []), (6, .iconst (0), 1, [], 0, 0, []), (7, .putfield 68, 3, [8, 5, 946], 0, 0, []), (10, .iload_n 1, 1, [], 0, 0, []), (11, .ireturn, 1, [], 0, 0, [])]
def wX8_symbolOf : List si_row := [(0, .iload_n 0, 1, [], 0, 0, []), (1, .bipush (65), 2, [], 65, 0, []), (3, .if_icmp .lt (14), 3, [17], 0, 0, []), (6, .iload_n 0, 1, [], 0, 0, []), (7, .bipush (81), 2, [], 81, 0, []), (9, .if_icmp .ge (8), 3, [17], 0, 0, []), (12, .iload_n 0, 1, [], 0, 0, []), (13, .bipush (65), 2, [], 65, 0, []), (15, .isub, 1, [], 0, 0, []), (16, .ireturn, 1, [], 0, 0, []), (17, .iload_n 0, 1, [], 0, 0, []), (18, .bipush (97), 2, [], 97, 0, []), (20, .if_icmp .lt (17), 3, [37], 0, 0, []), (23, .iload_n 0, 1, [], 0, 0, []), (24, .bipush (105), 2, [], 105, 0, []), (26, .if_icmp .ge (11), 3, [37], 0, 0, []), (29, .iload_n 0, 1, [], 0, 0, []), (30, .bipush (97), 2, [], 97, 0, []), (32, .isub, 1, [], 0, 0, []), (33, .bipush (16), 2, [], 16, 0, []), (35, .iadd, 1, [], 0, 0, []), (36, .ireturn, 1, [], 0, 0, []), (37, .iconst (-1), 1, [], -1, 0, []), (38, .ireturn, 1, [], 0, 0, [])]
def wX8_isNonterminal : List si_row := [(0, .iload_n 0, 1, [], 0, 0, []), (1, .ifCond .lt (13), 3, [14], 0, 0, []), (4, .iload_n 0, 1, [], 0, 0, []), (5, .bipush (16), 2, [], 16, 0, []), (7, .if_icmp .ge (7), 3, [14], 0, 0, []), (10, .iconst (1), 1, [], 1, 0, []), (11, .goto (4), 3, [15], 0, 0, []), (14, .iconst (0), 1, [], 0, 0, []), (15, .ireturn, 1, [], 0, 0, [])]
def wX3_stateAfter : List si_row := [(0, .iload_n 1, 1, [], 0, 0, []), (1, .invokestatic 19, 3, [8, 1, 1, 301, 302, 91, 303], 0, 0, []), (4, .istore_n 2, 1, [], 0, 0, []), (5, .iload_n 0, 1, [], 0, 0, []), (6, .bipush (-2), 2, [], -2, 0, []), (8, .if_icmp .ne (17), 3, [25], 0, 0, []), (11, .iload_n 2, 1, [], 0, 0, []), (12, .invokestatic 23, 3, [9, 1, 1, 304, 305, 91, 306], 0, 0, []), (15, .ifCond .eq (7), 3, [22], 0, 0, []), (18, .iconst (-1), 1, [], -1, 0, []), (19, .goto (5), 3, [24], 0, 0, []), (22, .bipush (-3), 2, [], -3, 0, []), (24, .ireturn, 1, [], 0, 0, []), (25, .iload_n 0, 1, [], 0, 0, []), (26, .iconst (-1), 1, [], -1, 0, []), (27, .if_icmp .ne (16), 3, [43], 0, 0, []), (30, .iload_n 1, 1, [], 0, 0, []), (31, .bipush (58), 2, [], 58, 0, []), (33, .if_icmp .ne (7), 3, [40], 0, 0, []), (36, .iconst (0), 1, [], 0, 0, []), (37, .goto (5), 3, [42], 0, 0, []), (40, .bipush (-3), 2, [], -3, 0, []), (42, .ireturn, 1, [], 0, 0, []), (43, .iload_n 1, 1, [], 0, 0, []), (44, .bipush (59), 2, [], 59, 0, []), (46, .if_icmp .ne (6), 3, [52], 0, 0, []), (49, .bipush (-2), 2, [], -2, 0, []), (51, .ireturn, 1, [], 0, 0, []), (52, .iload_n 1, 1, [], 0, 0, []), (53, .bipush (124), 2, [], 124, 0, []), (55, .if_icmp .ne (5), 3, [60], 0, 0, []), (58, .iconst (0), 1, [], 0, 0, []), (59, .ireturn, 1, [], 0, 0, []), (60, .iload_n 2, 1, [], 0, 0, []), (61, .iconst (-1), 1, [], -1, 0, []), (62, .if_icmp .eq (9), 3, [71], 0, 0, []), (65, .iload_n 0, 1, [], 0, 0, []), (66, .bipush (8), 2, [], 8, 0, []), (68, .if_icmp .lt (8), 3, [76], 0, 0, []), (71, .bipush (-3), 2, [], -3, 0, []), (73, .goto (6), 3, [79], 0, 0, []), (76, .iload_n 0, 1, [], 0, 0, []), (77, .iconst (1), 1, [], 1, 0, []), (78, .iadd, 1, [], 0, 0, []), (79, .ireturn, 1, [], 0, 0, [])]
def wX3_errorPlace : List si_row := [(0, .bipush (-2), 2, [], -2, 0, []), (2, .istore_n 1, 1, [], 0, 0, []), (3, .iconst (0), 1, [], 0, 0, []), (4, .istore_n 2, 1, [], 0, 0, []), (5, .iload_n 2, 1, [], 0, 0, []), (6, .aload_n 0, 1, [], 0, 0, []), (7, .getfield 15, 3, [3, 1, 121], 0, 0, []), (10, .if_icmp .ge (28), 3, [38], 0, 0, []), (13, .iload_n 1, 1, [], 0, 0, []), (14, .aload_n 0, 1, [], 0, 0, []), (15, .getfield 11, 3, [3, 0, 120], 0, 0, []), (18, .iload_n 2, 1, [], 0, 0, []), (19, .iaload, 1, [], 0, 0, []), (20, .invokestatic 29, 3, [10, 2, 1, 298, 299, 92, 300], 0, 0, []), (23, .istore_n 1, 1, [], 0, 0, []), (24, .iload_n 1, 1, [], 0, 0, []), (25, .bipush (-3), 2, [], -3, 0, []), (27, .if_icmp .ne (5), 3, [32], 0, 0, []), (30, .iload_n 2, 1, [], 0, 0, []), (31, .ireturn, 1, [], 0, 0, []), (32, .iinc 2 (1), 3, [], 1, 0, []), (35, .goto (-30), 3, [5], 0, 0, []), (38, .aload_n 0, 1, [], 0, 0, []), (39, .getfield 15, 3, [3, 1, 121], 0, 0, []), (42, .ireturn, 1, [], 0, 0, [])]
def wX8_firstError : List si_row := [(0, .aload_n 0, 1, [], 0, 0, []), (1, .getfield 12, 3, [7, 0, 242], 0, 0, []), (4, .invokevirtual 76, 3, [11, 0, 1, 3, 294, 295, 92, 297, 296], 0, 0, []), (7, .ireturn, 1, [], 0, 0, [])]
def wX9_begin : List si_row := [(0, .aload_n 0, 1, [], 0, 0, []), (1, .iconst (0), 1, [], 0, 0, []), (2, .putfield 104, 3, [8, 11, 952], 0, 0, []), (5, .aload_n 0, 1, [], 0, 0, []), (6, .iconst (0), 1, [], 0, 0, []), (7, .putfield 110, 3, [8, 12, 953], 0, 0, []), (10, .return_, 1, [], 0, 0, [])]
def wX9_symbolOf : List si_row := [(0, .iload_n 0, 1, [], 0, 0, []), (1, .bipush (65), 2, [], 65, 0, []), (3, .bipush (80), 2, [], 80, 0, []), (5, .invokestatic 60, 3, [3, 3, 1, 1033, 1034, 99, 1035], 0, 0, []), (8, .ifCond .eq (12), 3, [20], 0, 0, []), (11, .iload_n 0, 1, [], 0, 0, []), (12, .bipush (65), 2, [], 65, 0, []), (14, .isub, 1, [], 0, 0, []), (15, .iconst (1), 1, [], 1, 0, []), (16, .iadd, 1, [], 0, 0, []), (17, .goto (25), 3, [42], 0, 0, []), (20, .iload_n 0, 1, [], 0, 0, []), (21, .bipush (97), 2, [], 97, 0, []), (23, .bipush (104), 2, [], 104, 0, []), (25, .invokestatic 60, 3, [3, 3, 1, 1033, 1034, 99, 1035], 0, 0, []), (28, .ifCond .eq (13), 3, [41], 0, 0, []), (31, .iload_n 0, 1, [], 0, 0, []), (32, .bipush (97), 2, [], 97, 0, []), (34, .isub, 1, [], 0, 0, []), (35, .bipush (17), 2, [], 17, 0, []), (37, .iadd, 1, [], 0, 0, []), (38, .goto (4), 3, [42], 0, 0, []), (41, .iconst (0), 1, [], 0, 0, []), (42, .ireturn, 1, [], 0, 0, [])]
def wX9_isNonterminal : List si_row := [(0, .iload_n 0, 1, [], 0, 0, []), (1, .iconst (1), 1, [], 1, 0, []), (2, .bipush (16), 2, [], 16, 0, []), (4, .invokestatic 60, 3, [3, 3, 1, 1033, 1034, 99, 1035], 0, 0, []), (7, .ireturn, 1, [], 0, 0, [])]
def wX9_put : List si_row := [(0, .aload_n 0, 1, [], 0, 0, []), (1, .getfield 104, 3, [8, 11, 952], 0, 0, []), (4, .istore_n 3, 1, [], 0, 0, []), (5, .iload_n 3, 1, [], 0, 0, [2, 4]), (6, .ifCond .le (22), 3, [28], 0, 0, []), (9, .aload_n 0, 1, [], 0, 0, []), (10, .getfield 20, 3, [8, 10, 951], 0, 0, []), (13, .iload_n 3, 1, [], 0, 0, []), (14, .iconst (1), 1, [], 1, 0, []), (15, .isub, 1, [], 0, 0, []), (16, .laload, 1, [], 0, 0, []), (17, .lload_n 1, 1, [], 0, 0, []), (18, .lcmp, 1, [], 0, 0, []), (19, .ifCond .le (9), 3, [28], 0, 0, []), (22, .iinc 3 (-1), 3, [], -1, 0, []), (25, .goto (-20), 3, [5], 0, 0, []), (28, .iload_n 3, 1, [], 0, 0, []), (29, .ifCond .le (17), 3, [46], 0, 0, []), (32, .aload_n 0, 1, [], 0, 0, []), (33, .getfield 20, 3, [8, 10, 951], 0, 0, []), (36, .iload_n 3, 1, [], 0, 0, []), (37, .iconst (1), 1, [], 1, 0, []), (38, .isub, 1, [], 0, 0, []), (39, .laload, 1, [], 0, 0, []), (40, .lload_n 1, 1, [], 0, 0, []), (41, .lcmp, 1, [], 0, 0, []), (42, .ifCond .ne (4), 3, [46], 0, 0, []), (45, .return_, 1, [], 0, 0, []), (46, .aload_n 0, 1, [], 0, 0, []), (47, .getfield 104, 3, [8, 11, 952], 0, 0, []), (50, .bipush (60), 2, [], 60, 0, []), (52, .if_icmp .ne (9), 3, [61], 0, 0, []), (55, .aload_n 0, 1, [], 0, 0, []), (56, .iconst (1), 1, [], 1, 0, []), (57, .putfield 110, 3, [8, 12, 953], 0, 0, []), (60, .return_, 1, [], 0, 0, []), (61, .aload_n 0, 1, [], 0, 0, []), (62, .getfield 104, 3, [8, 11, 952], 0, 0, []), (65, .istore 4, 2, [], 0, 0, []), (67, .iload 4, 2, [], 0, 0, [2]), (69, .iload_n 3, 1, [], 0, 0, []), (70, .if_icmp .le (25), 3, [95], 0, 0, []), (73, .aload_n 0, 1, [], 0, 0, []), (74, .getfield 20, 3, [8, 10, 951], 0, 0, []), (77, .iload 4, 2, [], 0, 0, []), (79, .aload_n 0, 1, [], 0, 0, []), (80, .getfield 20, 3, [8, 10, 951], 0, 0, []), (83, .iload 4, 2, [], 0, 0, []), (85, .iconst (1), 1, [], 1, 0, []), (86, .isub, 1, [], 0, 0, []), (87, .laload, 1, [], 0, 0, []), (88, .lastore, 1, [], 0, 0, []), (89, .iinc 4 (-1), 3, [], -1, 0, []), (92, .goto (-25), 3, [67], 0, 0, []), (95, .aload_n 0, 1, [], 0, 0, []), (96, .getfield 20, 3, [8, 10, 951], 0, 0, []), (99, .iload_n 3, 1, [], 0, 0, []), (100, .lload_n 1, 1, [], 0, 0, []), (101, .lastore, 1, [], 0, 0, []), (102, .aload_n 0, 1, [], 0, 0, []), (103, .dup, 1, [], 0, 0, []), (104, .getfield 104, 3, [8, 11, 952], 0, 0, []), (107, .iconst (1), 1, [], 1, 0, []), (108, .iadd, 1, [], 0, 0, []), (109, .putfield 104, 3, [8, 11, 952], 0, 0, []), (112, .return_, 1, [], 0, 0, [])]
def wX9_left : List si_row := [(0, .lload_n 0, 1, [], 0, 0, []), (1, .bipush (40), 2, [], 40, 0, []), (3, .lshr, 1, [], 0, 0, []), (4, .l2i, 1, [], 0, 0, []), (5, .ireturn, 1, [], 0, 0, [])]
def wX9_takes : List si_row := [(0, .iload_n 1, 1, [], 0, 0, []), (1, .invokestatic 72, 3, [14, 1, 1, 1056, 1057, 99, 1058], 0, 0, []), (4, .istore_n 2, 1, [], 0, 0, []), (5, .aload_n 0, 1, [], 0, 0, []), (6, .getfield 76, 3, [8, 7, 948], 0, 0, []), (9, .ifCond .ne (24), 3, [33], 0, 0, []), (12, .aload_n 0, 1, [], 0, 0, []), (13, .iload_n 2, 1, [], 0, 0, []), (14, .iconst (1), 1, [], 1, 0, []), (15, .isub, 1, [], 0, 0, []), (16, .i2l, 1, [], 0, 0, []), (17, .bipush (40), 2, [], 40, 0, []), (19, .lshl, 1, [], 0, 0, []), (20, .putfield 79, 3, [8, 8, 949], 0, 0, []), (23, .aload_n 0, 1, [], 0, 0, []), (24, .iconst (1), 1, [], 1, 0, []), (25, .putfield 76, 3, [8, 7, 948], 0, 0, []), (28, .iload_n 2, 1, [], 0, 0, []), (29, .invokestatic 64, 3, [15, 1, 1, 1059, 1060, 99, 1061], 0, 0, []), (32, .ireturn, 1, [], 0, 0, []), (33, .aload_n 0, 1, [], 0, 0, []), (34, .getfield 76, 3, [8, 7, 948], 0, 0, []), (37, .iconst (1), 1, [], 1, 0, []), (38, .if_icmp .ne (25), 3, [63], 0, 0, []), (41, .aload_n 0, 1, [], 0, 0, []), (42, .iconst (2), 1, [], 2, 0, []), (43, .putfield 76, 3, [8, 7, 948], 0, 0, []), (46, .aload_n 0, 1, [], 0, 0, []), (47, .iconst (0), 1, [], 0, 0, []), (48, .putfield 83, 3, [8, 9, 950], 0, 0, []), (51, .iload_n 1, 1, [], 0, 0, []), (52, .bipush (58), 2, [], 58, 0, []), (54, .if_icmp .ne (7), 3, [61], 0, 0, []), (57, .iconst (1), 1, [], 1, 0, []), (58, .goto (4), 3, [62], 0, 0, []), (61, .iconst (0), 1, [], 0, 0, []), (62, .ireturn, 1, [], 0, 0, []), (63, .iload_n 1, 1, [], 0, 0, []), (64, .bipush (124), 2, [], 124, 0, []), (66, .if_icmp .eq (9), 3, [75], 0, 0, []), (69, .iload_n 1, 1, [], 0, 0, []), (70, .bipush (59), 2, [], 59, 0, []), (72, .if_icmp .ne (48), 3, [120], 0, 0, []), (75, .aload_n 0, 1, [], 0, 0, []), (76, .aload_n 0, 1, [], 0, 0, []), (77, .getfield 79, 3, [8, 8, 949], 0, 0, []), (80, .invokevirtual 86, 3, [16, 1, 0, 8, 1062, 1064, 99, 1065, 43], 0, 0, []), (83, .aload_n 0, 1, [], 0, 0, []), (84, .aload_n 0, 1, [], 0, 0, []), (85, .getfield 79, 3, [8, 8, 949], 0, 0, []), (88, .invokestatic 90, 3, [17, 1, 1, 1066, 1067, 99, 1068], 0, 0, []), (91, .i2l, 1, [], 0, 0, []), (92, .bipush (40), 2, [], 40, 0, []), (94, .lshl, 1, [], 0, 0, []), (95, .putfield 79, 3, [8, 8, 949], 0, 0, []), (98, .aload_n 0, 1, [], 0, 0, []), (99, .iconst (0), 1, [], 0, 0, []), (100, .putfield 83, 3, [8, 9, 950], 0, 0, []), (103, .aload_n 0, 1, [], 0, 0, []), (104, .iload_n 1, 1, [], 0, 0, []), (105, .bipush (59), 2, [], 59, 0, []), (107, .if_icmp .ne (7), 3, [114], 0, 0, []), (110, .iconst (0), 1, [], 0, 0, []), (111, .goto (4), 3, [115], 0, 0, []), (114, .iconst (2), 1, [], 2, 0, []), (115, .putfield 76, 3, [8, 7, 948], 0, 0, []), (118, .iconst (1), 1, [], 1, 0, []), (119, .ireturn, 1, [], 0, 0, []), (120, .iload_n 2, 1, [], 0, 0, []), (121, .ifCond .eq (12), 3, [133], 0, 0, []), (124, .aload_n 0, 1, [], 0, 0, []), (125, .getfield 83, 3, [8, 9, 950], 0, 0, []), (128, .bipush (8), 2, [], 8, 0, []), (130, .if_icmp .ne (5), 3, [135], 0, 0, []), (133, .iconst (0), 1, [], 0, 0, []), (134, .ireturn, 1, [], 0, 0, []), (135, .aload_n 0, 1, [], 0, 0, []), (136, .dup, 1, [], 0, 0, []), (137, .getfield 79, 3, [8, 8, 949], 0, 0, []), (140, .iload_n 2, 1, [], 0, 0, []), (141, .i2l, 1, [], 0, 0, []), (142, .bipush (35), 2, [], 35, 0, []), (144, .iconst (5), 1, [], 5, 0, []), (145, .aload_n 0, 1, [], 0, 0, []), (146, .getfield 83, 3, [8, 9, 950], 0, 0, []), (149, .imul, 1, [], 0, 0, []), (150, .isub, 1, [], 0, 0, []), (151, .lshl, 1, [], 0, 0, []), (152, .lor, 1, [], 0, 0, []), (153, .putfield 79, 3, [8, 8, 949], 0, 0, []), (156, .aload_n 0, 1, [], 0, 0, []), (157, .dup, 1, [], 0, 0, []), (158, .getfield 83, 3, [8, 9, 950], 0, 0, []), (161, .iconst (1), 1, [], 1, 0, []), (162, .iadd, 1, [], 0, 0, []), (163, .putfield 83, 3, [8, 9, 950], 0, 0, []), (166, .iconst (1), 1, [], 1, 0, []), (167, .ireturn, 1, [], 0, 0, [])]
def wX9_rightLength : List si_row := [(0, .aload_n 0, 1, [], 0, 0, []), (1, .invokevirtual 94, 3, [13, 0, 0, 8, 1048, 1050, 99, 1051, 41], 0, 0, []), (4, .aload_n 0, 1, [], 0, 0, []), (5, .iconst (0), 1, [], 0, 0, []), (6, .putfield 76, 3, [8, 7, 948], 0, 0, []), (9, .iconst (0), 1, [], 0, 0, []), (10, .istore_n 1, 1, [], 0, 0, []), (11, .iload_n 1, 1, [], 0, 0, []), (12, .aload_n 0, 1, [], 0, 0, []), (13, .getfield 68, 3, [8, 5, 946], 0, 0, []), (16, .if_icmp .ge (22), 3, [38], 0, 0, []), (19, .aload_n 0, 1, [], 0, 0, []), (20, .aload_n 0, 1, [], 0, 0, []), (21, .getfield 16, 3, [8, 6, 947], 0, 0, []), (24, .iload_n 1, 1, [], 0, 0, []), (25, .iaload, 1, [], 0, 0, []), (26, .invokevirtual 97, 3, [18, 1, 1, 8, 1052, 1054, 99, 1055, 42], 0, 0, []), (29, .ifCond .eq (9), 3, [38], 0, 0, []), (32, .iinc 1 (1), 3, [], 1, 0, []), (35, .goto (-24), 3, [11], 0, 0, []), (38, .iload_n 1, 1, [], 0, 0, []), (39, .ireturn, 1, [], 0, 0, [])]
def wX9_firstError : List si_row := [(0, .aload_n 0, 1, [], 0, 0, []), (1, .invokevirtual 100, 3, [19, 0, 1, 8, 1044, 1046, 99, 1047, 40], 0, 0, []), (4, .ireturn, 1, [], 0, 0, [])]
def wX3_isGrammar : List si_row := [(0, .bipush (-2), 2, [], -2, 0, []), (2, .istore_n 1, 1, [], 0, 0, []), (3, .iconst (0), 1, [], 0, 0, []), (4, .istore_n 2, 1, [], 0, 0, []), (5, .iload_n 2, 1, [], 0, 0, []), (6, .aload_n 0, 1, [], 0, 0, []), (7, .getfield 15, 3, [3, 1, 121], 0, 0, []), (10, .if_icmp .ge (26), 3, [36], 0, 0, []), (13, .iload_n 1, 1, [], 0, 0, []), (14, .bipush (-3), 2, [], -3, 0, []), (16, .if_icmp .eq (20), 3, [36], 0, 0, []), (19, .iload_n 1, 1, [], 0, 0, []), (20, .aload_n 0, 1, [], 0, 0, []), (21, .getfield 11, 3, [3, 0, 120], 0, 0, []), (24, .iload_n 2, 1, [], 0, 0, []), (25, .iaload, 1, [], 0, 0, []), (26, .invokestatic 29, 3, [10, 2, 1, 298, 299, 92, 300], 0, 0, []), (29, .istore_n 1, 1, [], 0, 0, []), (30, .iinc 2 (1), 3, [], 1, 0, []), (33, .goto (-28), 3, [5], 0, 0, []), (36, .iload_n 1, 1, [], 0, 0, []), (37, .ifCond .lt (7), 3, [44], 0, 0, []), (40, .iconst (1), 1, [], 1, 0, []), (41, .goto (4), 3, [45], 0, 0, []), (44, .iconst (0), 1, [], 0, 0, []), (45, .ireturn, 1, [], 0, 0, [])]
def wX2_clear : List si_row := [(0, .aload_n 0, 1, [], 0, 0, []), (1, .iconst (0), 1, [], 0, 0, []), (2, .putfield 15, 3, [2, 1, 135], 0, 0, []), (5, .return_, 1, [], 0, 0, [])]
def wX5_withoutRight : List si_row := [(0, .iload_n 0, 1, [], 0, 0, []), (1, .i2l, 1, [], 0, 0, []), (2, .bipush (40), 2, [], 40, 0, []), (4, .lshl, 1, [], 0, 0, []), (5, .lreturn, 1, [], 0, 0, [])]
def wX2_placeOf : List si_row := [(0, .aload_n 0, 1, [], 0, 0, []), (1, .getfield 15, 3, [2, 1, 135], 0, 0, []), (4, .istore_n 3, 1, [], 0, 0, []), (5, .iload_n 3, 1, [], 0, 0, [2]), (6, .ifCond .le (22), 3, [28], 0, 0, []), (9, .aload_n 0, 1, [], 0, 0, []), (10, .getfield 11, 3, [2, 0, 134], 0, 0, []), (13, .iload_n 3, 1, [], 0, 0, []), (14, .iconst (1), 1, [], 1, 0, []), (15, .isub, 1, [], 0, 0, []), (16, .laload, 1, [], 0, 0, []), (17, .lload_n 1, 1, [], 0, 0, []), (18, .lcmp, 1, [], 0, 0, []), (19, .ifCond .lt (9), 3, [28], 0, 0, []), (22, .iinc 3 (-1), 3, [], -1, 0, []), (25, .goto (-20), 3, [5], 0, 0, []), (28, .iload_n 3, 1, [], 0, 0, []), (29, .ireturn, 1, [], 0, 0, [])]
def wX2_add : List si_row := [(0, .lload_n 1, 1, [], 0, 0, []), (1, .ldc2_w 25, 3, [330], 0, -1, []), (4, .lcmp, 1, [], 0, 0, []), (5, .ifCond .ne (9), 3, [14], 0, 0, []), (8, .aload_n 0, 1, [], 0, 0, []), (9, .iconst (1), 1, [], 1, 0, []), (10, .putfield 19, 3, [2, 2, 136], 0, 0, []), (13, .return_, 1, [], 0, 0, []), (14, .aload_n 0, 1, [], 0, 0, []), (15, .lload_n 1, 1, [], 0, 0, []), (16, .invokevirtual 33, 3, [24, 1, 1, 2, 331, 333, 93, 334, 0], 0, 0, []), (19, .istore_n 3, 1, [], 0, 0, []), (20, .iload_n 3, 1, [], 0, 0, []), (21, .aload_n 0, 1, [], 0, 0, []), (22, .getfield 15, 3, [2, 1, 135], 0, 0, []), (25, .if_icmp .ge (15), 3, [40], 0, 0, []), (28, .aload_n 0, 1, [], 0, 0, []), (29, .getfield 11, 3, [2, 0, 134], 0, 0, []), (32, .iload_n 3, 1, [], 0, 0, []), (33, .laload, 1, [], 0, 0, []), (34, .lload_n 1, 1, [], 0, 0, []), (35, .lcmp, 1, [], 0, 0, []), (36, .ifCond .ne (4), 3, [40], 0, 0, []), (39, .return_, 1, [], 0, 0, []), (40, .aload_n 0, 1, [], 0, 0, []), (41, .getfield 15, 3, [2, 1, 135], 0, 0, []), (44, .bipush (60), 2, [], 60, 0, []), (46, .if_icmp .lt (9), 3, [55], 0, 0, []), (49, .aload_n 0, 1, [], 0, 0, []), (50, .iconst (1), 1, [], 1, 0, []), (51, .putfield 19, 3, [2, 2, 136], 0, 0, []), (54, .return_, 1, [], 0, 0, []), (55, .aload_n 0, 1, [], 0, 0, []), (56, .getfield 11, 3, [2, 0, 134], 0, 0, []), (59, .iload_n 3, 1, [], 0, 0, []), (60, .aload_n 0, 1, [], 0, 0, []), (61, .getfield 11, 3, [2, 0, 134], 0, 0, []), (64, .iload_n 3, 1, [], 0, 0, []), (65, .iconst (1), 1, [], 1, 0, []), (66, .iadd, 1, [], 0, 0, []), (67, .aload_n 0, 1, [], 0, 0, []), (68, .getfield 15, 3, [2, 1, 135], 0, 0, []), (71, .iload_n 3, 1, [], 0, 0, []), (72, .isub, 1, [], 0, 0, []), (73, .invokestatic 27, 3, [335, 337, 336, 101], 0, 0, []), (76, .aload_n 0, 1, [], 0, 0, []), (77, .getfield 11, 3, [2, 0, 134], 0, 0, []), (80, .iload_n 3, 1, [], 0, 0, []), (81, .lload_n 1, 1, [], 0, 0, []), (82, .lastore, 1, [], 0, 0, []), (83, .aload_n 0, 1, [], 0, 0, []), (84, .dup, 1, [], 0, 0, []), (85, .getfield 15, 3, [2, 1, 135], 0, 0, []), (88, .iconst (1), 1, [], 1, 0, []), (89, .iadd, 1, [], 0, 0, []), (90, .putfield 15, 3, [2, 1, 135], 0, 0, []), (93, .return_, 1, [], 0, 0, [])]
def wX5_cut : List si_row := [(0, .lconst 1, 1, [], 0, 1, []), (1, .iconst (5), 1, [], 5, 0, []), (2, .bipush (8), 2, [], 8, 0, []), (4, .iload_n 2, 1, [], 0, 0, []), (5, .isub, 1, [], 0, 0, []), (6, .imul, 1, [], 0, 0, []), (7, .lshl, 1, [], 0, 0, []), (8, .lconst 1, 1, [], 0, 1, []), (9, .lsub, 1, [], 0, 0, []), (10, .lstore_n 3, 1, [], 0, 0, []), (11, .lload_n 0, 1, [], 0, 0, []), (12, .lload_n 3, 1, [], 0, 0, []), (13, .ldc2_w 17, 3, [341], 0, -1, []), (16, .lxor, 1, [], 0, 0, []), (17, .land, 1, [], 0, 0, []), (18, .lreturn, 1, [], 0, 0, [])]
def wX5_length : List si_row := [(0, .iconst (0), 1, [], 0, 0, []), (1, .istore_n 2, 1, [], 0, 0, []), (2, .iload_n 2, 1, [], 0, 0, [1]), (3, .bipush (8), 2, [], 8, 0, []), (5, .if_icmp .ge (28), 3, [33], 0, 0, []), (8, .lload_n 0, 1, [], 0, 0, []), (9, .bipush (40), 2, [], 40, 0, []), (11, .iconst (5), 1, [], 5, 0, []), (12, .iload_n 2, 1, [], 0, 0, []), (13, .iconst (1), 1, [], 1, 0, []), (14, .iadd, 1, [], 0, 0, []), (15, .imul, 1, [], 0, 0, []), (16, .isub, 1, [], 0, 0, []), (17, .lushr, 1, [], 0, 0, []), (18, .ldc2_w 11, 3, [348], 0, 31, []), (21, .land, 1, [], 0, 0, []), (22, .lconst 0, 1, [], 0, 0, []), (23, .lcmp, 1, [], 0, 0, []), (24, .ifCond .eq (9), 3, [33], 0, 0, []), (27, .iinc 2 (1), 3, [], 1, 0, []), (30, .goto (-28), 3, [2], 0, 0, []), (33, .iload_n 2, 1, [], 0, 0, []), (34, .ireturn, 1, [], 0, 0, [])]
def wX5_extended : List si_row := [(0, .lload_n 0, 1, [], 0, 0, []), (1, .invokestatic 13, 3, [27, 1, 1, 345, 346, 100, 347], 0, 0, []), (4, .istore_n 3, 1, [], 0, 0, []), (5, .lload_n 0, 1, [], 0, 0, []), (6, .ldc2_w 17, 3, [341], 0, -1, []), (9, .lcmp, 1, [], 0, 0, []), (10, .ifCond .eq (9), 3, [19], 0, 0, []), (13, .iload_n 3, 1, [], 0, 0, []), (14, .bipush (8), 2, [], 8, 0, []), (16, .if_icmp .lt (7), 3, [23], 0, 0, []), (19, .ldc2_w 17, 3, [341], 0, -1, []), (22, .lreturn, 1, [], 0, 0, []), (23, .lload_n 0, 1, [], 0, 0, []), (24, .iload_n 2, 1, [], 0, 0, []), (25, .iconst (1), 1, [], 1, 0, []), (26, .iadd, 1, [], 0, 0, []), (27, .i2l, 1, [], 0, 0, []), (28, .bipush (40), 2, [], 40, 0, []), (30, .iconst (5), 1, [], 5, 0, []), (31, .iload_n 3, 1, [], 0, 0, []), (32, .iconst (1), 1, [], 1, 0, []), (33, .iadd, 1, [], 0, 0, []), (34, .imul, 1, [], 0, 0, []), (35, .isub, 1, [], 0, 0, []), (36, .lshl, 1, [], 0, 0, []), (37, .lor, 1, [], 0, 0, []), (38, .lreturn, 1, [], 0, 0, [])]
def wX3_readInto : List si_row := [(0, .aload_n 1, 1, [], 0, 0, []), (1, .invokevirtual 33, 3, [22, 0, 0, 2, 319, 320, 93, 322, 321], 0, 0, []), (4, .bipush (-2), 2, [], -2, 0, []), (6, .istore_n 2, 1, [], 0, 0, []), (7, .lconst 0, 1, [], 0, 0, []), (8, .lstore_n 3, 1, [], 0, 0, []), (9, .iconst (0), 1, [], 0, 0, []), (10, .istore 5, 2, [], 0, 0, []), (12, .iload 5, 2, [], 0, 0, [4, 6]), (14, .aload_n 0, 1, [], 0, 0, []), (15, .getfield 15, 3, [3, 1, 121], 0, 0, []), (18, .if_icmp .ge (86), 3, [104], 0, 0, []), (21, .aload_n 0, 1, [], 0, 0, []), (22, .getfield 11, 3, [3, 0, 120], 0, 0, []), (25, .iload 5, 2, [], 0, 0, []), (27, .iaload, 1, [], 0, 0, []), (28, .istore 6, 2, [], 0, 0, []), (30, .iload_n 2, 1, [], 0, 0, []), (31, .bipush (-2), 2, [], -2, 0, []), (33, .if_icmp .ne (15), 3, [48], 0, 0, []), (36, .iload 6, 2, [], 0, 0, []), (38, .invokestatic 19, 3, [8, 1, 1, 301, 302, 91, 303], 0, 0, []), (41, .invokestatic 38, 3, [23, 1, 2, 323, 324, 100, 325], 0, 0, []), (44, .lstore_n 3, 1, [], 0, 0, []), (45, .goto (46), 3, [91], 0, 0, []), (48, .iload 6, 2, [], 0, 0, []), (50, .bipush (124), 2, [], 124, 0, []), (52, .if_icmp .eq (10), 3, [62], 0, 0, []), (55, .iload 6, 2, [], 0, 0, []), (57, .bipush (59), 2, [], 59, 0, []), (59, .if_icmp .ne (17), 3, [76], 0, 0, []), (62, .aload_n 1, 1, [], 0, 0, []), (63, .lload_n 3, 1, [], 0, 0, []), (64, .invokevirtual 42, 3, [25, 1, 0, 2, 326, 327, 93, 329, 328], 0, 0, []), (67, .lload_n 3, 1, [], 0, 0, []), (68, .iconst (0), 1, [], 0, 0, []), (69, .invokestatic 46, 3, [26, 2, 2, 338, 339, 100, 340], 0, 0, []), (72, .lstore_n 3, 1, [], 0, 0, []), (73, .goto (18), 3, [91], 0, 0, []), (76, .iload_n 2, 1, [], 0, 0, []), (77, .iconst (-1), 1, [], -1, 0, []), (78, .if_icmp .eq (13), 3, [91], 0, 0, []), (81, .lload_n 3, 1, [], 0, 0, []), (82, .iload 6, 2, [], 0, 0, []), (84, .invokestatic 19, 3, [8, 1, 1, 301, 302, 91, 303], 0, 0, []), (87, .invokestatic 50, 3, [28, 2, 2, 342, 343, 100, 344], 0, 0, []), (90, .lstore_n 3, 1, [], 0, 0, []), (91, .iload_n 2, 1, [], 0, 0, []), (92, .iload 6, 2, [], 0, 0, []), (94, .invokestatic 29, 3, [10, 2, 1, 298, 299, 92, 300], 0, 0, []), (97, .istore_n 2, 1, [], 0, 0, []), (98, .iinc 5 (1), 3, [], 1, 0, []), (101, .goto (-89), 3, [12], 0, 0, []), (104, .aload_n 1, 1, [], 0, 0, []), (105, .lload_n 3, 1, [], 0, 0, []), (106, .invokevirtual 42, 3, [25, 1, 0, 2, 326, 327, 93, 329, 328], 0, 0, []), (109, .return_, 1, [], 0, 0, [])]
def wX2_count : List si_row := [(0, .aload_n 0, 1, [], 0, 0, []), (1, .getfield 15, 3, [2, 1, 135], 0, 0, []), (4, .ireturn, 1, [], 0, 0, [])]
def wX8_load : List si_row := [(0, .aload_n 0, 1, [], 0, 0, []), (1, .getfield 12, 3, [7, 0, 242], 0, 0, []), (4, .invokevirtual 79, 3, [21, 0, 1, 3, 311, 312, 92, 314, 313], 0, 0, []), (7, .ifCond .ne (6), 3, [13], 0, 0, []), (10, .bipush (-4), 2, [], -4, 0, []), (12, .ireturn, 1, [], 0, 0, []), (13, .aload_n 0, 1, [], 0, 0, []), (14, .getfield 12, 3, [7, 0, 242], 0, 0, []), (17, .aload_n 0, 1, [], 0, 0, []), (18, .getfield 19, 3, [7, 1, 243], 0, 0, []), (21, .invokevirtual 83, 3, [29, 1, 0, 3, 315, 316, 92, 318, 317], 0, 0, []), (24, .aload_n 0, 1, [], 0, 0, []), (25, .getfield 12, 3, [7, 0, 242], 0, 0, []), (28, .invokevirtual 73, 3, [5, 0, 0, 3, 286, 287, 92, 289, 288], 0, 0, []), (31, .aload_n 0, 1, [], 0, 0, []), (32, .getfield 19, 3, [7, 1, 243], 0, 0, []), (35, .invokevirtual 87, 3, [30, 0, 1, 2, 349, 350, 93, 352, 351], 0, 0, []), (38, .ireturn, 1, [], 0, 0, [])]
def wX9_load : List si_row := [(0, .aload_n 0, 1, [], 0, 0, []), (1, .invokevirtual 100, 3, [19, 0, 1, 8, 1044, 1046, 99, 1047, 40], 0, 0, []), (4, .aload_n 0, 1, [], 0, 0, []), (5, .getfield 68, 3, [8, 5, 946], 0, 0, []), (8, .if_icmp .lt (11), 3, [19], 0, 0, []), (11, .aload_n 0, 1, [], 0, 0, []), (12, .getfield 76, 3, [8, 7, 948], 0, 0, []), (15, .iconst (2), 1, [], 2, 0, []), (16, .if_icmp .eq (6), 3, [22], 0, 0, []), (19, .bipush (-4), 2, [], -4, 0, []), (21, .ireturn, 1, [], 0, 0, []), (22, .aload_n 0, 1, [], 0, 0, []), (23, .aload_n 0, 1, [], 0, 0, []), (24, .getfield 79, 3, [8, 8, 949], 0, 0, []), (27, .invokevirtual 86, 3, [16, 1, 0, 8, 1062, 1064, 99, 1065, 43], 0, 0, []), (30, .aload_n 0, 1, [], 0, 0, []), (31, .aload_n 0, 1, [], 0, 0, []), (32, .getfield 104, 3, [8, 11, 952], 0, 0, []), (35, .putfield 107, 3, [8, 1, 942], 0, 0, []), (38, .iconst (0), 1, [], 0, 0, []), (39, .istore_n 1, 1, [], 0, 0, []), (40, .iload_n 1, 1, [], 0, 0, []), (41, .aload_n 0, 1, [], 0, 0, []), (42, .getfield 107, 3, [8, 1, 942], 0, 0, []), (45, .if_icmp .ge (21), 3, [66], 0, 0, []), (48, .aload_n 0, 1, [], 0, 0, []), (49, .getfield 7, 3, [8, 0, 941], 0, 0, []), (52, .iload_n 1, 1, [], 0, 0, []), (53, .aload_n 0, 1, [], 0, 0, []), (54, .getfield 20, 3, [8, 10, 951], 0, 0, []), (57, .iload_n 1, 1, [], 0, 0, []), (58, .laload, 1, [], 0, 0, []), (59, .lastore, 1, [], 0, 0, []), (60, .iinc 1 (1), 3, [], 1, 0, []), (63, .goto (-23), 3, [40], 0, 0, []), (66, .aload_n 0, 1, [], 0, 0, []), (67, .iconst (0), 1, [], 0, 0, []), (68, .putfield 68, 3, [8, 5, 946], 0, 0, []), (71, .aload_n 0, 1, [], 0, 0, []), (72, .getfield 107, 3, [8, 1, 942], 0, 0, []), (75, .ireturn, 1, [], 0, 0, [])]
def wX8_isTerminal : List si_row := [(0, .iload_n 0, 1, [], 0, 0, []), (1, .bipush (16), 2, [], 16, 0, []), (3, .if_icmp .lt (13), 3, [16], 0, 0, []), (6, .iload_n 0, 1, [], 0, 0, []), (7, .bipush (24), 2, [], 24, 0, []), (9, .if_icmp .ge (7), 3, [16], 0, 0, []), (12, .iconst (1), 1, [], 1, 0, []), (13, .goto (4), 3, [17], 0, 0, []), (16, .iconst (0), 1, [], 0, 0, []), (17, .ireturn, 1, [], 0, 0, [])]
def wX3_isWord : List si_row := [(0, .aload_n 0, 1, [], 0, 0, []), (1, .getfield 15, 3, [3, 1, 121], 0, 0, []), (4, .bipush (10), 2, [], 10, 0, []), (6, .if_icmp .le (5), 3, [11], 0, 0, []), (9, .iconst (0), 1, [], 0, 0, []), (10, .ireturn, 1, [], 0, 0, []), (11, .iconst (0), 1, [], 0, 0, []), (12, .istore_n 1, 1, [], 0, 0, []), (13, .iload_n 1, 1, [], 0, 0, []), (14, .aload_n 0, 1, [], 0, 0, []), (15, .getfield 15, 3, [3, 1, 121], 0, 0, []), (18, .if_icmp .ge (26), 3, [44], 0, 0, []), (21, .aload_n 0, 1, [], 0, 0, []), (22, .getfield 11, 3, [3, 0, 120], 0, 0, []), (25, .iload_n 1, 1, [], 0, 0, []), (26, .iaload, 1, [], 0, 0, []), (27, .invokestatic 19, 3, [8, 1, 1, 301, 302, 91, 303], 0, 0, []), (30, .invokestatic 53, 3, [33, 1, 1, 361, 362, 91, 363], 0, 0, []), (33, .ifCond .ne (5), 3, [38], 0, 0, []), (36, .iconst (0), 1, [], 0, 0, []), (37, .ireturn, 1, [], 0, 0, []), (38, .iinc 1 (1), 3, [], 1, 0, []), (41, .goto (-28), 3, [13], 0, 0, []), (44, .iconst (1), 1, [], 1, 0, []), (45, .ireturn, 1, [], 0, 0, [])]
def wX3_codeAt : List si_row := [(0, .iload_n 1, 1, [], 0, 0, []), (1, .ifCond .lt (20), 3, [21], 0, 0, []), (4, .iload_n 1, 1, [], 0, 0, []), (5, .aload_n 0, 1, [], 0, 0, []), (6, .getfield 15, 3, [3, 1, 121], 0, 0, []), (9, .if_icmp .ge (12), 3, [21], 0, 0, []), (12, .aload_n 0, 1, [], 0, 0, []), (13, .getfield 11, 3, [3, 0, 120], 0, 0, []), (16, .iload_n 1, 1, [], 0, 0, []), (17, .iaload, 1, [], 0, 0, []), (18, .goto (4), 3, [22], 0, 0, []), (21, .iconst (0), 1, [], 0, 0, []), (22, .ireturn, 1, [], 0, 0, [])]
def wX4_read : List si_row := [(0, .aload_n 0, 1, [], 0, 0, []), (1, .aload_n 1, 1, [], 0, 0, []), (2, .invokevirtual 38, 3, [1, 0, 1, 3, 368, 279, 92, 281, 280], 0, 0, []), (5, .bipush (10), 2, [], 10, 0, []), (7, .invokestatic 43, 3, [369, 370, 102, 371, 0], 0, 0, []), (10, .putfield 15, 3, [4, 1, 178], 0, 0, []), (13, .iconst (0), 1, [], 0, 0, []), (14, .istore_n 2, 1, [], 0, 0, []), (15, .iload_n 2, 1, [], 0, 0, []), (16, .aload_n 0, 1, [], 0, 0, []), (17, .getfield 15, 3, [4, 1, 178], 0, 0, []), (20, .if_icmp .ge (23), 3, [43], 0, 0, []), (23, .aload_n 0, 1, [], 0, 0, []), (24, .getfield 11, 3, [4, 0, 177], 0, 0, []), (27, .iload_n 2, 1, [], 0, 0, []), (28, .aload_n 1, 1, [], 0, 0, []), (29, .iload_n 2, 1, [], 0, 0, []), (30, .invokevirtual 49, 3, [35, 1, 1, 3, 372, 373, 92, 375, 374], 0, 0, []), (33, .invokestatic 53, 3, [8, 1, 1, 376, 302, 91, 303], 0, 0, []), (36, .iastore, 1, [], 0, 0, []), (37, .iinc 2 (1), 3, [], 1, 0, []), (40, .goto (-25), 3, [15], 0, 0, []), (43, .return_, 1, [], 0, 0, [])]
def wJ7_fill_53178 : List si_row := [(0, .iconst (0), 1, [], 0, 0, []), (1, .istore_n 2, 1, [], 0, 0, []), (2, .aload_n 0, 1, [], 0, 0, []), (3, .arraylength, 1, [], 0, 0, []), (4, .istore_n 3, 1, [], 0, 0, []), (5, .iload_n 2, 1, [], 0, 0, []), (6, .iload_n 3, 1, [], 0, 0, []), (7, .if_icmp .ge (13), 3, [20], 0, 0, []), (10, .aload_n 0, 1, [], 0, 0, []), (11, .iload_n 2, 1, [], 0, 0, []), (12, .iload_n 1, 1, [], 0, 0, []), (13, .iastore, 1, [], 0, 0, []), (14, .iinc 2 (1), 3, [], 1, 0, []), (17, .goto (-12), 3, [5], 0, 0, []), (20, .return_, 1, [], 0, 0, [])]
def wX2_at : List si_row := [(0, .iload_n 1, 1, [], 0, 0, []), (1, .ifCond .lt (20), 3, [21], 0, 0, []), (4, .iload_n 1, 1, [], 0, 0, []), (5, .aload_n 0, 1, [], 0, 0, []), (6, .getfield 15, 3, [2, 1, 135], 0, 0, []), (9, .if_icmp .ge (12), 3, [21], 0, 0, []), (12, .aload_n 0, 1, [], 0, 0, []), (13, .getfield 11, 3, [2, 0, 134], 0, 0, []), (16, .iload_n 1, 1, [], 0, 0, []), (17, .laload, 1, [], 0, 0, []), (18, .goto (6), 3, [24], 0, 0, []), (21, .ldc2_w 25, 3, [330], 0, -1, []), (24, .lreturn, 1, [], 0, 0, [])]
def wX5_left : List si_row := [(0, .lload_n 0, 1, [], 0, 0, []), (1, .bipush (40), 2, [], 40, 0, []), (3, .lushr, 1, [], 0, 0, []), (4, .l2i, 1, [], 0, 0, []), (5, .bipush (15), 2, [], 15, 0, []), (7, .iand, 1, [], 0, 0, []), (8, .ireturn, 1, [], 0, 0, [])]
def wX5_symbolAt : List si_row := [(0, .iload_n 2, 1, [], 0, 0, []), (1, .ifCond .lt (9), 3, [10], 0, 0, []), (4, .iload_n 2, 1, [], 0, 0, []), (5, .bipush (8), 2, [], 8, 0, []), (7, .if_icmp .lt (5), 3, [12], 0, 0, []), (10, .iconst (-1), 1, [], -1, 0, []), (11, .ireturn, 1, [], 0, 0, []), (12, .lload_n 0, 1, [], 0, 0, []), (13, .bipush (40), 2, [], 40, 0, []), (15, .iconst (5), 1, [], 5, 0, []), (16, .iload_n 2, 1, [], 0, 0, []), (17, .iconst (1), 1, [], 1, 0, []), (18, .iadd, 1, [], 0, 0, []), (19, .imul, 1, [], 0, 0, []), (20, .isub, 1, [], 0, 0, []), (21, .lushr, 1, [], 0, 0, []), (22, .ldc2_w 11, 3, [348], 0, 31, []), (25, .land, 1, [], 0, 0, []), (26, .l2i, 1, [], 0, 0, []), (27, .iconst (1), 1, [], 1, 0, []), (28, .isub, 1, [], 0, 0, []), (29, .ireturn, 1, [], 0, 0, [])]
def wX4_stands : List si_row := [(0, .iload_n 2, 1, [], 0, 0, []), (1, .ifCond .lt (25), 3, [26], 0, 0, []), (4, .iload_n 2, 1, [], 0, 0, []), (5, .aload_n 0, 1, [], 0, 0, []), (6, .getfield 15, 3, [4, 1, 178], 0, 0, []), (9, .if_icmp .ge (17), 3, [26], 0, 0, []), (12, .aload_n 0, 1, [], 0, 0, []), (13, .getfield 11, 3, [4, 0, 177], 0, 0, []), (16, .iload_n 2, 1, [], 0, 0, []), (17, .iaload, 1, [], 0, 0, []), (18, .iload_n 1, 1, [], 0, 0, []), (19, .if_icmp .ne (7), 3, [26], 0, 0, []), (22, .iconst (1), 1, [], 1, 0, []), (23, .goto (4), 3, [27], 0, 0, []), (26, .iconst (0), 1, [], 0, 0, []), (27, .ireturn, 1, [], 0, 0, [])]
def wX4_endsFrom : List si_row := [(0, .iconst (0), 1, [], 0, 0, []), (1, .istore_n 3, 1, [], 0, 0, []), (2, .iconst (0), 1, [], 0, 0, []), (3, .istore 4, 2, [], 0, 0, []), (5, .iload 4, 2, [], 0, 0, []), (7, .aload_n 0, 1, [], 0, 0, []), (8, .getfield 15, 3, [4, 1, 178], 0, 0, []), (11, .if_icmp .gt (65), 3, [76], 0, 0, []), (14, .iload_n 1, 1, [], 0, 0, []), (15, .iload 4, 2, [], 0, 0, []), (17, .iushr, 1, [], 0, 0, []), (18, .iconst (1), 1, [], 1, 0, []), (19, .iand, 1, [], 0, 0, []), (20, .ifCond .ne (6), 3, [26], 0, 0, []), (23, .goto (47), 3, [70], 0, 0, []), (26, .iload_n 2, 1, [], 0, 0, []), (27, .invokestatic 93, 3, [9, 1, 1, 408, 305, 91, 306], 0, 0, []), (30, .ifCond .eq (21), 3, [51], 0, 0, []), (33, .iload_n 3, 1, [], 0, 0, []), (34, .aload_n 0, 1, [], 0, 0, []), (35, .getfield 19, 3, [4, 2, 179], 0, 0, []), (38, .iload_n 2, 1, [], 0, 0, []), (39, .bipush (11), 2, [], 11, 0, []), (41, .imul, 1, [], 0, 0, []), (42, .iload 4, 2, [], 0, 0, []), (44, .iadd, 1, [], 0, 0, []), (45, .iaload, 1, [], 0, 0, []), (46, .ior, 1, [], 0, 0, []), (47, .istore_n 3, 1, [], 0, 0, []), (48, .goto (22), 3, [70], 0, 0, []), (51, .aload_n 0, 1, [], 0, 0, []), (52, .iload_n 2, 1, [], 0, 0, []), (53, .iload 4, 2, [], 0, 0, []), (55, .invokevirtual 97, 3, [41, 2, 1, 4, 409, 411, 96, 412, 4], 0, 0, []), (58, .ifCond .eq (12), 3, [70], 0, 0, []), (61, .iload_n 3, 1, [], 0, 0, []), (62, .iconst (1), 1, [], 1, 0, []), (63, .iload 4, 2, [], 0, 0, []), (65, .iconst (1), 1, [], 1, 0, []), (66, .iadd, 1, [], 0, 0, []), (67, .ishl, 1, [], 0, 0, []), (68, .ior, 1, [], 0, 0, []), (69, .istore_n 3, 1, [], 0, 0, []), (70, .iinc 4 (1), 3, [], 1, 0, []), (73, .goto (-68), 3, [5], 0, 0, []), (76, .iload_n 3, 1, [], 0, 0, []), (77, .ireturn, 1, [], 0, 0, [])]
def wX4_endsOf : List si_row := [(0, .iconst (1), 1, [], 1, 0, []), (1, .iload_n 3, 1, [], 0, 0, []), (2, .ishl, 1, [], 0, 0, []), (3, .istore 4, 2, [], 0, 0, []), (5, .lload_n 1, 1, [], 0, 0, []), (6, .invokestatic 85, 3, [27, 1, 1, 400, 346, 100, 347], 0, 0, []), (9, .istore 5, 2, [], 0, 0, []), (11, .iconst (0), 1, [], 0, 0, []), (12, .istore 6, 2, [], 0, 0, []), (14, .iload 4, 2, [], 0, 0, [2, 3]), (16, .ifCond .eq (30), 3, [46], 0, 0, []), (19, .iload 6, 2, [], 0, 0, []), (21, .iload 5, 2, [], 0, 0, []), (23, .if_icmp .ge (23), 3, [46], 0, 0, []), (26, .aload_n 0, 1, [], 0, 0, []), (27, .iload 4, 2, [], 0, 0, []), (29, .lload_n 1, 1, [], 0, 0, []), (30, .iload 6, 2, [], 0, 0, []), (32, .invokestatic 87, 3, [40, 2, 1, 401, 402, 100, 403], 0, 0, []), (35, .invokevirtual 90, 3, [42, 2, 1, 4, 404, 406, 96, 407, 3], 0, 0, []), (38, .istore 4, 2, [], 0, 0, []), (40, .iinc 6 (1), 3, [], 1, 0, []), (43, .goto (-29), 3, [14], 0, 0, []), (46, .iload 4, 2, [], 0, 0, []), (48, .ireturn, 1, [], 0, 0, [])]
def wX4_addEnds : List si_row := [(0, .iconst (0), 1, [], 0, 0, []), (1, .istore_n 3, 1, [], 0, 0, []), (2, .lload_n 1, 1, [], 0, 0, []), (3, .invokestatic 75, 3, [39, 1, 1, 393, 394, 100, 395], 0, 0, []), (6, .bipush (11), 2, [], 11, 0, []), (8, .imul, 1, [], 0, 0, []), (9, .istore 4, 2, [], 0, 0, []), (11, .iconst (0), 1, [], 0, 0, []), (12, .istore 5, 2, [], 0, 0, []), (14, .iload 5, 2, [], 0, 0, [2, 6]), (16, .aload_n 0, 1, [], 0, 0, []), (17, .getfield 15, 3, [4, 1, 178], 0, 0, []), (20, .if_icmp .gt (64), 3, [84], 0, 0, []), (23, .aload_n 0, 1, [], 0, 0, []), (24, .getfield 19, 3, [4, 2, 179], 0, 0, []), (27, .iload 4, 2, [], 0, 0, []), (29, .iload 5, 2, [], 0, 0, []), (31, .iadd, 1, [], 0, 0, []), (32, .iaload, 1, [], 0, 0, []), (33, .istore 6, 2, [], 0, 0, []), (35, .aload_n 0, 1, [], 0, 0, []), (36, .getfield 19, 3, [4, 2, 179], 0, 0, []), (39, .iload 4, 2, [], 0, 0, []), (41, .iload 5, 2, [], 0, 0, []), (43, .iadd, 1, [], 0, 0, []), (44, .iload 6, 2, [], 0, 0, []), (46, .aload_n 0, 1, [], 0, 0, []), (47, .lload_n 1, 1, [], 0, 0, []), (48, .iload 5, 2, [], 0, 0, []), (50, .invokevirtual 81, 3, [43, 2, 1, 4, 396, 398, 96, 399, 2], 0, 0, []), (53, .ior, 1, [], 0, 0, []), (54, .iastore, 1, [], 0, 0, []), (55, .iload_n 3, 1, [], 0, 0, []), (56, .aload_n 0, 1, [], 0, 0, []), (57, .getfield 19, 3, [4, 2, 179], 0, 0, []), (60, .iload 4, 2, [], 0, 0, []), (62, .iload 5, 2, [], 0, 0, []), (64, .iadd, 1, [], 0, 0, []), (65, .iaload, 1, [], 0, 0, []), (66, .iload 6, 2, [], 0, 0, []), (68, .if_icmp .eq (7), 3, [75], 0, 0, []), (71, .iconst (1), 1, [], 1, 0, []), (72, .goto (4), 3, [76], 0, 0, []), (75, .iconst (0), 1, [], 0, 0, []), (76, .ior, 1, [], 0, 0, []), (77, .istore_n 3, 1, [], 0, 0, []), (78, .iinc 5 (1), 3, [], 1, 0, []), (81, .goto (-67), 3, [14], 0, 0, []), (84, .iload_n 3, 1, [], 0, 0, []), (85, .ireturn, 1, [], 0, 0, [])]
def wX4_derives : List si_row := [(0, .aload_n 0, 1, [], 0, 0, []), (1, .getfield 19, 3, [4, 2, 179], 0, 0, []), (4, .iconst (0), 1, [], 0, 0, []), (5, .invokestatic 56, 3, [37, 2, 0, 381, 382, 103, 383], 0, 0, []), (8, .iconst (1), 1, [], 1, 0, []), (9, .istore_n 2, 1, [], 0, 0, []), (10, .iconst (0), 1, [], 0, 0, []), (11, .istore_n 3, 1, [], 0, 0, []), (12, .iload_n 2, 1, [], 0, 0, [4]), (13, .ifCond .eq (49), 3, [62], 0, 0, []), (16, .iload_n 3, 1, [], 0, 0, []), (17, .sipush (1937), 3, [], 1937, 0, []), (20, .if_icmp .ge (42), 3, [62], 0, 0, []), (23, .iconst (0), 1, [], 0, 0, []), (24, .istore_n 2, 1, [], 0, 0, []), (25, .iconst (0), 1, [], 0, 0, []), (26, .istore 4, 2, [], 0, 0, []), (28, .iload 4, 2, [], 0, 0, []), (30, .aload_n 1, 1, [], 0, 0, []), (31, .invokevirtual 62, 3, [30, 0, 1, 2, 384, 350, 93, 352, 351], 0, 0, []), (34, .if_icmp .ge (22), 3, [56], 0, 0, []), (37, .iload_n 2, 1, [], 0, 0, []), (38, .aload_n 0, 1, [], 0, 0, []), (39, .aload_n 1, 1, [], 0, 0, []), (40, .iload 4, 2, [], 0, 0, []), (42, .invokevirtual 67, 3, [38, 1, 2, 2, 385, 386, 93, 388, 387], 0, 0, []), (45, .invokevirtual 71, 3, [44, 1, 1, 4, 389, 391, 96, 392, 1], 0, 0, []), (48, .ior, 1, [], 0, 0, []), (49, .istore_n 2, 1, [], 0, 0, []), (50, .iinc 4 (1), 3, [], 1, 0, []), (53, .goto (-25), 3, [28], 0, 0, []), (56, .iinc 3 (1), 3, [], 1, 0, []), (59, .goto (-47), 3, [12], 0, 0, []), (62, .aload_n 0, 1, [], 0, 0, []), (63, .getfield 19, 3, [4, 2, 179], 0, 0, []), (66, .iconst (0), 1, [], 0, 0, []), (67, .iaload, 1, [], 0, 0, []), (68, .aload_n 0, 1, [], 0, 0, []), (69, .getfield 15, 3, [4, 1, 178], 0, 0, []), (72, .iushr, 1, [], 0, 0, []), (73, .iconst (1), 1, [], 1, 0, []), (74, .iand, 1, [], 0, 0, []), (75, .ifCond .eq (7), 3, [82], 0, 0, []), (78, .iconst (1), 1, [], 1, 0, []), (79, .goto (4), 3, [83], 0, 0, []), (82, .iconst (0), 1, [], 0, 0, []), (83, .ireturn, 1, [], 0, 0, [])]
def wX8_bit : List si_row := [(0, .iload_n 0, 1, [], 0, 0, []), (1, .ifCond .eq (7), 3, [8], 0, 0, []), (4, .iconst (1), 1, [], 1, 0, []), (5, .goto (4), 3, [9], 0, 0, []), (8, .iconst (0), 1, [], 0, 0, []), (9, .ireturn, 1, [], 0, 0, [])]
def wX8_accepts : List si_row := [(0, .aload_n 0, 1, [], 0, 0, []), (1, .getfield 12, 3, [7, 0, 242], 0, 0, []), (4, .invokevirtual 90, 3, [34, 0, 1, 3, 357, 358, 92, 360, 359], 0, 0, []), (7, .ifCond .ne (6), 3, [13], 0, 0, []), (10, .bipush (-4), 2, [], -4, 0, []), (12, .ireturn, 1, [], 0, 0, []), (13, .aload_n 0, 1, [], 0, 0, []), (14, .getfield 47, 3, [7, 6, 248], 0, 0, []), (17, .aload_n 0, 1, [], 0, 0, []), (18, .getfield 12, 3, [7, 0, 242], 0, 0, []), (21, .invokevirtual 93, 3, [36, 1, 0, 4, 364, 365, 96, 367, 366], 0, 0, []), (24, .aload_n 0, 1, [], 0, 0, []), (25, .getfield 47, 3, [7, 6, 248], 0, 0, []), (28, .aload_n 0, 1, [], 0, 0, []), (29, .getfield 19, 3, [7, 1, 243], 0, 0, []), (32, .invokevirtual 97, 3, [45, 1, 1, 4, 377, 378, 96, 380, 379], 0, 0, []), (35, .invokestatic 101, 3, [46, 1, 1, 413, 414, 91, 415], 0, 0, []), (38, .ireturn, 1, [], 0, 0, [])]
def wX9_isWord : List si_row := [(0, .aload_n 0, 1, [], 0, 0, []), (1, .getfield 68, 3, [8, 5, 946], 0, 0, []), (4, .bipush (10), 2, [], 10, 0, []), (6, .if_icmp .gt (7), 3, [13], 0, 0, []), (9, .iconst (1), 1, [], 1, 0, []), (10, .goto (4), 3, [14], 0, 0, []), (13, .iconst (0), 1, [], 0, 0, []), (14, .istore_n 1, 1, [], 0, 0, []), (15, .iconst (0), 1, [], 0, 0, []), (16, .istore_n 2, 1, [], 0, 0, []), (17, .iload_n 2, 1, [], 0, 0, []), (18, .aload_n 0, 1, [], 0, 0, []), (19, .getfield 68, 3, [8, 5, 946], 0, 0, []), (22, .if_icmp .ge (35), 3, [57], 0, 0, []), (25, .iload_n 1, 1, [], 0, 0, []), (26, .ifCond .eq (23), 3, [49], 0, 0, []), (29, .aload_n 0, 1, [], 0, 0, []), (30, .getfield 16, 3, [8, 6, 947], 0, 0, []), (33, .iload_n 2, 1, [], 0, 0, []), (34, .iaload, 1, [], 0, 0, []), (35, .bipush (97), 2, [], 97, 0, []), (37, .bipush (104), 2, [], 104, 0, []), (39, .invokestatic 60, 3, [3, 3, 1, 1033, 1034, 99, 1035], 0, 0, []), (42, .ifCond .eq (7), 3, [49], 0, 0, []), (45, .iconst (1), 1, [], 1, 0, []), (46, .goto (4), 3, [50], 0, 0, []), (49, .iconst (0), 1, [], 0, 0, []), (50, .istore_n 1, 1, [], 0, 0, []), (51, .iinc 2 (1), 3, [], 1, 0, []), (54, .goto (-37), 3, [17], 0, 0, []), (57, .iload_n 1, 1, [], 0, 0, []), (58, .ireturn, 1, [], 0, 0, [])]
def wX9_takeWord : List si_row := [(0, .aload_n 0, 1, [], 0, 0, []), (1, .aload_n 0, 1, [], 0, 0, []), (2, .getfield 68, 3, [8, 5, 946], 0, 0, []), (5, .putfield 117, 3, [8, 16, 957], 0, 0, []), (8, .iconst (0), 1, [], 0, 0, []), (9, .istore_n 1, 1, [], 0, 0, []), (10, .iload_n 1, 1, [], 0, 0, []), (11, .aload_n 0, 1, [], 0, 0, []), (12, .getfield 68, 3, [8, 5, 946], 0, 0, []), (15, .if_icmp .ge (24), 3, [39], 0, 0, []), (18, .aload_n 0, 1, [], 0, 0, []), (19, .getfield 26, 3, [8, 15, 956], 0, 0, []), (22, .iload_n 1, 1, [], 0, 0, []), (23, .aload_n 0, 1, [], 0, 0, []), (24, .getfield 16, 3, [8, 6, 947], 0, 0, []), (27, .iload_n 1, 1, [], 0, 0, []), (28, .iaload, 1, [], 0, 0, []), (29, .invokestatic 72, 3, [14, 1, 1, 1056, 1057, 99, 1058], 0, 0, []), (32, .iastore, 1, [], 0, 0, []), (33, .iinc 1 (1), 3, [], 1, 0, []), (36, .goto (-26), 3, [10], 0, 0, []), (39, .return_, 1, [], 0, 0, [])]
def wX9_at : List si_row := [(0, .iload_n 2, 1, [], 0, 0, []), (1, .bipush (8), 2, [], 8, 0, []), (3, .if_icmp .ge (18), 3, [21], 0, 0, []), (6, .lload_n 0, 1, [], 0, 0, []), (7, .bipush (35), 2, [], 35, 0, []), (9, .iconst (5), 1, [], 5, 0, []), (10, .iload_n 2, 1, [], 0, 0, []), (11, .imul, 1, [], 0, 0, []), (12, .isub, 1, [], 0, 0, []), (13, .lshr, 1, [], 0, 0, []), (14, .l2i, 1, [], 0, 0, []), (15, .bipush (31), 2, [], 31, 0, []), (17, .iand, 1, [], 0, 0, []), (18, .goto (4), 3, [22], 0, 0, []), (21, .iconst (0), 1, [], 0, 0, []), (22, .ireturn, 1, [], 0, 0, [])]
def wX9_goOver : List si_row := [(0, .iconst (0), 1, [], 0, 0, []), (1, .istore_n 3, 1, [], 0, 0, []), (2, .iconst (0), 1, [], 0, 0, []), (3, .istore 4, 2, [], 0, 0, []), (5, .iload 4, 2, [], 0, 0, []), (7, .aload_n 0, 1, [], 0, 0, []), (8, .getfield 117, 3, [8, 16, 957], 0, 0, []), (11, .if_icmp .gt (74), 3, [85], 0, 0, []), (14, .iload_n 2, 1, [], 0, 0, []), (15, .iload 4, 2, [], 0, 0, []), (17, .ishr, 1, [], 0, 0, []), (18, .iconst (1), 1, [], 1, 0, []), (19, .iand, 1, [], 0, 0, []), (20, .iconst (1), 1, [], 1, 0, []), (21, .if_icmp .ne (58), 3, [79], 0, 0, []), (24, .iload_n 3, 1, [], 0, 0, []), (25, .iload_n 1, 1, [], 0, 0, []), (26, .invokestatic 64, 3, [15, 1, 1, 1059, 1060, 99, 1061], 0, 0, []), (29, .ifCond .eq (20), 3, [49], 0, 0, []), (32, .aload_n 0, 1, [], 0, 0, []), (33, .getfield 29, 3, [8, 17, 958], 0, 0, []), (36, .bipush (11), 2, [], 11, 0, []), (38, .iload_n 1, 1, [], 0, 0, []), (39, .iconst (1), 1, [], 1, 0, []), (40, .isub, 1, [], 0, 0, []), (41, .imul, 1, [], 0, 0, []), (42, .iload 4, 2, [], 0, 0, []), (44, .iadd, 1, [], 0, 0, []), (45, .iaload, 1, [], 0, 0, []), (46, .goto (31), 3, [77], 0, 0, []), (49, .iload 4, 2, [], 0, 0, []), (51, .aload_n 0, 1, [], 0, 0, []), (52, .getfield 117, 3, [8, 16, 957], 0, 0, []), (55, .if_icmp .ge (21), 3, [76], 0, 0, []), (58, .aload_n 0, 1, [], 0, 0, []), (59, .getfield 26, 3, [8, 15, 956], 0, 0, []), (62, .iload 4, 2, [], 0, 0, []), (64, .iaload, 1, [], 0, 0, []), (65, .iload_n 1, 1, [], 0, 0, []), (66, .if_icmp .ne (10), 3, [76], 0, 0, []), (69, .iconst (2), 1, [], 2, 0, []), (70, .iload 4, 2, [], 0, 0, []), (72, .ishl, 1, [], 0, 0, []), (73, .goto (4), 3, [77], 0, 0, []), (76, .iconst (0), 1, [], 0, 0, []), (77, .ior, 1, [], 0, 0, []), (78, .istore_n 3, 1, [], 0, 0, []), (79, .iinc 4 (1), 3, [], 1, 0, []), (82, .goto (-77), 3, [5], 0, 0, []), (85, .iload_n 3, 1, [], 0, 0, []), (86, .ireturn, 1, [], 0, 0, [])]
def wX9_derives : List si_row := [(0, .iconst (0), 1, [], 0, 0, []), (1, .istore_n 3, 1, [], 0, 0, []), (2, .iload_n 3, 1, [], 0, 0, [4, 5, 6, 7]), (3, .sipush (176), 3, [], 176, 0, []), (6, .if_icmp .ge (16), 3, [22], 0, 0, []), (9, .aload_n 0, 1, [], 0, 0, []), (10, .getfield 29, 3, [8, 17, 958], 0, 0, []), (13, .iload_n 3, 1, [], 0, 0, []), (14, .iconst (0), 1, [], 0, 0, []), (15, .iastore, 1, [], 0, 0, []), (16, .iinc 3 (1), 3, [], 1, 0, []), (19, .goto (-17), 3, [2], 0, 0, []), (22, .iconst (1), 1, [], 1, 0, []), (23, .istore_n 3, 1, [], 0, 0, []), (24, .iload_n 3, 1, [], 0, 0, [4, 5, 6, 7]), (25, .ifCond .eq (137), 3, [162], 0, 0, []), (28, .iconst (0), 1, [], 0, 0, []), (29, .istore_n 3, 1, [], 0, 0, []), (30, .iconst (0), 1, [], 0, 0, []), (31, .istore 4, 2, [], 0, 0, []), (33, .iload 4, 2, [], 0, 0, [5, 6, 7]), (35, .iload_n 2, 1, [], 0, 0, []), (36, .if_icmp .ge (123), 3, [159], 0, 0, []), (39, .iconst (0), 1, [], 0, 0, []), (40, .istore 5, 2, [], 0, 0, []), (42, .iload 5, 2, [], 0, 0, [6, 7]), (44, .aload_n 0, 1, [], 0, 0, []), (45, .getfield 117, 3, [8, 16, 957], 0, 0, []), (48, .if_icmp .gt (105), 3, [153], 0, 0, []), (51, .iconst (1), 1, [], 1, 0, []), (52, .iload 5, 2, [], 0, 0, []), (54, .ishl, 1, [], 0, 0, []), (55, .istore 6, 2, [], 0, 0, []), (57, .iconst (0), 1, [], 0, 0, []), (58, .istore 7, 2, [], 0, 0, []), (60, .aload_n 1, 1, [], 0, 0, []), (61, .iload 4, 2, [], 0, 0, []), (63, .laload, 1, [], 0, 0, []), (64, .iload 7, 2, [], 0, 0, []), (66, .invokestatic 56, 3, [50, 2, 1, 1089, 1090, 99, 1091], 0, 0, []), (69, .ifCond .le (26), 3, [95], 0, 0, []), (72, .aload_n 0, 1, [], 0, 0, []), (73, .aload_n 1, 1, [], 0, 0, []), (74, .iload 4, 2, [], 0, 0, []), (76, .laload, 1, [], 0, 0, []), (77, .iload 7, 2, [], 0, 0, []), (79, .invokestatic 56, 3, [50, 2, 1, 1089, 1090, 99, 1091], 0, 0, []), (82, .iload 6, 2, [], 0, 0, []), (84, .invokevirtual 120, 3, [51, 2, 1, 8, 1092, 1094, 99, 1095, 47], 0, 0, []), (87, .istore 6, 2, [], 0, 0, []), (89, .iinc 7 (1), 3, [], 1, 0, []), (92, .goto (-32), 3, [60], 0, 0, []), (95, .bipush (11), 2, [], 11, 0, []), (97, .aload_n 1, 1, [], 0, 0, []), (98, .iload 4, 2, [], 0, 0, []), (100, .laload, 1, [], 0, 0, []), (101, .invokestatic 90, 3, [17, 1, 1, 1066, 1067, 99, 1068], 0, 0, []), (104, .imul, 1, [], 0, 0, []), (105, .iload 5, 2, [], 0, 0, []), (107, .iadd, 1, [], 0, 0, []), (108, .istore 7, 2, [], 0, 0, []), (110, .iload_n 3, 1, [], 0, 0, []), (111, .ifCond .ne (18), 3, [129], 0, 0, []), (114, .iload 6, 2, [], 0, 0, []), (116, .aload_n 0, 1, [], 0, 0, []), (117, .getfield 29, 3, [8, 17, 958], 0, 0, []), (120, .iload 7, 2, [], 0, 0, []), (122, .iaload, 1, [], 0, 0, []), (123, .iconst (-1), 1, [], -1, 0, []), (124, .ixor, 1, [], 0, 0, []), (125, .iand, 1, [], 0, 0, []), (126, .ifCond .eq (7), 3, [133], 0, 0, []), (129, .iconst (1), 1, [], 1, 0, []), (130, .goto (4), 3, [134], 0, 0, []), (133, .iconst (0), 1, [], 0, 0, []), (134, .istore_n 3, 1, [], 0, 0, []), (135, .aload_n 0, 1, [], 0, 0, []), (136, .getfield 29, 3, [8, 17, 958], 0, 0, []), (139, .iload 7, 2, [], 0, 0, []), (141, .dup2, 1, [], 0, 0, []), (142, .iaload, 1, [], 0, 0, []), (143, .iload 6, 2, [], 0, 0, []), (145, .ior, 1, [], 0, 0, []), (146, .iastore, 1, [], 0, 0, []), (147, .iinc 5 (1), 3, [], 1, 0, []), (150, .goto (-108), 3, [42], 0, 0, []), (153, .iinc 4 (1), 3, [], 1, 0, []), (156, .goto (-123), 3, [33], 0, 0, []), (159, .goto (-135), 3, [24], 0, 0, []), (162, .aload_n 0, 1, [], 0, 0, []), (163, .getfield 29, 3, [8, 17, 958], 0, 0, []), (166, .iconst (0), 1, [], 0, 0, []), (167, .iaload, 1, [], 0, 0, []), (168, .aload_n 0, 1, [], 0, 0, []), (169, .getfield 117, 3, [8, 16, 957], 0, 0, []), (172, .ishr, 1, [], 0, 0, []), (173, .iconst (1), 1, [], 1, 0, []), (174, .iand, 1, [], 0, 0, []), (175, .iconst (1), 1, [], 1, 0, []), (176, .if_icmp .ne (7), 3, [183], 0, 0, []), (179, .iconst (1), 1, [], 1, 0, []), (180, .goto (4), 3, [184], 0, 0, []), (183, .iconst (0), 1, [], 0, 0, []), (184, .ireturn, 1, [], 0, 0, [])]
def wX9_accepts : List si_row := [(0, .aload_n 0, 1, [], 0, 0, []), (1, .invokevirtual 124, 3, [48, 0, 1, 8, 1077, 1079, 99, 1080, 44], 0, 0, []), (4, .ifCond .ne (6), 3, [10], 0, 0, []), (7, .bipush (-4), 2, [], -4, 0, []), (9, .ireturn, 1, [], 0, 0, []), (10, .aload_n 0, 1, [], 0, 0, []), (11, .invokevirtual 128, 3, [49, 0, 0, 8, 1081, 1083, 99, 1084, 45], 0, 0, []), (14, .aload_n 0, 1, [], 0, 0, []), (15, .aload_n 0, 1, [], 0, 0, []), (16, .getfield 7, 3, [8, 0, 941], 0, 0, []), (19, .aload_n 0, 1, [], 0, 0, []), (20, .getfield 107, 3, [8, 1, 942], 0, 0, []), (23, .invokevirtual 131, 3, [52, 2, 1, 8, 1085, 1087, 99, 1088, 46], 0, 0, []), (26, .ifCond .eq (7), 3, [33], 0, 0, []), (29, .iconst (1), 1, [], 1, 0, []), (30, .goto (4), 3, [34], 0, 0, []), (33, .iconst (0), 1, [], 0, 0, []), (34, .ireturn, 1, [], 0, 0, [])]
def wX2_hasEmpty : List si_row := [(0, .iconst (0), 1, [], 0, 0, []), (1, .istore_n 1, 1, [], 0, 0, []), (2, .iload_n 1, 1, [], 0, 0, []), (3, .aload_n 0, 1, [], 0, 0, []), (4, .getfield 15, 3, [2, 1, 135], 0, 0, []), (7, .if_icmp .ge (23), 3, [30], 0, 0, []), (10, .aload_n 0, 1, [], 0, 0, []), (11, .getfield 11, 3, [2, 0, 134], 0, 0, []), (14, .iload_n 1, 1, [], 0, 0, []), (15, .laload, 1, [], 0, 0, []), (16, .invokestatic 51, 3, [27, 1, 1, 429, 346, 100, 347], 0, 0, []), (19, .ifCond .ne (5), 3, [24], 0, 0, []), (22, .iconst (1), 1, [], 1, 0, []), (23, .ireturn, 1, [], 0, 0, []), (24, .iinc 1 (1), 3, [], 1, 0, []), (27, .goto (-25), 3, [2], 0, 0, []), (30, .iconst (0), 1, [], 0, 0, []), (31, .ireturn, 1, [], 0, 0, [])]
def wX5_isUnit : List si_row := [(0, .lload_n 0, 1, [], 0, 0, []), (1, .iconst (0), 1, [], 0, 0, []), (2, .invokestatic 28, 3, [40, 2, 1, 440, 402, 100, 403], 0, 0, []), (5, .invokestatic 36, 3, [9, 1, 1, 441, 305, 91, 306], 0, 0, []), (8, .ifCond .eq (16), 3, [24], 0, 0, []), (11, .lload_n 0, 1, [], 0, 0, []), (12, .iconst (1), 1, [], 1, 0, []), (13, .invokestatic 28, 3, [40, 2, 1, 440, 402, 100, 403], 0, 0, []), (16, .iconst (-1), 1, [], -1, 0, []), (17, .if_icmp .ne (7), 3, [24], 0, 0, []), (20, .iconst (1), 1, [], 1, 0, []), (21, .goto (4), 3, [25], 0, 0, []), (24, .iconst (0), 1, [], 0, 0, []), (25, .ireturn, 1, [], 0, 0, [])]
def wX5_rightSet : List si_row := [(0, .iconst (0), 1, [], 0, 0, []), (1, .istore_n 2, 1, [], 0, 0, []), (2, .lload_n 0, 1, [], 0, 0, []), (3, .invokestatic 13, 3, [27, 1, 1, 345, 346, 100, 347], 0, 0, []), (6, .istore_n 3, 1, [], 0, 0, []), (7, .iconst (0), 1, [], 0, 0, []), (8, .istore 4, 2, [], 0, 0, []), (10, .iload 4, 2, [], 0, 0, [1]), (12, .iload_n 3, 1, [], 0, 0, []), (13, .if_icmp .ge (20), 3, [33], 0, 0, []), (16, .iload_n 2, 1, [], 0, 0, []), (17, .iconst (1), 1, [], 1, 0, []), (18, .lload_n 0, 1, [], 0, 0, []), (19, .iload 4, 2, [], 0, 0, []), (21, .invokestatic 28, 3, [40, 2, 1, 440, 402, 100, 403], 0, 0, []), (24, .ishl, 1, [], 0, 0, []), (25, .ior, 1, [], 0, 0, []), (26, .istore_n 2, 1, [], 0, 0, []), (27, .iinc 4 (1), 3, [], 1, 0, []), (30, .goto (-20), 3, [10], 0, 0, []), (33, .iload_n 2, 1, [], 0, 0, []), (34, .ireturn, 1, [], 0, 0, [])]
def wX8_isIn : List si_row := [(0, .iload_n 1, 1, [], 0, 0, []), (1, .ifCond .lt (21), 3, [22], 0, 0, []), (4, .iload_n 1, 1, [], 0, 0, []), (5, .bipush (24), 2, [], 24, 0, []), (7, .if_icmp .ge (15), 3, [22], 0, 0, []), (10, .iload_n 0, 1, [], 0, 0, []), (11, .iload_n 1, 1, [], 0, 0, []), (12, .iushr, 1, [], 0, 0, []), (13, .iconst (1), 1, [], 1, 0, []), (14, .iand, 1, [], 0, 0, []), (15, .ifCond .eq (7), 3, [22], 0, 0, []), (18, .iconst (1), 1, [], 1, 0, []), (19, .goto (4), 3, [23], 0, 0, []), (22, .iconst (0), 1, [], 0, 0, []), (23, .ireturn, 1, [], 0, 0, [])]
def wX1_close : List si_row := [(0, .iconst (0), 1, [], 0, 0, []), (1, .istore_n 1, 1, [], 0, 0, []), (2, .iload_n 1, 1, [], 0, 0, [2]), (3, .bipush (16), 2, [], 16, 0, []), (5, .if_icmp .ge (51), 3, [56], 0, 0, []), (8, .iconst (0), 1, [], 0, 0, []), (9, .istore_n 2, 1, [], 0, 0, []), (10, .iload_n 2, 1, [], 0, 0, []), (11, .bipush (16), 2, [], 16, 0, []), (13, .if_icmp .ge (37), 3, [50], 0, 0, []), (16, .aload_n 0, 1, [], 0, 0, []), (17, .getfield 9, 3, [1, 0, 151], 0, 0, []), (20, .iload_n 2, 1, [], 0, 0, []), (21, .iaload, 1, [], 0, 0, []), (22, .iload_n 1, 1, [], 0, 0, []), (23, .invokestatic 59, 3, [57, 2, 1, 450, 451, 91, 452], 0, 0, []), (26, .ifCond .eq (18), 3, [44], 0, 0, []), (29, .aload_n 0, 1, [], 0, 0, []), (30, .getfield 9, 3, [1, 0, 151], 0, 0, []), (33, .iload_n 2, 1, [], 0, 0, []), (34, .dup2, 1, [], 0, 0, []), (35, .iaload, 1, [], 0, 0, []), (36, .aload_n 0, 1, [], 0, 0, []), (37, .getfield 9, 3, [1, 0, 151], 0, 0, []), (40, .iload_n 1, 1, [], 0, 0, []), (41, .iaload, 1, [], 0, 0, []), (42, .ior, 1, [], 0, 0, []), (43, .iastore, 1, [], 0, 0, []), (44, .iinc 2 (1), 3, [], 1, 0, []), (47, .goto (-37), 3, [10], 0, 0, []), (50, .iinc 1 (1), 3, [], 1, 0, []), (53, .goto (-51), 3, [2], 0, 0, []), (56, .return_, 1, [], 0, 0, [])]
def wX1_followUnits : List si_row := [(0, .aload_n 0, 1, [], 0, 0, []), (1, .getfield 9, 3, [1, 0, 151], 0, 0, []), (4, .iconst (0), 1, [], 0, 0, []), (5, .invokestatic 15, 3, [37, 2, 0, 434, 382, 103, 383], 0, 0, []), (8, .iconst (0), 1, [], 0, 0, []), (9, .istore_n 2, 1, [], 0, 0, []), (10, .iload_n 2, 1, [], 0, 0, [3, 4]), (11, .aload_n 1, 1, [], 0, 0, []), (12, .invokevirtual 21, 3, [30, 0, 1, 2, 435, 350, 93, 352, 351], 0, 0, []), (15, .if_icmp .ge (38), 3, [53], 0, 0, []), (18, .aload_n 1, 1, [], 0, 0, []), (19, .iload_n 2, 1, [], 0, 0, []), (20, .invokevirtual 27, 3, [38, 1, 2, 2, 436, 386, 93, 388, 387], 0, 0, []), (23, .lstore_n 3, 1, [], 0, 0, []), (24, .lload_n 3, 1, [], 0, 0, []), (25, .invokestatic 44, 3, [55, 1, 1, 437, 438, 100, 439], 0, 0, []), (28, .ifCond .eq (19), 3, [47], 0, 0, []), (31, .aload_n 0, 1, [], 0, 0, []), (32, .getfield 9, 3, [1, 0, 151], 0, 0, []), (35, .lload_n 3, 1, [], 0, 0, []), (36, .invokestatic 31, 3, [39, 1, 1, 442, 394, 100, 395], 0, 0, []), (39, .dup2, 1, [], 0, 0, []), (40, .iaload, 1, [], 0, 0, []), (41, .lload_n 3, 1, [], 0, 0, []), (42, .invokestatic 37, 3, [56, 1, 1, 443, 444, 100, 445], 0, 0, []), (45, .ior, 1, [], 0, 0, []), (46, .iastore, 1, [], 0, 0, []), (47, .iinc 2 (1), 3, [], 1, 0, []), (50, .goto (-40), 3, [10], 0, 0, []), (53, .aload_n 0, 1, [], 0, 0, []), (54, .invokevirtual 41, 3, [58, 0, 0, 1, 446, 448, 94, 449, 6], 0, 0, []), (57, .return_, 1, [], 0, 0, [])]
def wX1_loops : List si_row := [(0, .iconst (0), 1, [], 0, 0, []), (1, .istore_n 1, 1, [], 0, 0, []), (2, .iconst (0), 1, [], 0, 0, []), (3, .istore_n 2, 1, [], 0, 0, []), (4, .iload_n 2, 1, [], 0, 0, []), (5, .bipush (16), 2, [], 16, 0, []), (7, .if_icmp .ge (22), 3, [29], 0, 0, []), (10, .iload_n 1, 1, [], 0, 0, []), (11, .aload_n 0, 1, [], 0, 0, []), (12, .getfield 9, 3, [1, 0, 151], 0, 0, []), (15, .iload_n 2, 1, [], 0, 0, []), (16, .iaload, 1, [], 0, 0, []), (17, .iconst (1), 1, [], 1, 0, []), (18, .iload_n 2, 1, [], 0, 0, []), (19, .ishl, 1, [], 0, 0, []), (20, .iand, 1, [], 0, 0, []), (21, .ior, 1, [], 0, 0, []), (22, .istore_n 1, 1, [], 0, 0, []), (23, .iinc 2 (1), 3, [], 1, 0, []), (26, .goto (-22), 3, [4], 0, 0, []), (29, .iload_n 1, 1, [], 0, 0, []), (30, .ireturn, 1, [], 0, 0, [])]
def wX8_isEndless : List si_row := [(0, .aload_n 0, 1, [], 0, 0, []), (1, .getfield 19, 3, [7, 1, 243], 0, 0, []), (4, .invokevirtual 197, 3, [54, 0, 1, 2, 425, 426, 93, 428, 427], 0, 0, []), (7, .ifCond .eq (5), 3, [12], 0, 0, []), (10, .iconst (1), 1, [], 1, 0, []), (11, .ireturn, 1, [], 0, 0, []), (12, .aload_n 0, 1, [], 0, 0, []), (13, .getfield 33, 3, [7, 4, 246], 0, 0, []), (16, .aload_n 0, 1, [], 0, 0, []), (17, .getfield 19, 3, [7, 1, 243], 0, 0, []), (20, .invokevirtual 158, 3, [59, 1, 0, 1, 430, 431, 94, 433, 432], 0, 0, []), (23, .aload_n 0, 1, [], 0, 0, []), (24, .getfield 33, 3, [7, 4, 246], 0, 0, []), (27, .invokevirtual 152, 3, [60, 0, 1, 1, 453, 454, 94, 456, 455], 0, 0, []), (30, .ifCond .eq (7), 3, [37], 0, 0, []), (33, .iconst (1), 1, [], 1, 0, []), (34, .goto (4), 3, [38], 0, 0, []), (37, .iconst (0), 1, [], 0, 0, []), (38, .ireturn, 1, [], 0, 0, [])]
def wJ7_fill_d0a16 : List si_row := [(0, .iconst (0), 1, [], 0, 0, []), (1, .istore_n 3, 1, [], 0, 0, []), (2, .aload_n 0, 1, [], 0, 0, []), (3, .arraylength, 1, [], 0, 0, []), (4, .istore 4, 2, [], 0, 0, []), (6, .iload_n 3, 1, [], 0, 0, [2]), (7, .iload 4, 2, [], 0, 0, []), (9, .if_icmp .ge (13), 3, [22], 0, 0, []), (12, .aload_n 0, 1, [], 0, 0, []), (13, .iload_n 3, 1, [], 0, 0, []), (14, .lload_n 1, 1, [], 0, 0, []), (15, .lastore, 1, [], 0, 0, []), (16, .iinc 3 (1), 3, [], 1, 0, []), (19, .goto (-13), 3, [6], 0, 0, []), (22, .return_, 1, [], 0, 0, [])]
def wX2_hasUnit : List si_row := [(0, .iconst (0), 1, [], 0, 0, []), (1, .istore_n 1, 1, [], 0, 0, []), (2, .iload_n 1, 1, [], 0, 0, []), (3, .aload_n 0, 1, [], 0, 0, []), (4, .getfield 15, 3, [2, 1, 135], 0, 0, []), (7, .if_icmp .ge (23), 3, [30], 0, 0, []), (10, .aload_n 0, 1, [], 0, 0, []), (11, .getfield 11, 3, [2, 0, 134], 0, 0, []), (14, .iload_n 1, 1, [], 0, 0, []), (15, .laload, 1, [], 0, 0, []), (16, .invokestatic 54, 3, [55, 1, 1, 469, 438, 100, 439], 0, 0, []), (19, .ifCond .eq (5), 3, [24], 0, 0, []), (22, .iconst (1), 1, [], 1, 0, []), (23, .ireturn, 1, [], 0, 0, []), (24, .iinc 1 (1), 3, [], 1, 0, []), (27, .goto (-25), 3, [2], 0, 0, []), (30, .iconst (0), 1, [], 0, 0, []), (31, .ireturn, 1, [], 0, 0, [])]
def wX4_treesAt : List si_row := [(0, .aload_n 0, 1, [], 0, 0, []), (1, .getfield 22, 3, [4, 3, 180], 0, 0, []), (4, .iload_n 1, 1, [], 0, 0, []), (5, .bipush (11), 2, [], 11, 0, []), (7, .imul, 1, [], 0, 0, []), (8, .iload_n 2, 1, [], 0, 0, []), (9, .iadd, 1, [], 0, 0, []), (10, .bipush (11), 2, [], 11, 0, []), (12, .imul, 1, [], 0, 0, []), (13, .iload_n 3, 1, [], 0, 0, []), (14, .iadd, 1, [], 0, 0, []), (15, .laload, 1, [], 0, 0, []), (16, .lreturn, 1, [], 0, 0, [])]
def wX4_treesOfSymbol : List si_row := [(0, .iload_n 1, 1, [], 0, 0, []), (1, .invokestatic 93, 3, [9, 1, 1, 408, 305, 91, 306], 0, 0, []), (4, .ifCond .eq (11), 3, [15], 0, 0, []), (7, .aload_n 0, 1, [], 0, 0, []), (8, .iload_n 1, 1, [], 0, 0, []), (9, .iload_n 2, 1, [], 0, 0, []), (10, .iload_n 3, 1, [], 0, 0, []), (11, .invokevirtual 120, 3, [64, 3, 2, 4, 487, 489, 96, 490, 11], 0, 0, []), (14, .lreturn, 1, [], 0, 0, []), (15, .iload_n 3, 1, [], 0, 0, []), (16, .iload_n 2, 1, [], 0, 0, []), (17, .iconst (1), 1, [], 1, 0, []), (18, .iadd, 1, [], 0, 0, []), (19, .if_icmp .ne (16), 3, [35], 0, 0, []), (22, .aload_n 0, 1, [], 0, 0, []), (23, .iload_n 1, 1, [], 0, 0, []), (24, .iload_n 2, 1, [], 0, 0, []), (25, .invokevirtual 97, 3, [41, 2, 1, 4, 409, 411, 96, 412, 4], 0, 0, []), (28, .ifCond .eq (7), 3, [35], 0, 0, []), (31, .lconst 1, 1, [], 0, 1, []), (32, .goto (4), 3, [36], 0, 0, []), (35, .lconst 0, 1, [], 0, 0, []), (36, .lreturn, 1, [], 0, 0, [])]
def wX4_takeSymbol : List si_row := [(0, .iload_n 3, 1, [], 0, 0, []), (1, .istore 4, 2, [], 0, 0, []), (3, .iload 4, 2, [], 0, 0, [3, 5, 6, 7]), (5, .iload_n 2, 1, [], 0, 0, []), (6, .if_icmp .lt (71), 3, [77], 0, 0, []), (9, .lconst 0, 1, [], 0, 0, []), (10, .lstore 5, 2, [], 0, 0, []), (12, .iload_n 2, 1, [], 0, 0, []), (13, .istore 7, 2, [], 0, 0, []), (15, .iload 7, 2, [], 0, 0, [3, 6]), (17, .iload 4, 2, [], 0, 0, []), (19, .if_icmp .ge (43), 3, [62], 0, 0, []), (22, .aload_n 0, 1, [], 0, 0, []), (23, .getfield 26, 3, [4, 4, 181], 0, 0, []), (26, .iload 7, 2, [], 0, 0, []), (28, .laload, 1, [], 0, 0, []), (29, .lconst 0, 1, [], 0, 0, []), (30, .lcmp, 1, [], 0, 0, []), (31, .ifCond .eq (25), 3, [56], 0, 0, []), (34, .lload 5, 2, [], 0, 0, []), (36, .aload_n 0, 1, [], 0, 0, []), (37, .getfield 26, 3, [4, 4, 181], 0, 0, []), (40, .iload 7, 2, [], 0, 0, []), (42, .laload, 1, [], 0, 0, []), (43, .aload_n 0, 1, [], 0, 0, []), (44, .iload_n 1, 1, [], 0, 0, []), (45, .iload 7, 2, [], 0, 0, []), (47, .iload 4, 2, [], 0, 0, []), (49, .invokevirtual 141, 3, [65, 3, 2, 4, 483, 485, 96, 486, 10], 0, 0, []), (52, .lmul, 1, [], 0, 0, []), (53, .ladd, 1, [], 0, 0, []), (54, .lstore 5, 2, [], 0, 0, []), (56, .iinc 7 (1), 3, [], 1, 0, []), (59, .goto (-44), 3, [15], 0, 0, []), (62, .aload_n 0, 1, [], 0, 0, []), (63, .getfield 26, 3, [4, 4, 181], 0, 0, []), (66, .iload 4, 2, [], 0, 0, []), (68, .lload 5, 2, [], 0, 0, []), (70, .lastore, 1, [], 0, 0, []), (71, .iinc 4 (-1), 3, [], -1, 0, []), (74, .goto (-71), 3, [3], 0, 0, []), (77, .return_, 1, [], 0, 0, [])]
def wX4_waysThrough : List si_row := [(0, .lload_n 1, 1, [], 0, 0, []), (1, .invokestatic 85, 3, [27, 1, 1, 400, 346, 100, 347], 0, 0, []), (4, .istore 5, 2, [], 0, 0, []), (6, .iload 5, 2, [], 0, 0, []), (8, .iload 4, 2, [], 0, 0, []), (10, .iload_n 3, 1, [], 0, 0, []), (11, .isub, 1, [], 0, 0, []), (12, .if_icmp .le (5), 3, [17], 0, 0, []), (15, .lconst 0, 1, [], 0, 0, []), (16, .lreturn, 1, [], 0, 0, []), (17, .aload_n 0, 1, [], 0, 0, []), (18, .getfield 26, 3, [4, 4, 181], 0, 0, []), (21, .lconst 0, 1, [], 0, 0, []), (22, .invokestatic 101, 3, [62, 2, 0, 462, 463, 103, 464], 0, 0, []), (25, .aload_n 0, 1, [], 0, 0, []), (26, .getfield 26, 3, [4, 4, 181], 0, 0, []), (29, .iload_n 3, 1, [], 0, 0, []), (30, .lconst 1, 1, [], 0, 1, []), (31, .lastore, 1, [], 0, 0, []), (32, .iconst (0), 1, [], 0, 0, []), (33, .istore 6, 2, [], 0, 0, []), (35, .iload 6, 2, [], 0, 0, [2]), (37, .iload 5, 2, [], 0, 0, []), (39, .if_icmp .ge (22), 3, [61], 0, 0, []), (42, .aload_n 0, 1, [], 0, 0, []), (43, .lload_n 1, 1, [], 0, 0, []), (44, .iload 6, 2, [], 0, 0, []), (46, .invokestatic 87, 3, [40, 2, 1, 401, 402, 100, 403], 0, 0, []), (49, .iload_n 3, 1, [], 0, 0, []), (50, .iload 4, 2, [], 0, 0, []), (52, .invokevirtual 137, 3, [66, 3, 0, 4, 479, 481, 96, 482, 9], 0, 0, []), (55, .iinc 6 (1), 3, [], 1, 0, []), (58, .goto (-23), 3, [35], 0, 0, []), (61, .aload_n 0, 1, [], 0, 0, []), (62, .getfield 26, 3, [4, 4, 181], 0, 0, []), (65, .iload 4, 2, [], 0, 0, []), (67, .laload, 1, [], 0, 0, []), (68, .lreturn, 1, [], 0, 0, [])]
def wX4_countPlain : List si_row := [(0, .aload_n 0, 1, [], 0, 0, []), (1, .getfield 29, 3, [4, 5, 182], 0, 0, []), (4, .lconst 0, 1, [], 0, 0, []), (5, .invokestatic 101, 3, [62, 2, 0, 462, 463, 103, 464], 0, 0, []), (8, .iconst (0), 1, [], 0, 0, []), (9, .istore 4, 2, [], 0, 0, []), (11, .iload 4, 2, [], 0, 0, [5, 6]), (13, .aload_n 1, 1, [], 0, 0, []), (14, .invokevirtual 62, 3, [30, 0, 1, 2, 384, 350, 93, 352, 351], 0, 0, []), (17, .if_icmp .ge (46), 3, [63], 0, 0, []), (20, .aload_n 1, 1, [], 0, 0, []), (21, .iload 4, 2, [], 0, 0, []), (23, .invokevirtual 67, 3, [38, 1, 2, 2, 385, 386, 93, 388, 387], 0, 0, []), (26, .lstore 5, 2, [], 0, 0, []), (28, .lload 5, 2, [], 0, 0, []), (30, .invokestatic 124, 3, [55, 1, 1, 474, 438, 100, 439], 0, 0, []), (33, .ifCond .ne (24), 3, [57], 0, 0, []), (36, .aload_n 0, 1, [], 0, 0, []), (37, .getfield 29, 3, [4, 5, 182], 0, 0, []), (40, .lload 5, 2, [], 0, 0, []), (42, .invokestatic 75, 3, [39, 1, 1, 393, 394, 100, 395], 0, 0, []), (45, .dup2, 1, [], 0, 0, []), (46, .laload, 1, [], 0, 0, []), (47, .aload_n 0, 1, [], 0, 0, []), (48, .lload 5, 2, [], 0, 0, []), (50, .iload_n 2, 1, [], 0, 0, []), (51, .iload_n 3, 1, [], 0, 0, []), (52, .invokevirtual 127, 3, [67, 3, 2, 4, 475, 477, 96, 478, 8], 0, 0, []), (55, .ladd, 1, [], 0, 0, []), (56, .lastore, 1, [], 0, 0, []), (57, .iinc 4 (1), 3, [], 1, 0, []), (60, .goto (-49), 3, [11], 0, 0, []), (63, .aload_n 0, 1, [], 0, 0, []), (64, .getfield 29, 3, [4, 5, 182], 0, 0, []), (67, .iconst (0), 1, [], 0, 0, []), (68, .aload_n 0, 1, [], 0, 0, []), (69, .getfield 32, 3, [4, 6, 183], 0, 0, []), (72, .iconst (0), 1, [], 0, 0, []), (73, .bipush (16), 2, [], 16, 0, []), (75, .invokestatic 131, 3, [491, 337, 336, 101], 0, 0, []), (78, .return_, 1, [], 0, 0, [])]
def wX4_spreadUnits : List si_row := [(0, .iconst (0), 1, [], 0, 0, []), (1, .istore_n 2, 1, [], 0, 0, []), (2, .iload_n 2, 1, [], 0, 0, [3, 4, 5, 6]), (3, .bipush (16), 2, [], 16, 0, []), (5, .if_icmp .ge (106), 3, [111], 0, 0, []), (8, .aload_n 0, 1, [], 0, 0, []), (9, .getfield 32, 3, [4, 6, 183], 0, 0, []), (12, .iconst (0), 1, [], 0, 0, []), (13, .aload_n 0, 1, [], 0, 0, []), (14, .getfield 35, 3, [4, 7, 184], 0, 0, []), (17, .iconst (0), 1, [], 0, 0, []), (18, .bipush (16), 2, [], 16, 0, []), (20, .invokestatic 131, 3, [491, 337, 336, 101], 0, 0, []), (23, .aload_n 0, 1, [], 0, 0, []), (24, .getfield 29, 3, [4, 5, 182], 0, 0, []), (27, .iconst (0), 1, [], 0, 0, []), (28, .aload_n 0, 1, [], 0, 0, []), (29, .getfield 32, 3, [4, 6, 183], 0, 0, []), (32, .iconst (0), 1, [], 0, 0, []), (33, .bipush (16), 2, [], 16, 0, []), (35, .invokestatic 131, 3, [491, 337, 336, 101], 0, 0, []), (38, .iconst (0), 1, [], 0, 0, []), (39, .istore_n 3, 1, [], 0, 0, []), (40, .iload_n 3, 1, [], 0, 0, [4, 5, 6]), (41, .aload_n 1, 1, [], 0, 0, []), (42, .invokevirtual 62, 3, [30, 0, 1, 2, 384, 350, 93, 352, 351], 0, 0, []), (45, .if_icmp .ge (60), 3, [105], 0, 0, []), (48, .aload_n 1, 1, [], 0, 0, []), (49, .iload_n 3, 1, [], 0, 0, []), (50, .invokevirtual 67, 3, [38, 1, 2, 2, 385, 386, 93, 388, 387], 0, 0, []), (53, .lstore 4, 2, [], 0, 0, []), (55, .lload 4, 2, [], 0, 0, []), (57, .iconst (0), 1, [], 0, 0, []), (58, .invokestatic 87, 3, [40, 2, 1, 401, 402, 100, 403], 0, 0, []), (61, .istore 6, 2, [], 0, 0, []), (63, .lload 4, 2, [], 0, 0, []), (65, .invokestatic 124, 3, [55, 1, 1, 474, 438, 100, 439], 0, 0, []), (68, .ifCond .eq (31), 3, [99], 0, 0, []), (71, .iload 6, 2, [], 0, 0, []), (73, .invokestatic 93, 3, [9, 1, 1, 408, 305, 91, 306], 0, 0, []), (76, .ifCond .eq (23), 3, [99], 0, 0, []), (79, .aload_n 0, 1, [], 0, 0, []), (80, .getfield 32, 3, [4, 6, 183], 0, 0, []), (83, .lload 4, 2, [], 0, 0, []), (85, .invokestatic 75, 3, [39, 1, 1, 393, 394, 100, 395], 0, 0, []), (88, .dup2, 1, [], 0, 0, []), (89, .laload, 1, [], 0, 0, []), (90, .aload_n 0, 1, [], 0, 0, []), (91, .getfield 35, 3, [4, 7, 184], 0, 0, []), (94, .iload 6, 2, [], 0, 0, []), (96, .laload, 1, [], 0, 0, []), (97, .ladd, 1, [], 0, 0, []), (98, .lastore, 1, [], 0, 0, []), (99, .iinc 3 (1), 3, [], 1, 0, []), (102, .goto (-62), 3, [40], 0, 0, []), (105, .iinc 2 (1), 3, [], 1, 0, []), (108, .goto (-106), 3, [2], 0, 0, []), (111, .return_, 1, [], 0, 0, [])]
def wX4_keepTotals : List si_row := [(0, .iconst (0), 1, [], 0, 0, []), (1, .istore_n 3, 1, [], 0, 0, []), (2, .iload_n 3, 1, [], 0, 0, []), (3, .bipush (16), 2, [], 16, 0, []), (5, .if_icmp .ge (31), 3, [36], 0, 0, []), (8, .aload_n 0, 1, [], 0, 0, []), (9, .getfield 22, 3, [4, 3, 180], 0, 0, []), (12, .iload_n 3, 1, [], 0, 0, []), (13, .bipush (11), 2, [], 11, 0, []), (15, .imul, 1, [], 0, 0, []), (16, .iload_n 1, 1, [], 0, 0, []), (17, .iadd, 1, [], 0, 0, []), (18, .bipush (11), 2, [], 11, 0, []), (20, .imul, 1, [], 0, 0, []), (21, .iload_n 2, 1, [], 0, 0, []), (22, .iadd, 1, [], 0, 0, []), (23, .aload_n 0, 1, [], 0, 0, []), (24, .getfield 32, 3, [4, 6, 183], 0, 0, []), (27, .iload_n 3, 1, [], 0, 0, []), (28, .laload, 1, [], 0, 0, []), (29, .lastore, 1, [], 0, 0, []), (30, .iinc 3 (1), 3, [], 1, 0, []), (33, .goto (-31), 3, [2], 0, 0, []), (36, .return_, 1, [], 0, 0, [])]
def wX4_treesOf : List si_row := [(0, .aload_n 0, 1, [], 0, 0, []), (1, .getfield 22, 3, [4, 3, 180], 0, 0, []), (4, .lconst 0, 1, [], 0, 0, []), (5, .invokestatic 101, 3, [62, 2, 0, 462, 463, 103, 464], 0, 0, []), (8, .aload_n 1, 1, [], 0, 0, []), (9, .invokevirtual 104, 3, [63, 0, 1, 2, 465, 466, 93, 468, 467], 0, 0, []), (12, .istore_n 2, 1, [], 0, 0, []), (13, .iconst (1), 1, [], 1, 0, []), (14, .istore_n 3, 1, [], 0, 0, []), (15, .iload_n 3, 1, [], 0, 0, [4]), (16, .aload_n 0, 1, [], 0, 0, []), (17, .getfield 15, 3, [4, 1, 178], 0, 0, []), (20, .if_icmp .gt (59), 3, [79], 0, 0, []), (23, .iconst (0), 1, [], 0, 0, []), (24, .istore 4, 2, [], 0, 0, []), (26, .iload 4, 2, [], 0, 0, []), (28, .iload_n 3, 1, [], 0, 0, []), (29, .iadd, 1, [], 0, 0, []), (30, .aload_n 0, 1, [], 0, 0, []), (31, .getfield 15, 3, [4, 1, 178], 0, 0, []), (34, .if_icmp .gt (39), 3, [73], 0, 0, []), (37, .aload_n 0, 1, [], 0, 0, []), (38, .aload_n 1, 1, [], 0, 0, []), (39, .iload 4, 2, [], 0, 0, []), (41, .iload 4, 2, [], 0, 0, []), (43, .iload_n 3, 1, [], 0, 0, []), (44, .iadd, 1, [], 0, 0, []), (45, .invokevirtual 108, 3, [68, 3, 0, 4, 470, 472, 96, 473, 7], 0, 0, []), (48, .iload_n 2, 1, [], 0, 0, []), (49, .ifCond .eq (8), 3, [57], 0, 0, []), (52, .aload_n 0, 1, [], 0, 0, []), (53, .aload_n 1, 1, [], 0, 0, []), (54, .invokevirtual 112, 3, [69, 1, 0, 4, 492, 494, 96, 495, 12], 0, 0, []), (57, .aload_n 0, 1, [], 0, 0, []), (58, .iload 4, 2, [], 0, 0, []), (60, .iload 4, 2, [], 0, 0, []), (62, .iload_n 3, 1, [], 0, 0, []), (63, .iadd, 1, [], 0, 0, []), (64, .invokevirtual 116, 3, [70, 2, 0, 4, 496, 498, 96, 499, 13], 0, 0, []), (67, .iinc 4 (1), 3, [], 1, 0, []), (70, .goto (-44), 3, [26], 0, 0, []), (73, .iinc 3 (1), 3, [], 1, 0, []), (76, .goto (-61), 3, [15], 0, 0, []), (79, .aload_n 0, 1, [], 0, 0, []), (80, .iconst (0), 1, [], 0, 0, []), (81, .iconst (0), 1, [], 0, 0, []), (82, .aload_n 0, 1, [], 0, 0, []), (83, .getfield 15, 3, [4, 1, 178], 0, 0, []), (86, .invokevirtual 120, 3, [64, 3, 2, 4, 487, 489, 96, 490, 11], 0, 0, []), (89, .lreturn, 1, [], 0, 0, [])]
def wX8_countTrees : List si_row := [(0, .aload_n 0, 1, [], 0, 0, []), (1, .getfield 12, 3, [7, 0, 242], 0, 0, []), (4, .invokevirtual 90, 3, [34, 0, 1, 3, 357, 358, 92, 360, 359], 0, 0, []), (7, .ifCond .ne (7), 3, [14], 0, 0, []), (10, .ldc2_w 105, 3, [420], 0, -4, []), (13, .lreturn, 1, [], 0, 0, []), (14, .aload_n 0, 1, [], 0, 0, []), (15, .invokevirtual 107, 3, [61, 0, 1, 7, 421, 423, 91, 424, 5], 0, 0, []), (18, .ifCond .eq (7), 3, [25], 0, 0, []), (21, .ldc2_w 110, 3, [457], 0, -8, []), (24, .lreturn, 1, [], 0, 0, []), (25, .aload_n 0, 1, [], 0, 0, []), (26, .getfield 47, 3, [7, 6, 248], 0, 0, []), (29, .aload_n 0, 1, [], 0, 0, []), (30, .getfield 12, 3, [7, 0, 242], 0, 0, []), (33, .invokevirtual 93, 3, [36, 1, 0, 4, 364, 365, 96, 367, 366], 0, 0, []), (36, .aload_n 0, 1, [], 0, 0, []), (37, .getfield 47, 3, [7, 6, 248], 0, 0, []), (40, .aload_n 0, 1, [], 0, 0, []), (41, .getfield 19, 3, [7, 1, 243], 0, 0, []), (44, .invokevirtual 112, 3, [71, 1, 2, 4, 458, 459, 96, 461, 460], 0, 0, []), (47, .lreturn, 1, [], 0, 0, [])]
def wX9_isEmpty : List si_row := [(0, .lload_n 0, 1, [], 0, 0, []), (1, .iconst (0), 1, [], 0, 0, []), (2, .invokestatic 56, 3, [50, 2, 1, 1089, 1090, 99, 1091], 0, 0, []), (5, .ifCond .ne (7), 3, [12], 0, 0, []), (8, .iconst (1), 1, [], 1, 0, []), (9, .goto (4), 3, [13], 0, 0, []), (12, .iconst (0), 1, [], 0, 0, []), (13, .ireturn, 1, [], 0, 0, [])]
def wX9_hasEmpty : List si_row := [(0, .iconst (0), 1, [], 0, 0, []), (1, .istore_n 1, 1, [], 0, 0, []), (2, .iconst (0), 1, [], 0, 0, []), (3, .istore_n 2, 1, [], 0, 0, []), (4, .iload_n 2, 1, [], 0, 0, []), (5, .aload_n 0, 1, [], 0, 0, []), (6, .getfield 107, 3, [8, 1, 942], 0, 0, []), (9, .if_icmp .ge (31), 3, [40], 0, 0, []), (12, .iload_n 1, 1, [], 0, 0, []), (13, .ifCond .ne (15), 3, [28], 0, 0, []), (16, .aload_n 0, 1, [], 0, 0, []), (17, .getfield 7, 3, [8, 0, 941], 0, 0, []), (20, .iload_n 2, 1, [], 0, 0, []), (21, .laload, 1, [], 0, 0, []), (22, .invokestatic 139, 3, [73, 1, 1, 1105, 1106, 99, 1107], 0, 0, []), (25, .ifCond .eq (7), 3, [32], 0, 0, []), (28, .iconst (1), 1, [], 1, 0, []), (29, .goto (4), 3, [33], 0, 0, []), (32, .iconst (0), 1, [], 0, 0, []), (33, .istore_n 1, 1, [], 0, 0, []), (34, .iinc 2 (1), 3, [], 1, 0, []), (37, .goto (-33), 3, [4], 0, 0, []), (40, .iload_n 1, 1, [], 0, 0, []), (41, .ireturn, 1, [], 0, 0, [])]
def wX9_clearLeads : List si_row := [(0, .iconst (0), 1, [], 0, 0, []), (1, .istore_n 1, 1, [], 0, 0, []), (2, .iload_n 1, 1, [], 0, 0, []), (3, .bipush (16), 2, [], 16, 0, []), (5, .if_icmp .ge (16), 3, [21], 0, 0, []), (8, .aload_n 0, 1, [], 0, 0, []), (9, .getfield 41, 3, [8, 21, 962], 0, 0, []), (12, .iload_n 1, 1, [], 0, 0, []), (13, .iconst (0), 1, [], 0, 0, []), (14, .iastore, 1, [], 0, 0, []), (15, .iinc 1 (1), 3, [], 1, 0, []), (18, .goto (-16), 3, [2], 0, 0, []), (21, .return_, 1, [], 0, 0, [])]
def wX9_isUnit : List si_row := [(0, .lload_n 0, 1, [], 0, 0, []), (1, .iconst (0), 1, [], 0, 0, []), (2, .invokestatic 56, 3, [50, 2, 1, 1089, 1090, 99, 1091], 0, 0, []), (5, .invokestatic 64, 3, [15, 1, 1, 1059, 1060, 99, 1061], 0, 0, []), (8, .ifCond .eq (15), 3, [23], 0, 0, []), (11, .lload_n 0, 1, [], 0, 0, []), (12, .iconst (1), 1, [], 1, 0, []), (13, .invokestatic 56, 3, [50, 2, 1, 1089, 1090, 99, 1091], 0, 0, []), (16, .ifCond .ne (7), 3, [23], 0, 0, []), (19, .iconst (1), 1, [], 1, 0, []), (20, .goto (4), 3, [24], 0, 0, []), (23, .iconst (0), 1, [], 0, 0, []), (24, .ireturn, 1, [], 0, 0, [])]
def wX9_closeLeads : List si_row := [(0, .iconst (0), 1, [], 0, 0, []), (1, .istore_n 1, 1, [], 0, 0, []), (2, .iload_n 1, 1, [], 0, 0, [2]), (3, .bipush (16), 2, [], 16, 0, []), (5, .if_icmp .ge (56), 3, [61], 0, 0, []), (8, .iconst (0), 1, [], 0, 0, []), (9, .istore_n 2, 1, [], 0, 0, []), (10, .iload_n 2, 1, [], 0, 0, []), (11, .bipush (16), 2, [], 16, 0, []), (13, .if_icmp .ge (42), 3, [55], 0, 0, []), (16, .aload_n 0, 1, [], 0, 0, []), (17, .getfield 41, 3, [8, 21, 962], 0, 0, []), (20, .iload_n 2, 1, [], 0, 0, []), (21, .dup2, 1, [], 0, 0, []), (22, .iaload, 1, [], 0, 0, []), (23, .aload_n 0, 1, [], 0, 0, []), (24, .getfield 41, 3, [8, 21, 962], 0, 0, []), (27, .iload_n 2, 1, [], 0, 0, []), (28, .iaload, 1, [], 0, 0, []), (29, .iload_n 1, 1, [], 0, 0, []), (30, .ishr, 1, [], 0, 0, []), (31, .iconst (1), 1, [], 1, 0, []), (32, .iand, 1, [], 0, 0, []), (33, .iconst (1), 1, [], 1, 0, []), (34, .if_icmp .ne (12), 3, [46], 0, 0, []), (37, .aload_n 0, 1, [], 0, 0, []), (38, .getfield 41, 3, [8, 21, 962], 0, 0, []), (41, .iload_n 1, 1, [], 0, 0, []), (42, .iaload, 1, [], 0, 0, []), (43, .goto (4), 3, [47], 0, 0, []), (46, .iconst (0), 1, [], 0, 0, []), (47, .ior, 1, [], 0, 0, []), (48, .iastore, 1, [], 0, 0, []), (49, .iinc 2 (1), 3, [], 1, 0, []), (52, .goto (-42), 3, [10], 0, 0, []), (55, .iinc 1 (1), 3, [], 1, 0, []), (58, .goto (-56), 3, [2], 0, 0, []), (61, .return_, 1, [], 0, 0, [])]
def wX9_layUnits : List si_row := [(0, .aload_n 0, 1, [], 0, 0, []), (1, .invokevirtual 184, 3, [75, 0, 0, 8, 1116, 1118, 99, 1119, 51], 0, 0, []), (4, .iconst (0), 1, [], 0, 0, []), (5, .istore_n 1, 1, [], 0, 0, []), (6, .iload_n 1, 1, [], 0, 0, []), (7, .aload_n 0, 1, [], 0, 0, []), (8, .getfield 107, 3, [8, 1, 942], 0, 0, []), (11, .if_icmp .ge (56), 3, [67], 0, 0, []), (14, .aload_n 0, 1, [], 0, 0, []), (15, .getfield 41, 3, [8, 21, 962], 0, 0, []), (18, .aload_n 0, 1, [], 0, 0, []), (19, .getfield 7, 3, [8, 0, 941], 0, 0, []), (22, .iload_n 1, 1, [], 0, 0, []), (23, .laload, 1, [], 0, 0, []), (24, .invokestatic 90, 3, [17, 1, 1, 1066, 1067, 99, 1068], 0, 0, []), (27, .dup2, 1, [], 0, 0, []), (28, .iaload, 1, [], 0, 0, []), (29, .aload_n 0, 1, [], 0, 0, []), (30, .getfield 7, 3, [8, 0, 941], 0, 0, []), (33, .iload_n 1, 1, [], 0, 0, []), (34, .laload, 1, [], 0, 0, []), (35, .invokestatic 143, 3, [76, 1, 1, 1120, 1121, 99, 1122], 0, 0, []), (38, .ifCond .eq (20), 3, [58], 0, 0, []), (41, .iconst (1), 1, [], 1, 0, []), (42, .aload_n 0, 1, [], 0, 0, []), (43, .getfield 7, 3, [8, 0, 941], 0, 0, []), (46, .iload_n 1, 1, [], 0, 0, []), (47, .laload, 1, [], 0, 0, []), (48, .iconst (0), 1, [], 0, 0, []), (49, .invokestatic 56, 3, [50, 2, 1, 1089, 1090, 99, 1091], 0, 0, []), (52, .iconst (1), 1, [], 1, 0, []), (53, .isub, 1, [], 0, 0, []), (54, .ishl, 1, [], 0, 0, []), (55, .goto (4), 3, [59], 0, 0, []), (58, .iconst (0), 1, [], 0, 0, []), (59, .ior, 1, [], 0, 0, []), (60, .iastore, 1, [], 0, 0, []), (61, .iinc 1 (1), 3, [], 1, 0, []), (64, .goto (-58), 3, [6], 0, 0, []), (67, .aload_n 0, 1, [], 0, 0, []), (68, .invokevirtual 187, 3, [77, 0, 0, 8, 1123, 1125, 99, 1126, 52], 0, 0, []), (71, .return_, 1, [], 0, 0, [])]
def wX9_loops : List si_row := [(0, .iconst (0), 1, [], 0, 0, []), (1, .istore_n 1, 1, [], 0, 0, []), (2, .iconst (0), 1, [], 0, 0, []), (3, .istore_n 2, 1, [], 0, 0, []), (4, .iload_n 2, 1, [], 0, 0, []), (5, .bipush (16), 2, [], 16, 0, []), (7, .if_icmp .ge (22), 3, [29], 0, 0, []), (10, .iload_n 1, 1, [], 0, 0, []), (11, .aload_n 0, 1, [], 0, 0, []), (12, .getfield 41, 3, [8, 21, 962], 0, 0, []), (15, .iload_n 2, 1, [], 0, 0, []), (16, .iaload, 1, [], 0, 0, []), (17, .iconst (1), 1, [], 1, 0, []), (18, .iload_n 2, 1, [], 0, 0, []), (19, .ishl, 1, [], 0, 0, []), (20, .iand, 1, [], 0, 0, []), (21, .ior, 1, [], 0, 0, []), (22, .istore_n 1, 1, [], 0, 0, []), (23, .iinc 2 (1), 3, [], 1, 0, []), (26, .goto (-22), 3, [4], 0, 0, []), (29, .iload_n 1, 1, [], 0, 0, []), (30, .ireturn, 1, [], 0, 0, [])]
def wX9_hasUnitCycle : List si_row := [(0, .aload_n 0, 1, [], 0, 0, []), (1, .invokevirtual 190, 3, [78, 0, 0, 8, 1112, 1114, 99, 1115, 50], 0, 0, []), (4, .aload_n 0, 1, [], 0, 0, []), (5, .invokevirtual 193, 3, [79, 0, 1, 8, 1127, 1129, 99, 1130, 53], 0, 0, []), (8, .ifCond .eq (7), 3, [15], 0, 0, []), (11, .iconst (1), 1, [], 1, 0, []), (12, .goto (4), 3, [16], 0, 0, []), (15, .iconst (0), 1, [], 0, 0, []), (16, .ireturn, 1, [], 0, 0, [])]
def wX9_waysOf : List si_row := [(0, .iconst (0), 1, [], 0, 0, []), (1, .istore 5, 2, [], 0, 0, []), (3, .iload 5, 2, [], 0, 0, [2, 6, 7, 8, 9, 10]), (5, .bipush (11), 2, [], 11, 0, []), (7, .if_icmp .ge (27), 3, [34], 0, 0, []), (10, .aload_n 0, 1, [], 0, 0, []), (11, .getfield 35, 3, [8, 19, 960], 0, 0, []), (14, .iload 5, 2, [], 0, 0, []), (16, .iload 5, 2, [], 0, 0, []), (18, .iload_n 3, 1, [], 0, 0, []), (19, .if_icmp .ne (7), 3, [26], 0, 0, []), (22, .lconst 1, 1, [], 0, 1, []), (23, .goto (4), 3, [27], 0, 0, []), (26, .lconst 0, 1, [], 0, 0, []), (27, .lastore, 1, [], 0, 0, []), (28, .iinc 5 (1), 3, [], 1, 0, []), (31, .goto (-28), 3, [3], 0, 0, []), (34, .iconst (0), 1, [], 0, 0, []), (35, .istore 5, 2, [], 0, 0, []), (37, .lload_n 1, 1, [], 0, 0, [2, 6, 7, 8, 9, 10]), (38, .iload 5, 2, [], 0, 0, []), (40, .invokestatic 56, 3, [50, 2, 1, 1089, 1090, 99, 1091], 0, 0, []), (43, .ifCond .le (186), 3, [229], 0, 0, []), (46, .lload_n 1, 1, [], 0, 0, []), (47, .iload 5, 2, [], 0, 0, []), (49, .invokestatic 56, 3, [50, 2, 1, 1089, 1090, 99, 1091], 0, 0, []), (52, .istore 6, 2, [], 0, 0, []), (54, .iconst (0), 1, [], 0, 0, []), (55, .istore 7, 2, [], 0, 0, []), (57, .iload 7, 2, [], 0, 0, [2, 8, 9, 10]), (59, .bipush (11), 2, [], 11, 0, []), (61, .if_icmp .ge (17), 3, [78], 0, 0, []), (64, .aload_n 0, 1, [], 0, 0, []), (65, .getfield 38, 3, [8, 20, 961], 0, 0, []), (68, .iload 7, 2, [], 0, 0, []), (70, .lconst 0, 1, [], 0, 0, []), (71, .lastore, 1, [], 0, 0, []), (72, .iinc 7 (1), 3, [], 1, 0, []), (75, .goto (-18), 3, [57], 0, 0, []), (78, .iload_n 3, 1, [], 0, 0, []), (79, .istore 7, 2, [], 0, 0, []), (81, .iload 7, 2, [], 0, 0, [2, 8, 9, 10]), (83, .iload 4, 2, [], 0, 0, []), (85, .if_icmp .ge (108), 3, [193], 0, 0, []), (88, .iload 7, 2, [], 0, 0, []), (90, .iconst (1), 1, [], 1, 0, []), (91, .iadd, 1, [], 0, 0, []), (92, .istore 8, 2, [], 0, 0, []), (94, .iload 8, 2, [], 0, 0, [2, 9, 10]), (96, .iload 4, 2, [], 0, 0, []), (98, .if_icmp .gt (89), 3, [187], 0, 0, []), (101, .iload 6, 2, [], 0, 0, []), (103, .invokestatic 64, 3, [15, 1, 1, 1059, 1060, 99, 1061], 0, 0, []), (106, .ifCond .eq (27), 3, [133], 0, 0, []), (109, .aload_n 0, 1, [], 0, 0, []), (110, .getfield 32, 3, [8, 18, 959], 0, 0, []), (113, .bipush (121), 2, [], 121, 0, []), (115, .iload 6, 2, [], 0, 0, []), (117, .iconst (1), 1, [], 1, 0, []), (118, .isub, 1, [], 0, 0, []), (119, .imul, 1, [], 0, 0, []), (120, .bipush (11), 2, [], 11, 0, []), (122, .iload 7, 2, [], 0, 0, []), (124, .imul, 1, [], 0, 0, []), (125, .iadd, 1, [], 0, 0, []), (126, .iload 8, 2, [], 0, 0, []), (128, .iadd, 1, [], 0, 0, []), (129, .laload, 1, [], 0, 0, []), (130, .goto (29), 3, [159], 0, 0, []), (133, .iload 8, 2, [], 0, 0, []), (135, .iload 7, 2, [], 0, 0, []), (137, .iconst (1), 1, [], 1, 0, []), (138, .iadd, 1, [], 0, 0, []), (139, .if_icmp .ne (19), 3, [158], 0, 0, []), (142, .aload_n 0, 1, [], 0, 0, []), (143, .getfield 26, 3, [8, 15, 956], 0, 0, []), (146, .iload 7, 2, [], 0, 0, []), (148, .iaload, 1, [], 0, 0, []), (149, .iload 6, 2, [], 0, 0, []), (151, .if_icmp .ne (7), 3, [158], 0, 0, []), (154, .lconst 1, 1, [], 0, 1, []), (155, .goto (4), 3, [159], 0, 0, []), (158, .lconst 0, 1, [], 0, 0, []), (159, .lstore 9, 2, [], 0, 0, []), (161, .aload_n 0, 1, [], 0, 0, []), (162, .getfield 38, 3, [8, 20, 961], 0, 0, []), (165, .iload 8, 2, [], 0, 0, []), (167, .dup2, 1, [], 0, 0, []), (168, .laload, 1, [], 0, 0, []), (169, .aload_n 0, 1, [], 0, 0, []), (170, .getfield 35, 3, [8, 19, 960], 0, 0, []), (173, .iload 7, 2, [], 0, 0, []), (175, .laload, 1, [], 0, 0, []), (176, .lload 9, 2, [], 0, 0, []), (178, .lmul, 1, [], 0, 0, []), (179, .ladd, 1, [], 0, 0, []), (180, .lastore, 1, [], 0, 0, []), (181, .iinc 8 (1), 3, [], 1, 0, []), (184, .goto (-90), 3, [94], 0, 0, []), (187, .iinc 7 (1), 3, [], 1, 0, []), (190, .goto (-109), 3, [81], 0, 0, []), (193, .iconst (0), 1, [], 0, 0, []), (194, .istore 7, 2, [], 0, 0, []), (196, .iload 7, 2, [], 0, 0, [2, 6, 8, 9, 10]), (198, .bipush (11), 2, [], 11, 0, []), (200, .if_icmp .ge (23), 3, [223], 0, 0, []), (203, .aload_n 0, 1, [], 0, 0, []), (204, .getfield 35, 3, [8, 19, 960], 0, 0, []), (207, .iload 7, 2, [], 0, 0, []), (209, .aload_n 0, 1, [], 0, 0, []), (210, .getfield 38, 3, [8, 20, 961], 0, 0, []), (213, .iload 7, 2, [], 0, 0, []), (215, .laload, 1, [], 0, 0, []), (216, .lastore, 1, [], 0, 0, []), (217, .iinc 7 (1), 3, [], 1, 0, []), (220, .goto (-24), 3, [196], 0, 0, []), (223, .iinc 5 (1), 3, [], 1, 0, []), (226, .goto (-189), 3, [37], 0, 0, []), (229, .aload_n 0, 1, [], 0, 0, []), (230, .getfield 35, 3, [8, 19, 960], 0, 0, []), (233, .iload 4, 2, [], 0, 0, []), (235, .laload, 1, [], 0, 0, []), (236, .lreturn, 1, [], 0, 0, [])]
def wX9_countStretch : List si_row := [(0, .iconst (0), 1, [], 0, 0, []), (1, .istore_n 3, 1, [], 0, 0, []), (2, .iload_n 3, 1, [], 0, 0, [4, 5, 6, 7]), (3, .bipush (16), 2, [], 16, 0, []), (5, .if_icmp .ge (102), 3, [107], 0, 0, []), (8, .iconst (0), 1, [], 0, 0, []), (9, .istore 4, 2, [], 0, 0, []), (11, .iload 4, 2, [], 0, 0, [5, 6, 7]), (13, .bipush (16), 2, [], 16, 0, []), (15, .if_icmp .ge (86), 3, [101], 0, 0, []), (18, .lconst 0, 1, [], 0, 0, []), (19, .lstore 5, 2, [], 0, 0, []), (21, .iconst (0), 1, [], 0, 0, []), (22, .istore 7, 2, [], 0, 0, []), (24, .iload 7, 2, [], 0, 0, [6]), (26, .aload_n 0, 1, [], 0, 0, []), (27, .getfield 107, 3, [8, 1, 942], 0, 0, []), (30, .if_icmp .ge (46), 3, [76], 0, 0, []), (33, .lload 5, 2, [], 0, 0, []), (35, .aload_n 0, 1, [], 0, 0, []), (36, .getfield 7, 3, [8, 0, 941], 0, 0, []), (39, .iload 7, 2, [], 0, 0, []), (41, .laload, 1, [], 0, 0, []), (42, .invokestatic 90, 3, [17, 1, 1, 1066, 1067, 99, 1068], 0, 0, []), (45, .iload 4, 2, [], 0, 0, []), (47, .if_icmp .ne (19), 3, [66], 0, 0, []), (50, .aload_n 0, 1, [], 0, 0, []), (51, .aload_n 0, 1, [], 0, 0, []), (52, .getfield 7, 3, [8, 0, 941], 0, 0, []), (55, .iload 7, 2, [], 0, 0, []), (57, .laload, 1, [], 0, 0, []), (58, .iload_n 1, 1, [], 0, 0, []), (59, .iload_n 2, 1, [], 0, 0, []), (60, .invokevirtual 135, 3, [81, 3, 2, 8, 1136, 1138, 99, 1139, 55], 0, 0, []), (63, .goto (4), 3, [67], 0, 0, []), (66, .lconst 0, 1, [], 0, 0, []), (67, .ladd, 1, [], 0, 0, []), (68, .lstore 5, 2, [], 0, 0, []), (70, .iinc 7 (1), 3, [], 1, 0, []), (73, .goto (-49), 3, [24], 0, 0, []), (76, .aload_n 0, 1, [], 0, 0, []), (77, .getfield 32, 3, [8, 18, 959], 0, 0, []), (80, .bipush (121), 2, [], 121, 0, []), (82, .iload 4, 2, [], 0, 0, []), (84, .imul, 1, [], 0, 0, []), (85, .bipush (11), 2, [], 11, 0, []), (87, .iload_n 1, 1, [], 0, 0, []), (88, .imul, 1, [], 0, 0, []), (89, .iadd, 1, [], 0, 0, []), (90, .iload_n 2, 1, [], 0, 0, []), (91, .iadd, 1, [], 0, 0, []), (92, .lload 5, 2, [], 0, 0, []), (94, .lastore, 1, [], 0, 0, []), (95, .iinc 4 (1), 3, [], 1, 0, []), (98, .goto (-87), 3, [11], 0, 0, []), (101, .iinc 3 (1), 3, [], 1, 0, []), (104, .goto (-102), 3, [2], 0, 0, []), (107, .return_, 1, [], 0, 0, [])]
def wX9_countTrees : List si_row := [(0, .aload_n 0, 1, [], 0, 0, []), (1, .invokevirtual 124, 3, [48, 0, 1, 8, 1077, 1079, 99, 1080, 44], 0, 0, []), (4, .ifCond .ne (7), 3, [11], 0, 0, []), (7, .ldc2_w 146, 3, [1100], 0, -4, []), (10, .lreturn, 1, [], 0, 0, []), (11, .aload_n 0, 1, [], 0, 0, []), (12, .invokevirtual 148, 3, [74, 0, 1, 8, 1101, 1103, 99, 1104, 48], 0, 0, []), (15, .ifCond .ne (10), 3, [25], 0, 0, []), (18, .aload_n 0, 1, [], 0, 0, []), (19, .invokevirtual 151, 3, [80, 0, 1, 8, 1108, 1110, 99, 1111, 49], 0, 0, []), (22, .ifCond .eq (7), 3, [29], 0, 0, []), (25, .ldc2_w 154, 3, [1131], 0, -8, []), (28, .lreturn, 1, [], 0, 0, []), (29, .aload_n 0, 1, [], 0, 0, []), (30, .invokevirtual 128, 3, [49, 0, 0, 8, 1081, 1083, 99, 1084, 45], 0, 0, []), (33, .iconst (0), 1, [], 0, 0, []), (34, .istore_n 1, 1, [], 0, 0, []), (35, .iload_n 1, 1, [], 0, 0, [2]), (36, .sipush (1936), 3, [], 1936, 0, []), (39, .if_icmp .ge (16), 3, [55], 0, 0, []), (42, .aload_n 0, 1, [], 0, 0, []), (43, .getfield 32, 3, [8, 18, 959], 0, 0, []), (46, .iload_n 1, 1, [], 0, 0, []), (47, .lconst 0, 1, [], 0, 0, []), (48, .lastore, 1, [], 0, 0, []), (49, .iinc 1 (1), 3, [], 1, 0, []), (52, .goto (-17), 3, [35], 0, 0, []), (55, .iconst (1), 1, [], 1, 0, []), (56, .istore_n 1, 1, [], 0, 0, []), (57, .iload_n 1, 1, [], 0, 0, [2]), (58, .aload_n 0, 1, [], 0, 0, []), (59, .getfield 117, 3, [8, 16, 957], 0, 0, []), (62, .if_icmp .gt (35), 3, [97], 0, 0, []), (65, .iconst (0), 1, [], 0, 0, []), (66, .istore_n 2, 1, [], 0, 0, []), (67, .iload_n 2, 1, [], 0, 0, []), (68, .iload_n 1, 1, [], 0, 0, []), (69, .iadd, 1, [], 0, 0, []), (70, .aload_n 0, 1, [], 0, 0, []), (71, .getfield 117, 3, [8, 16, 957], 0, 0, []), (74, .if_icmp .gt (17), 3, [91], 0, 0, []), (77, .aload_n 0, 1, [], 0, 0, []), (78, .iload_n 2, 1, [], 0, 0, []), (79, .iload_n 2, 1, [], 0, 0, []), (80, .iload_n 1, 1, [], 0, 0, []), (81, .iadd, 1, [], 0, 0, []), (82, .invokevirtual 156, 3, [82, 2, 0, 8, 1132, 1134, 99, 1135, 54], 0, 0, []), (85, .iinc 2 (1), 3, [], 1, 0, []), (88, .goto (-21), 3, [67], 0, 0, []), (91, .iinc 1 (1), 3, [], 1, 0, []), (94, .goto (-37), 3, [57], 0, 0, []), (97, .aload_n 0, 1, [], 0, 0, []), (98, .getfield 32, 3, [8, 18, 959], 0, 0, []), (101, .aload_n 0, 1, [], 0, 0, []), (102, .getfield 117, 3, [8, 16, 957], 0, 0, []), (105, .laload, 1, [], 0, 0, []), (106, .lreturn, 1, [], 0, 0, [])]
def wX8_productionCount : List si_row := [(0, .aload_n 0, 1, [], 0, 0, []), (1, .getfield 19, 3, [7, 1, 243], 0, 0, []), (4, .invokevirtual 87, 3, [30, 0, 1, 2, 349, 350, 93, 352, 351], 0, 0, []), (7, .ireturn, 1, [], 0, 0, [])]
def wX9_productionCount : List si_row := [(0, .aload_n 0, 1, [], 0, 0, []), (1, .getfield 107, 3, [8, 1, 942], 0, 0, []), (4, .ireturn, 1, [], 0, 0, [])]
def wX8_codeOf : List si_row := [(0, .iload_n 0, 1, [], 0, 0, []), (1, .invokestatic 155, 3, [9, 1, 1, 515, 305, 91, 306], 0, 0, []), (4, .ifCond .eq (10), 3, [14], 0, 0, []), (7, .bipush (65), 2, [], 65, 0, []), (9, .iload_n 0, 1, [], 0, 0, []), (10, .iadd, 1, [], 0, 0, []), (11, .goto (10), 3, [21], 0, 0, []), (14, .bipush (97), 2, [], 97, 0, []), (16, .iload_n 0, 1, [], 0, 0, []), (17, .iadd, 1, [], 0, 0, []), (18, .bipush (16), 2, [], 16, 0, []), (20, .isub, 1, [], 0, 0, []), (21, .ireturn, 1, [], 0, 0, [])]
def wX8_symbol : List si_row := [(0, .iload_n 1, 1, [], 0, 0, []), (1, .ifCond .lt (14), 3, [15], 0, 0, []), (4, .iload_n 1, 1, [], 0, 0, []), (5, .aload_n 0, 1, [], 0, 0, []), (6, .getfield 19, 3, [7, 1, 243], 0, 0, []), (9, .invokevirtual 87, 3, [30, 0, 1, 2, 349, 350, 93, 352, 351], 0, 0, []), (12, .if_icmp .lt (6), 3, [18], 0, 0, []), (15, .bipush (-5), 2, [], -5, 0, []), (17, .ireturn, 1, [], 0, 0, []), (18, .aload_n 0, 1, [], 0, 0, []), (19, .getfield 19, 3, [7, 1, 243], 0, 0, []), (22, .iload_n 1, 1, [], 0, 0, []), (23, .invokevirtual 116, 3, [38, 1, 2, 2, 508, 386, 93, 388, 387], 0, 0, []), (26, .lstore_n 3, 1, [], 0, 0, []), (27, .iload_n 2, 1, [], 0, 0, []), (28, .ifCond .lt (11), 3, [39], 0, 0, []), (31, .iload_n 2, 1, [], 0, 0, []), (32, .lload_n 3, 1, [], 0, 0, []), (33, .invokestatic 120, 3, [27, 1, 1, 509, 346, 100, 347], 0, 0, []), (36, .if_icmp .le (5), 3, [41], 0, 0, []), (39, .iconst (-1), 1, [], -1, 0, []), (40, .ireturn, 1, [], 0, 0, []), (41, .iload_n 2, 1, [], 0, 0, []), (42, .ifCond .ne (10), 3, [52], 0, 0, []), (45, .lload_n 3, 1, [], 0, 0, []), (46, .invokestatic 125, 3, [39, 1, 1, 510, 394, 100, 395], 0, 0, []), (49, .goto (10), 3, [59], 0, 0, []), (52, .lload_n 3, 1, [], 0, 0, []), (53, .iload_n 2, 1, [], 0, 0, []), (54, .iconst (1), 1, [], 1, 0, []), (55, .isub, 1, [], 0, 0, []), (56, .invokestatic 128, 3, [40, 2, 1, 511, 402, 100, 403], 0, 0, []), (59, .invokestatic 132, 3, [86, 1, 1, 512, 513, 91, 514], 0, 0, []), (62, .ireturn, 1, [], 0, 0, [])]
def wX9_size : List si_row := [(0, .iconst (0), 1, [], 0, 0, []), (1, .istore_n 2, 1, [], 0, 0, []), (2, .lload_n 0, 1, [], 0, 0, [1]), (3, .iload_n 2, 1, [], 0, 0, []), (4, .invokestatic 56, 3, [50, 2, 1, 1089, 1090, 99, 1091], 0, 0, []), (7, .ifCond .le (9), 3, [16], 0, 0, []), (10, .iinc 2 (1), 3, [], 1, 0, []), (13, .goto (-11), 3, [2], 0, 0, []), (16, .iload_n 2, 1, [], 0, 0, []), (17, .ireturn, 1, [], 0, 0, [])]
def wX9_codeOf : List si_row := [(0, .iload_n 0, 1, [], 0, 0, []), (1, .invokestatic 64, 3, [15, 1, 1, 1059, 1060, 99, 1061], 0, 0, []), (4, .ifCond .eq (12), 3, [16], 0, 0, []), (7, .bipush (65), 2, [], 65, 0, []), (9, .iload_n 0, 1, [], 0, 0, []), (10, .iadd, 1, [], 0, 0, []), (11, .iconst (1), 1, [], 1, 0, []), (12, .isub, 1, [], 0, 0, []), (13, .goto (10), 3, [23], 0, 0, []), (16, .bipush (97), 2, [], 97, 0, []), (18, .iload_n 0, 1, [], 0, 0, []), (19, .iadd, 1, [], 0, 0, []), (20, .bipush (17), 2, [], 17, 0, []), (22, .isub, 1, [], 0, 0, []), (23, .ireturn, 1, [], 0, 0, [])]
def wX9_symbol : List si_row := [(0, .iload_n 1, 1, [], 0, 0, []), (1, .iconst (0), 1, [], 0, 0, []), (2, .aload_n 0, 1, [], 0, 0, []), (3, .getfield 107, 3, [8, 1, 942], 0, 0, []), (6, .iconst (1), 1, [], 1, 0, []), (7, .isub, 1, [], 0, 0, []), (8, .invokestatic 60, 3, [3, 3, 1, 1033, 1034, 99, 1035], 0, 0, []), (11, .ifCond .ne (6), 3, [17], 0, 0, []), (14, .bipush (-5), 2, [], -5, 0, []), (16, .ireturn, 1, [], 0, 0, []), (17, .iload_n 2, 1, [], 0, 0, []), (18, .iconst (0), 1, [], 0, 0, []), (19, .aload_n 0, 1, [], 0, 0, []), (20, .getfield 7, 3, [8, 0, 941], 0, 0, []), (23, .iload_n 1, 1, [], 0, 0, []), (24, .laload, 1, [], 0, 0, []), (25, .invokestatic 160, 3, [88, 1, 1, 1148, 1149, 99, 1150], 0, 0, []), (28, .invokestatic 60, 3, [3, 3, 1, 1033, 1034, 99, 1035], 0, 0, []), (31, .ifCond .ne (5), 3, [36], 0, 0, []), (34, .iconst (-1), 1, [], -1, 0, []), (35, .ireturn, 1, [], 0, 0, []), (36, .iload_n 2, 1, [], 0, 0, []), (37, .ifCond .ne (18), 3, [55], 0, 0, []), (40, .bipush (65), 2, [], 65, 0, []), (42, .aload_n 0, 1, [], 0, 0, []), (43, .getfield 7, 3, [8, 0, 941], 0, 0, []), (46, .iload_n 1, 1, [], 0, 0, []), (47, .laload, 1, [], 0, 0, []), (48, .invokestatic 90, 3, [17, 1, 1, 1066, 1067, 99, 1068], 0, 0, []), (51, .iadd, 1, [], 0, 0, []), (52, .goto (18), 3, [70], 0, 0, []), (55, .aload_n 0, 1, [], 0, 0, []), (56, .getfield 7, 3, [8, 0, 941], 0, 0, []), (59, .iload_n 1, 1, [], 0, 0, []), (60, .laload, 1, [], 0, 0, []), (61, .iload_n 2, 1, [], 0, 0, []), (62, .iconst (1), 1, [], 1, 0, []), (63, .isub, 1, [], 0, 0, []), (64, .invokestatic 56, 3, [50, 2, 1, 1089, 1090, 99, 1091], 0, 0, []), (67, .invokestatic 163, 3, [89, 1, 1, 1151, 1152, 99, 1153], 0, 0, []), (70, .ireturn, 1, [], 0, 0, [])]
def wX5_staysIn : List si_row := [(0, .lload_n 0, 1, [], 0, 0, []), (1, .invokestatic 13, 3, [27, 1, 1, 345, 346, 100, 347], 0, 0, []), (4, .istore 4, 2, [], 0, 0, []), (6, .iload_n 2, 1, [], 0, 0, []), (7, .istore 5, 2, [], 0, 0, []), (9, .iload 5, 2, [], 0, 0, [1, 2]), (11, .iload 4, 2, [], 0, 0, []), (13, .if_icmp .ge (24), 3, [37], 0, 0, []), (16, .iload_n 3, 1, [], 0, 0, []), (17, .lload_n 0, 1, [], 0, 0, []), (18, .iload 5, 2, [], 0, 0, []), (20, .invokestatic 28, 3, [40, 2, 1, 440, 402, 100, 403], 0, 0, []), (23, .invokestatic 40, 3, [57, 2, 1, 531, 451, 91, 452], 0, 0, []), (26, .ifCond .ne (5), 3, [31], 0, 0, []), (29, .iconst (0), 1, [], 0, 0, []), (30, .ireturn, 1, [], 0, 0, []), (31, .iinc 5 (1), 3, [], 1, 0, []), (34, .goto (-25), 3, [9], 0, 0, []), (37, .iconst (1), 1, [], 1, 0, []), (38, .ireturn, 1, [], 0, 0, [])]
def wX2_derivable : List si_row := [(0, .iconst (0), 1, [], 0, 0, []), (1, .istore_n 2, 1, [], 0, 0, []), (2, .iconst (1), 1, [], 1, 0, []), (3, .istore_n 3, 1, [], 0, 0, []), (4, .iconst (0), 1, [], 0, 0, []), (5, .istore 4, 2, [], 0, 0, []), (7, .iload_n 3, 1, [], 0, 0, [5, 6]), (8, .ifCond .eq (81), 3, [89], 0, 0, []), (11, .iload 4, 2, [], 0, 0, []), (13, .bipush (16), 2, [], 16, 0, []), (15, .if_icmp .gt (74), 3, [89], 0, 0, []), (18, .iload_n 2, 1, [], 0, 0, []), (19, .istore 5, 2, [], 0, 0, []), (21, .iconst (0), 1, [], 0, 0, []), (22, .istore 6, 2, [], 0, 0, []), (24, .iload 6, 2, [], 0, 0, [3]), (26, .aload_n 0, 1, [], 0, 0, []), (27, .getfield 15, 3, [2, 1, 135], 0, 0, []), (30, .if_icmp .ge (41), 3, [71], 0, 0, []), (33, .aload_n 0, 1, [], 0, 0, []), (34, .getfield 11, 3, [2, 0, 134], 0, 0, []), (37, .iload 6, 2, [], 0, 0, []), (39, .laload, 1, [], 0, 0, []), (40, .iconst (0), 1, [], 0, 0, []), (41, .iload_n 2, 1, [], 0, 0, []), (42, .iload_n 1, 1, [], 0, 0, []), (43, .ior, 1, [], 0, 0, []), (44, .invokestatic 63, 3, [91, 3, 1, 528, 529, 100, 530], 0, 0, []), (47, .ifCond .eq (18), 3, [65], 0, 0, []), (50, .iload_n 2, 1, [], 0, 0, []), (51, .iconst (1), 1, [], 1, 0, []), (52, .aload_n 0, 1, [], 0, 0, []), (53, .getfield 11, 3, [2, 0, 134], 0, 0, []), (56, .iload 6, 2, [], 0, 0, []), (58, .laload, 1, [], 0, 0, []), (59, .invokestatic 37, 3, [39, 1, 1, 532, 394, 100, 395], 0, 0, []), (62, .ishl, 1, [], 0, 0, []), (63, .ior, 1, [], 0, 0, []), (64, .istore_n 2, 1, [], 0, 0, []), (65, .iinc 6 (1), 3, [], 1, 0, []), (68, .goto (-44), 3, [24], 0, 0, []), (71, .iload_n 2, 1, [], 0, 0, []), (72, .iload 5, 2, [], 0, 0, []), (74, .if_icmp .eq (7), 3, [81], 0, 0, []), (77, .iconst (1), 1, [], 1, 0, []), (78, .goto (4), 3, [82], 0, 0, []), (81, .iconst (0), 1, [], 0, 0, []), (82, .istore_n 3, 1, [], 0, 0, []), (83, .iinc 4 (1), 3, [], 1, 0, []), (86, .goto (-79), 3, [7], 0, 0, []), (89, .iload_n 2, 1, [], 0, 0, []), (90, .ireturn, 1, [], 0, 0, [])]
def wX2_nullable : List si_row := [(0, .aload_n 0, 1, [], 0, 0, []), (1, .iconst (0), 1, [], 0, 0, []), (2, .invokevirtual 58, 3, [92, 1, 1, 2, 524, 526, 93, 527, 14], 0, 0, []), (5, .ireturn, 1, [], 0, 0, [])]
def wX8_nullableSet : List si_row := [(0, .aload_n 0, 1, [], 0, 0, []), (1, .getfield 19, 3, [7, 1, 243], 0, 0, []), (4, .invokevirtual 136, 3, [93, 0, 1, 2, 520, 521, 93, 523, 522], 0, 0, []), (7, .ireturn, 1, [], 0, 0, [])]
def wX9_allIn : List si_row := [(0, .iconst (1), 1, [], 1, 0, []), (1, .istore 5, 2, [], 0, 0, []), (3, .iload_n 2, 1, [], 0, 0, []), (4, .istore 6, 2, [], 0, 0, []), (6, .iload 6, 2, [], 0, 0, [1, 2, 7]), (8, .bipush (8), 2, [], 8, 0, []), (10, .if_icmp .ge (66), 3, [76], 0, 0, []), (13, .lload_n 0, 1, [], 0, 0, []), (14, .iload 6, 2, [], 0, 0, []), (16, .invokestatic 56, 3, [50, 2, 1, 1089, 1090, 99, 1091], 0, 0, []), (19, .ifCond .le (57), 3, [76], 0, 0, []), (22, .lload_n 0, 1, [], 0, 0, []), (23, .iload 6, 2, [], 0, 0, []), (25, .invokestatic 56, 3, [50, 2, 1, 1089, 1090, 99, 1091], 0, 0, []), (28, .istore 7, 2, [], 0, 0, []), (30, .iload 5, 2, [], 0, 0, []), (32, .ifCond .eq (35), 3, [67], 0, 0, []), (35, .iload 7, 2, [], 0, 0, []), (37, .invokestatic 64, 3, [15, 1, 1, 1059, 1060, 99, 1061], 0, 0, []), (40, .ifCond .eq (18), 3, [58], 0, 0, []), (43, .iload_n 3, 1, [], 0, 0, []), (44, .iload 7, 2, [], 0, 0, []), (46, .iconst (1), 1, [], 1, 0, []), (47, .isub, 1, [], 0, 0, []), (48, .ishr, 1, [], 0, 0, []), (49, .iconst (1), 1, [], 1, 0, []), (50, .iand, 1, [], 0, 0, []), (51, .iconst (1), 1, [], 1, 0, []), (52, .if_icmp .ne (15), 3, [67], 0, 0, []), (55, .goto (8), 3, [63], 0, 0, []), (58, .iload 4, 2, [], 0, 0, []), (60, .ifCond .eq (7), 3, [67], 0, 0, []), (63, .iconst (1), 1, [], 1, 0, []), (64, .goto (4), 3, [68], 0, 0, []), (67, .iconst (0), 1, [], 0, 0, []), (68, .istore 5, 2, [], 0, 0, []), (70, .iinc 6 (1), 3, [], 1, 0, []), (73, .goto (-67), 3, [6], 0, 0, []), (76, .iload 5, 2, [], 0, 0, []), (78, .ireturn, 1, [], 0, 0, [])]
def wX9_closedUnder : List si_row := [(0, .iconst (0), 1, [], 0, 0, []), (1, .istore_n 2, 1, [], 0, 0, []), (2, .iconst (0), 1, [], 0, 0, []), (3, .istore_n 3, 1, [], 0, 0, []), (4, .iload_n 3, 1, [], 0, 0, [4]), (5, .bipush (16), 2, [], 16, 0, []), (7, .if_icmp .gt (62), 3, [69], 0, 0, []), (10, .iconst (0), 1, [], 0, 0, []), (11, .istore 4, 2, [], 0, 0, []), (13, .iload 4, 2, [], 0, 0, []), (15, .aload_n 0, 1, [], 0, 0, []), (16, .getfield 107, 3, [8, 1, 942], 0, 0, []), (19, .if_icmp .ge (44), 3, [63], 0, 0, []), (22, .iload_n 2, 1, [], 0, 0, []), (23, .aload_n 0, 1, [], 0, 0, []), (24, .getfield 7, 3, [8, 0, 941], 0, 0, []), (27, .iload 4, 2, [], 0, 0, []), (29, .laload, 1, [], 0, 0, []), (30, .iconst (0), 1, [], 0, 0, []), (31, .iload_n 2, 1, [], 0, 0, []), (32, .iload_n 1, 1, [], 0, 0, []), (33, .invokestatic 166, 3, [95, 4, 1, 1166, 1167, 99, 1168], 0, 0, []), (36, .ifCond .eq (18), 3, [54], 0, 0, []), (39, .iconst (1), 1, [], 1, 0, []), (40, .aload_n 0, 1, [], 0, 0, []), (41, .getfield 7, 3, [8, 0, 941], 0, 0, []), (44, .iload 4, 2, [], 0, 0, []), (46, .laload, 1, [], 0, 0, []), (47, .invokestatic 90, 3, [17, 1, 1, 1066, 1067, 99, 1068], 0, 0, []), (50, .ishl, 1, [], 0, 0, []), (51, .goto (4), 3, [55], 0, 0, []), (54, .iconst (0), 1, [], 0, 0, []), (55, .ior, 1, [], 0, 0, []), (56, .istore_n 2, 1, [], 0, 0, []), (57, .iinc 4 (1), 3, [], 1, 0, []), (60, .goto (-47), 3, [13], 0, 0, []), (63, .iinc 3 (1), 3, [], 1, 0, []), (66, .goto (-62), 3, [4], 0, 0, []), (69, .iload_n 2, 1, [], 0, 0, []), (70, .ireturn, 1, [], 0, 0, [])]
def wX9_nullables : List si_row := [(0, .aload_n 0, 1, [], 0, 0, []), (1, .iconst (0), 1, [], 0, 0, []), (2, .invokevirtual 170, 3, [96, 1, 1, 8, 1162, 1164, 99, 1165, 57], 0, 0, []), (5, .ireturn, 1, [], 0, 0, [])]
def wX9_nullableSet : List si_row := [(0, .aload_n 0, 1, [], 0, 0, []), (1, .invokevirtual 174, 3, [97, 0, 1, 8, 1158, 1160, 99, 1161, 56], 0, 0, []), (4, .ireturn, 1, [], 0, 0, [])]
def wX2_productive : List si_row := [(0, .aload_n 0, 1, [], 0, 0, []), (1, .ldc 62, 2, [541], 16711680, 0, []), (3, .invokevirtual 58, 3, [92, 1, 1, 2, 524, 526, 93, 527, 14], 0, 0, []), (6, .ireturn, 1, [], 0, 0, [])]
def wX8_productiveSet : List si_row := [(0, .aload_n 0, 1, [], 0, 0, []), (1, .getfield 19, 3, [7, 1, 243], 0, 0, []), (4, .invokevirtual 139, 3, [99, 0, 1, 2, 537, 538, 93, 540, 539], 0, 0, []), (7, .ireturn, 1, [], 0, 0, [])]
def wX9_productives : List si_row := [(0, .aload_n 0, 1, [], 0, 0, []), (1, .iconst (1), 1, [], 1, 0, []), (2, .invokevirtual 170, 3, [96, 1, 1, 8, 1162, 1164, 99, 1165, 57], 0, 0, []), (5, .ireturn, 1, [], 0, 0, [])]
def wX9_productiveSet : List si_row := [(0, .aload_n 0, 1, [], 0, 0, []), (1, .invokevirtual 177, 3, [101, 0, 1, 8, 1173, 1175, 99, 1176, 58], 0, 0, []), (4, .ireturn, 1, [], 0, 0, [])]
def wX1_followOccurrences : List si_row := [(0, .aload_n 0, 1, [], 0, 0, []), (1, .getfield 9, 3, [1, 0, 151], 0, 0, []), (4, .iconst (0), 1, [], 0, 0, []), (5, .invokestatic 15, 3, [37, 2, 0, 434, 382, 103, 383], 0, 0, []), (8, .iconst (0), 1, [], 0, 0, []), (9, .istore_n 2, 1, [], 0, 0, []), (10, .iload_n 2, 1, [], 0, 0, [3, 4]), (11, .aload_n 1, 1, [], 0, 0, []), (12, .invokevirtual 21, 3, [30, 0, 1, 2, 435, 350, 93, 352, 351], 0, 0, []), (15, .if_icmp .ge (34), 3, [49], 0, 0, []), (18, .aload_n 1, 1, [], 0, 0, []), (19, .iload_n 2, 1, [], 0, 0, []), (20, .invokevirtual 27, 3, [38, 1, 2, 2, 436, 386, 93, 388, 387], 0, 0, []), (23, .lstore_n 3, 1, [], 0, 0, []), (24, .aload_n 0, 1, [], 0, 0, []), (25, .getfield 9, 3, [1, 0, 151], 0, 0, []), (28, .lload_n 3, 1, [], 0, 0, []), (29, .invokestatic 31, 3, [39, 1, 1, 442, 394, 100, 395], 0, 0, []), (32, .dup2, 1, [], 0, 0, []), (33, .iaload, 1, [], 0, 0, []), (34, .lload_n 3, 1, [], 0, 0, []), (35, .invokestatic 37, 3, [56, 1, 1, 443, 444, 100, 445], 0, 0, []), (38, .ldc 40, 2, [550], 65535, 0, []), (40, .iand, 1, [], 0, 0, []), (41, .ior, 1, [], 0, 0, []), (42, .iastore, 1, [], 0, 0, []), (43, .iinc 2 (1), 3, [], 1, 0, []), (46, .goto (-36), 3, [10], 0, 0, []), (49, .aload_n 0, 1, [], 0, 0, []), (50, .invokevirtual 41, 3, [58, 0, 0, 1, 446, 448, 94, 449, 6], 0, 0, []), (53, .return_, 1, [], 0, 0, [])]
def wX1_reachFrom : List si_row := [(0, .iload_n 1, 1, [], 0, 0, []), (1, .invokestatic 55, 3, [9, 1, 1, 555, 305, 91, 306], 0, 0, []), (4, .ifCond .eq (16), 3, [20], 0, 0, []), (7, .aload_n 0, 1, [], 0, 0, []), (8, .getfield 9, 3, [1, 0, 151], 0, 0, []), (11, .iload_n 1, 1, [], 0, 0, []), (12, .iaload, 1, [], 0, 0, []), (13, .iconst (1), 1, [], 1, 0, []), (14, .iload_n 1, 1, [], 0, 0, []), (15, .ishl, 1, [], 0, 0, []), (16, .ior, 1, [], 0, 0, []), (17, .goto (4), 3, [21], 0, 0, []), (20, .iconst (0), 1, [], 0, 0, []), (21, .ireturn, 1, [], 0, 0, [])]
def wX8_reachableSet : List si_row := [(0, .aload_n 0, 1, [], 0, 0, []), (1, .getfield 33, 3, [7, 4, 246], 0, 0, []), (4, .aload_n 0, 1, [], 0, 0, []), (5, .getfield 19, 3, [7, 1, 243], 0, 0, []), (8, .invokevirtual 142, 3, [103, 1, 0, 1, 546, 547, 94, 549, 548], 0, 0, []), (11, .aload_n 0, 1, [], 0, 0, []), (12, .getfield 33, 3, [7, 4, 246], 0, 0, []), (15, .iconst (0), 1, [], 0, 0, []), (16, .invokevirtual 145, 3, [104, 1, 1, 1, 551, 552, 94, 554, 553], 0, 0, []), (19, .ireturn, 1, [], 0, 0, [])]
def wX9_reached : List si_row := [(0, .iconst (1), 1, [], 1, 0, []), (1, .istore_n 2, 1, [], 0, 0, []), (2, .iconst (0), 1, [], 0, 0, []), (3, .istore_n 3, 1, [], 0, 0, []), (4, .iload_n 3, 1, [], 0, 0, [4, 5, 6]), (5, .bipush (16), 2, [], 16, 0, []), (7, .if_icmp .gt (107), 3, [114], 0, 0, []), (10, .iconst (0), 1, [], 0, 0, []), (11, .istore 4, 2, [], 0, 0, []), (13, .iload 4, 2, [], 0, 0, [5, 6]), (15, .iload_n 1, 1, [], 0, 0, []), (16, .if_icmp .ge (92), 3, [108], 0, 0, []), (19, .iconst (0), 1, [], 0, 0, []), (20, .istore 5, 2, [], 0, 0, []), (22, .aload_n 0, 1, [], 0, 0, [6]), (23, .iload 4, 2, [], 0, 0, []), (25, .laload, 1, [], 0, 0, []), (26, .iload 5, 2, [], 0, 0, []), (28, .invokestatic 56, 3, [50, 2, 1, 1089, 1090, 99, 1091], 0, 0, []), (31, .ifCond .le (71), 3, [102], 0, 0, []), (34, .iload_n 2, 1, [], 0, 0, []), (35, .aload_n 0, 1, [], 0, 0, []), (36, .iload 4, 2, [], 0, 0, []), (38, .laload, 1, [], 0, 0, []), (39, .invokestatic 90, 3, [17, 1, 1, 1066, 1067, 99, 1068], 0, 0, []), (42, .ishr, 1, [], 0, 0, []), (43, .iconst (1), 1, [], 1, 0, []), (44, .iand, 1, [], 0, 0, []), (45, .iconst (1), 1, [], 1, 0, []), (46, .if_icmp .ne (22), 3, [68], 0, 0, []), (49, .aload_n 0, 1, [], 0, 0, []), (50, .iload 4, 2, [], 0, 0, []), (52, .laload, 1, [], 0, 0, []), (53, .iload 5, 2, [], 0, 0, []), (55, .invokestatic 56, 3, [50, 2, 1, 1089, 1090, 99, 1091], 0, 0, []), (58, .invokestatic 64, 3, [15, 1, 1, 1059, 1060, 99, 1061], 0, 0, []), (61, .ifCond .eq (7), 3, [68], 0, 0, []), (64, .iconst (1), 1, [], 1, 0, []), (65, .goto (4), 3, [69], 0, 0, []), (68, .iconst (0), 1, [], 0, 0, []), (69, .istore 6, 2, [], 0, 0, []), (71, .iload_n 2, 1, [], 0, 0, []), (72, .iload 6, 2, [], 0, 0, []), (74, .ifCond .eq (19), 3, [93], 0, 0, []), (77, .iconst (1), 1, [], 1, 0, []), (78, .aload_n 0, 1, [], 0, 0, []), (79, .iload 4, 2, [], 0, 0, []), (81, .laload, 1, [], 0, 0, []), (82, .iload 5, 2, [], 0, 0, []), (84, .invokestatic 56, 3, [50, 2, 1, 1089, 1090, 99, 1091], 0, 0, []), (87, .iconst (1), 1, [], 1, 0, []), (88, .isub, 1, [], 0, 0, []), (89, .ishl, 1, [], 0, 0, []), (90, .goto (4), 3, [94], 0, 0, []), (93, .iconst (0), 1, [], 0, 0, []), (94, .ior, 1, [], 0, 0, []), (95, .istore_n 2, 1, [], 0, 0, []), (96, .iinc 5 (1), 3, [], 1, 0, []), (99, .goto (-77), 3, [22], 0, 0, []), (102, .iinc 4 (1), 3, [], 1, 0, []), (105, .goto (-92), 3, [13], 0, 0, []), (108, .iinc 3 (1), 3, [], 1, 0, []), (111, .goto (-107), 3, [4], 0, 0, []), (114, .iload_n 2, 1, [], 0, 0, []), (115, .ireturn, 1, [], 0, 0, [])]
def wX9_reachableSet : List si_row := [(0, .aload_n 0, 1, [], 0, 0, []), (1, .getfield 7, 3, [8, 0, 941], 0, 0, []), (4, .aload_n 0, 1, [], 0, 0, []), (5, .getfield 107, 3, [8, 1, 942], 0, 0, []), (8, .invokestatic 180, 3, [106, 2, 1, 1181, 1182, 99, 1183], 0, 0, []), (11, .ireturn, 1, [], 0, 0, [])]
def wX1_leftEnds : List si_row := [(0, .iconst (0), 1, [], 0, 0, []), (1, .istore_n 3, 1, [], 0, 0, []), (2, .iconst (1), 1, [], 1, 0, []), (3, .istore 4, 2, [], 0, 0, []), (5, .iconst (0), 1, [], 0, 0, []), (6, .istore 5, 2, [], 0, 0, []), (8, .iload 4, 2, [], 0, 0, [1, 6]), (10, .ifCond .eq (47), 3, [57], 0, 0, []), (13, .iload 5, 2, [], 0, 0, []), (15, .bipush (8), 2, [], 8, 0, []), (17, .if_icmp .ge (40), 3, [57], 0, 0, []), (20, .lload_n 0, 1, [], 0, 0, []), (21, .iload 5, 2, [], 0, 0, []), (23, .invokestatic 52, 3, [40, 2, 1, 567, 402, 100, 403], 0, 0, []), (26, .istore 6, 2, [], 0, 0, []), (28, .iload 6, 2, [], 0, 0, []), (30, .invokestatic 55, 3, [9, 1, 1, 555, 305, 91, 306], 0, 0, []), (33, .ifCond .eq (10), 3, [43], 0, 0, []), (36, .iload_n 3, 1, [], 0, 0, []), (37, .iconst (1), 1, [], 1, 0, []), (38, .iload 6, 2, [], 0, 0, []), (40, .ishl, 1, [], 0, 0, []), (41, .ior, 1, [], 0, 0, []), (42, .istore_n 3, 1, [], 0, 0, []), (43, .iload_n 2, 1, [], 0, 0, []), (44, .iload 6, 2, [], 0, 0, []), (46, .invokestatic 59, 3, [57, 2, 1, 450, 451, 91, 452], 0, 0, []), (49, .istore 4, 2, [], 0, 0, []), (51, .iinc 5 (1), 3, [], 1, 0, []), (54, .goto (-46), 3, [8], 0, 0, []), (57, .iload_n 3, 1, [], 0, 0, []), (58, .ireturn, 1, [], 0, 0, [])]
def wX1_followLeftEnds : List si_row := [(0, .aload_n 0, 1, [], 0, 0, []), (1, .getfield 9, 3, [1, 0, 151], 0, 0, []), (4, .iconst (0), 1, [], 0, 0, []), (5, .invokestatic 15, 3, [37, 2, 0, 434, 382, 103, 383], 0, 0, []), (8, .iconst (0), 1, [], 0, 0, []), (9, .istore_n 3, 1, [], 0, 0, []), (10, .iload_n 3, 1, [], 0, 0, [4, 5]), (11, .aload_n 1, 1, [], 0, 0, []), (12, .invokevirtual 21, 3, [30, 0, 1, 2, 435, 350, 93, 352, 351], 0, 0, []), (15, .if_icmp .ge (35), 3, [50], 0, 0, []), (18, .aload_n 1, 1, [], 0, 0, []), (19, .iload_n 3, 1, [], 0, 0, []), (20, .invokevirtual 27, 3, [38, 1, 2, 2, 436, 386, 93, 388, 387], 0, 0, []), (23, .lstore 4, 2, [], 0, 0, []), (25, .aload_n 0, 1, [], 0, 0, []), (26, .getfield 9, 3, [1, 0, 151], 0, 0, []), (29, .lload 4, 2, [], 0, 0, []), (31, .invokestatic 31, 3, [39, 1, 1, 442, 394, 100, 395], 0, 0, []), (34, .dup2, 1, [], 0, 0, []), (35, .iaload, 1, [], 0, 0, []), (36, .lload 4, 2, [], 0, 0, []), (38, .iload_n 2, 1, [], 0, 0, []), (39, .invokestatic 48, 3, [108, 2, 1, 564, 565, 94, 566], 0, 0, []), (42, .ior, 1, [], 0, 0, []), (43, .iastore, 1, [], 0, 0, []), (44, .iinc 3 (1), 3, [], 1, 0, []), (47, .goto (-37), 3, [10], 0, 0, []), (50, .aload_n 0, 1, [], 0, 0, []), (51, .invokevirtual 41, 3, [58, 0, 0, 1, 446, 448, 94, 449, 6], 0, 0, []), (54, .return_, 1, [], 0, 0, [])]
def wX8_leftRecursiveSet : List si_row := [(0, .aload_n 0, 1, [], 0, 0, []), (1, .getfield 33, 3, [7, 4, 246], 0, 0, []), (4, .aload_n 0, 1, [], 0, 0, []), (5, .getfield 19, 3, [7, 1, 243], 0, 0, []), (8, .aload_n 0, 1, [], 0, 0, []), (9, .getfield 19, 3, [7, 1, 243], 0, 0, []), (12, .invokevirtual 136, 3, [93, 0, 1, 2, 520, 521, 93, 523, 522], 0, 0, []), (15, .invokevirtual 148, 3, [109, 2, 0, 1, 560, 561, 94, 563, 562], 0, 0, []), (18, .aload_n 0, 1, [], 0, 0, []), (19, .getfield 33, 3, [7, 4, 246], 0, 0, []), (22, .invokevirtual 152, 3, [60, 0, 1, 1, 453, 454, 94, 456, 455], 0, 0, []), (25, .ireturn, 1, [], 0, 0, [])]
def wX9_recursives : List si_row := [(0, .aload_n 0, 1, [], 0, 0, []), (1, .invokevirtual 174, 3, [97, 0, 1, 8, 1158, 1160, 99, 1161, 56], 0, 0, []), (4, .istore_n 1, 1, [], 0, 0, []), (5, .aload_n 0, 1, [], 0, 0, []), (6, .invokevirtual 184, 3, [75, 0, 0, 8, 1116, 1118, 99, 1119, 51], 0, 0, []), (9, .iconst (0), 1, [], 0, 0, []), (10, .istore_n 2, 1, [], 0, 0, []), (11, .iload_n 2, 1, [], 0, 0, [3, 4, 5]), (12, .aload_n 0, 1, [], 0, 0, []), (13, .getfield 107, 3, [8, 1, 942], 0, 0, []), (16, .if_icmp .ge (112), 3, [128], 0, 0, []), (19, .iconst (1), 1, [], 1, 0, []), (20, .istore_n 3, 1, [], 0, 0, []), (21, .iconst (0), 1, [], 0, 0, []), (22, .istore 4, 2, [], 0, 0, []), (24, .aload_n 0, 1, [], 0, 0, [5]), (25, .getfield 7, 3, [8, 0, 941], 0, 0, []), (28, .iload_n 2, 1, [], 0, 0, []), (29, .laload, 1, [], 0, 0, []), (30, .iload 4, 2, [], 0, 0, []), (32, .invokestatic 56, 3, [50, 2, 1, 1089, 1090, 99, 1091], 0, 0, []), (35, .ifCond .le (87), 3, [122], 0, 0, []), (38, .iload_n 3, 1, [], 0, 0, []), (39, .ifCond .eq (83), 3, [122], 0, 0, []), (42, .aload_n 0, 1, [], 0, 0, []), (43, .getfield 7, 3, [8, 0, 941], 0, 0, []), (46, .iload_n 2, 1, [], 0, 0, []), (47, .laload, 1, [], 0, 0, []), (48, .iload 4, 2, [], 0, 0, []), (50, .invokestatic 56, 3, [50, 2, 1, 1089, 1090, 99, 1091], 0, 0, []), (53, .istore 5, 2, [], 0, 0, []), (55, .aload_n 0, 1, [], 0, 0, []), (56, .getfield 41, 3, [8, 21, 962], 0, 0, []), (59, .aload_n 0, 1, [], 0, 0, []), (60, .getfield 7, 3, [8, 0, 941], 0, 0, []), (63, .iload_n 2, 1, [], 0, 0, []), (64, .laload, 1, [], 0, 0, []), (65, .invokestatic 90, 3, [17, 1, 1, 1066, 1067, 99, 1068], 0, 0, []), (68, .dup2, 1, [], 0, 0, []), (69, .iaload, 1, [], 0, 0, []), (70, .iload 5, 2, [], 0, 0, []), (72, .invokestatic 64, 3, [15, 1, 1, 1059, 1060, 99, 1061], 0, 0, []), (75, .ifCond .eq (12), 3, [87], 0, 0, []), (78, .iconst (1), 1, [], 1, 0, []), (79, .iload 5, 2, [], 0, 0, []), (81, .iconst (1), 1, [], 1, 0, []), (82, .isub, 1, [], 0, 0, []), (83, .ishl, 1, [], 0, 0, []), (84, .goto (4), 3, [88], 0, 0, []), (87, .iconst (0), 1, [], 0, 0, []), (88, .ior, 1, [], 0, 0, []), (89, .iastore, 1, [], 0, 0, []), (90, .iload 5, 2, [], 0, 0, []), (92, .invokestatic 64, 3, [15, 1, 1, 1059, 1060, 99, 1061], 0, 0, []), (95, .ifCond .eq (19), 3, [114], 0, 0, []), (98, .iload_n 1, 1, [], 0, 0, []), (99, .iload 5, 2, [], 0, 0, []), (101, .iconst (1), 1, [], 1, 0, []), (102, .isub, 1, [], 0, 0, []), (103, .ishr, 1, [], 0, 0, []), (104, .iconst (1), 1, [], 1, 0, []), (105, .iand, 1, [], 0, 0, []), (106, .iconst (1), 1, [], 1, 0, []), (107, .if_icmp .ne (7), 3, [114], 0, 0, []), (110, .iconst (1), 1, [], 1, 0, []), (111, .goto (4), 3, [115], 0, 0, []), (114, .iconst (0), 1, [], 0, 0, []), (115, .istore_n 3, 1, [], 0, 0, []), (116, .iinc 4 (1), 3, [], 1, 0, []), (119, .goto (-95), 3, [24], 0, 0, []), (122, .iinc 2 (1), 3, [], 1, 0, []), (125, .goto (-114), 3, [11], 0, 0, []), (128, .aload_n 0, 1, [], 0, 0, []), (129, .invokevirtual 187, 3, [77, 0, 0, 8, 1123, 1125, 99, 1126, 52], 0, 0, []), (132, .aload_n 0, 1, [], 0, 0, []), (133, .invokevirtual 193, 3, [79, 0, 1, 8, 1127, 1129, 99, 1130, 53], 0, 0, []), (136, .ireturn, 1, [], 0, 0, [])]
def wX9_leftRecursiveSet : List si_row := [(0, .aload_n 0, 1, [], 0, 0, []), (1, .invokevirtual 196, 3, [111, 0, 1, 8, 1188, 1190, 99, 1191, 59], 0, 0, []), (4, .ireturn, 1, [], 0, 0, [])]
def wX8_unitReach : List si_row := [(0, .iload_n 1, 1, [], 0, 0, []), (1, .invokestatic 155, 3, [9, 1, 1, 515, 305, 91, 306], 0, 0, []), (4, .ifCond .ne (6), 3, [10], 0, 0, []), (7, .bipush (-6), 2, [], -6, 0, []), (9, .ireturn, 1, [], 0, 0, []), (10, .aload_n 0, 1, [], 0, 0, []), (11, .getfield 33, 3, [7, 4, 246], 0, 0, []), (14, .aload_n 0, 1, [], 0, 0, []), (15, .getfield 19, 3, [7, 1, 243], 0, 0, []), (18, .invokevirtual 158, 3, [59, 1, 0, 1, 430, 431, 94, 433, 432], 0, 0, []), (21, .aload_n 0, 1, [], 0, 0, []), (22, .getfield 33, 3, [7, 4, 246], 0, 0, []), (25, .iload_n 1, 1, [], 0, 0, []), (26, .invokevirtual 145, 3, [104, 1, 1, 1, 551, 552, 94, 554, 553], 0, 0, []), (29, .ireturn, 1, [], 0, 0, [])]
def wX9_isIndex : List si_row := [(0, .iload_n 0, 1, [], 0, 0, []), (1, .iconst (0), 1, [], 0, 0, []), (2, .bipush (15), 2, [], 15, 0, []), (4, .invokestatic 60, 3, [3, 3, 1, 1033, 1034, 99, 1035], 0, 0, []), (7, .ireturn, 1, [], 0, 0, [])]
def wX9_unitReach : List si_row := [(0, .iload_n 1, 1, [], 0, 0, []), (1, .invokestatic 199, 3, [114, 1, 1, 1196, 1197, 99, 1198], 0, 0, []), (4, .ifCond .ne (6), 3, [10], 0, 0, []), (7, .bipush (-6), 2, [], -6, 0, []), (9, .ireturn, 1, [], 0, 0, []), (10, .aload_n 0, 1, [], 0, 0, []), (11, .invokevirtual 190, 3, [78, 0, 0, 8, 1112, 1114, 99, 1115, 50], 0, 0, []), (14, .aload_n 0, 1, [], 0, 0, []), (15, .getfield 41, 3, [8, 21, 962], 0, 0, []), (18, .iload_n 1, 1, [], 0, 0, []), (19, .iaload, 1, [], 0, 0, []), (20, .iconst (1), 1, [], 1, 0, []), (21, .iload_n 1, 1, [], 0, 0, []), (22, .ishl, 1, [], 0, 0, []), (23, .ior, 1, [], 0, 0, []), (24, .ireturn, 1, [], 0, 0, [])]
def wX0_beginnings : List si_row := [(0, .iconst (0), 1, [], 0, 0, []), (1, .istore 4, 2, [], 0, 0, []), (3, .lload_n 1, 1, [], 0, 0, []), (4, .invokestatic 69, 3, [27, 1, 1, 593, 346, 100, 347], 0, 0, []), (7, .istore 5, 2, [], 0, 0, []), (9, .iload_n 3, 1, [], 0, 0, []), (10, .istore 6, 2, [], 0, 0, []), (12, .iload 6, 2, [], 0, 0, [2, 3, 7]), (14, .iload 5, 2, [], 0, 0, []), (16, .if_icmp .ge (71), 3, [87], 0, 0, []), (19, .lload_n 1, 1, [], 0, 0, []), (20, .iload 6, 2, [], 0, 0, []), (22, .invokestatic 72, 3, [40, 2, 1, 594, 402, 100, 403], 0, 0, []), (25, .istore 7, 2, [], 0, 0, []), (27, .iload 7, 2, [], 0, 0, []), (29, .invokestatic 78, 3, [33, 1, 1, 595, 362, 91, 363], 0, 0, []), (32, .ifCond .eq (14), 3, [46], 0, 0, []), (35, .iload 4, 2, [], 0, 0, []), (37, .iconst (1), 1, [], 1, 0, []), (38, .iload 7, 2, [], 0, 0, []), (40, .bipush (16), 2, [], 16, 0, []), (42, .isub, 1, [], 0, 0, []), (43, .ishl, 1, [], 0, 0, []), (44, .ior, 1, [], 0, 0, []), (45, .ireturn, 1, [], 0, 0, []), (46, .iload 7, 2, [], 0, 0, []), (48, .invokestatic 34, 3, [9, 1, 1, 596, 305, 91, 306], 0, 0, []), (51, .ifCond .eq (15), 3, [66], 0, 0, []), (54, .iload 4, 2, [], 0, 0, []), (56, .aload_n 0, 1, [], 0, 0, []), (57, .getfield 9, 3, [0, 0, 161], 0, 0, []), (60, .iload 7, 2, [], 0, 0, []), (62, .iaload, 1, [], 0, 0, []), (63, .ior, 1, [], 0, 0, []), (64, .istore 4, 2, [], 0, 0, []), (66, .aload_n 0, 1, [], 0, 0, []), (67, .getfield 18, 3, [0, 2, 163], 0, 0, []), (70, .iload 7, 2, [], 0, 0, []), (72, .invokestatic 81, 3, [57, 2, 1, 597, 451, 91, 452], 0, 0, []), (75, .ifCond .ne (6), 3, [81], 0, 0, []), (78, .iload 4, 2, [], 0, 0, []), (80, .ireturn, 1, [], 0, 0, []), (81, .iinc 6 (1), 3, [], 1, 0, []), (84, .goto (-72), 3, [12], 0, 0, []), (87, .iload 4, 2, [], 0, 0, []), (89, .ireturn, 1, [], 0, 0, [])]
def wX0_grow : List si_row := [(0, .iload_n 1, 1, [], 0, 0, []), (1, .ifCond .lt (9), 3, [10], 0, 0, []), (4, .iload_n 1, 1, [], 0, 0, []), (5, .aload_n 0, 1, [], 0, 0, []), (6, .arraylength, 1, [], 0, 0, []), (7, .if_icmp .lt (5), 3, [12], 0, 0, []), (10, .iconst (0), 1, [], 0, 0, []), (11, .ireturn, 1, [], 0, 0, []), (12, .aload_n 0, 1, [], 0, 0, []), (13, .iload_n 1, 1, [], 0, 0, []), (14, .iaload, 1, [], 0, 0, []), (15, .istore_n 3, 1, [], 0, 0, []), (16, .aload_n 0, 1, [], 0, 0, []), (17, .iload_n 1, 1, [], 0, 0, []), (18, .iload_n 3, 1, [], 0, 0, []), (19, .iload_n 2, 1, [], 0, 0, []), (20, .ior, 1, [], 0, 0, []), (21, .iastore, 1, [], 0, 0, []), (22, .aload_n 0, 1, [], 0, 0, []), (23, .iload_n 1, 1, [], 0, 0, []), (24, .iaload, 1, [], 0, 0, []), (25, .iload_n 3, 1, [], 0, 0, []), (26, .if_icmp .eq (7), 3, [33], 0, 0, []), (29, .iconst (1), 1, [], 1, 0, []), (30, .goto (4), 3, [34], 0, 0, []), (33, .iconst (0), 1, [], 0, 0, []), (34, .ireturn, 1, [], 0, 0, [])]
def wX0_findFirsts : List si_row := [(0, .aload_n 0, 1, [], 0, 0, []), (1, .getfield 9, 3, [0, 0, 161], 0, 0, []), (4, .iconst (0), 1, [], 0, 0, []), (5, .invokestatic 38, 3, [37, 2, 0, 585, 382, 103, 383], 0, 0, []), (8, .iconst (1), 1, [], 1, 0, []), (9, .istore_n 2, 1, [], 0, 0, []), (10, .iconst (0), 1, [], 0, 0, []), (11, .istore_n 3, 1, [], 0, 0, []), (12, .iload_n 2, 1, [], 0, 0, [4, 5, 6]), (13, .ifCond .eq (66), 3, [79], 0, 0, []), (16, .iload_n 3, 1, [], 0, 0, []), (17, .sipush (145), 3, [], 145, 0, []), (20, .if_icmp .ge (59), 3, [79], 0, 0, []), (23, .iconst (0), 1, [], 0, 0, []), (24, .istore_n 2, 1, [], 0, 0, []), (25, .iconst (0), 1, [], 0, 0, []), (26, .istore 4, 2, [], 0, 0, []), (28, .iload 4, 2, [], 0, 0, [5, 6]), (30, .aload_n 1, 1, [], 0, 0, []), (31, .invokevirtual 44, 3, [30, 0, 1, 2, 586, 350, 93, 352, 351], 0, 0, []), (34, .if_icmp .ge (39), 3, [73], 0, 0, []), (37, .aload_n 1, 1, [], 0, 0, []), (38, .iload 4, 2, [], 0, 0, []), (40, .invokevirtual 47, 3, [38, 1, 2, 2, 587, 386, 93, 388, 387], 0, 0, []), (43, .lstore 5, 2, [], 0, 0, []), (45, .iload_n 2, 1, [], 0, 0, []), (46, .aload_n 0, 1, [], 0, 0, []), (47, .getfield 9, 3, [0, 0, 161], 0, 0, []), (50, .lload 5, 2, [], 0, 0, []), (52, .invokestatic 51, 3, [39, 1, 1, 588, 394, 100, 395], 0, 0, []), (55, .aload_n 0, 1, [], 0, 0, []), (56, .lload 5, 2, [], 0, 0, []), (58, .iconst (0), 1, [], 0, 0, []), (59, .invokevirtual 57, 3, [116, 2, 1, 0, 589, 591, 95, 592, 16], 0, 0, []), (62, .invokestatic 61, 3, [117, 3, 1, 598, 599, 95, 600], 0, 0, []), (65, .ior, 1, [], 0, 0, []), (66, .istore_n 2, 1, [], 0, 0, []), (67, .iinc 4 (1), 3, [], 1, 0, []), (70, .goto (-42), 3, [28], 0, 0, []), (73, .iinc 3 (1), 3, [], 1, 0, []), (76, .goto (-64), 3, [12], 0, 0, []), (79, .return_, 1, [], 0, 0, [])]
def wX0_followOf : List si_row := [(0, .iload_n 1, 1, [], 0, 0, []), (1, .invokestatic 34, 3, [9, 1, 1, 596, 305, 91, 306], 0, 0, []), (4, .ifCond .eq (12), 3, [16], 0, 0, []), (7, .aload_n 0, 1, [], 0, 0, []), (8, .getfield 15, 3, [0, 1, 162], 0, 0, []), (11, .iload_n 1, 1, [], 0, 0, []), (12, .iaload, 1, [], 0, 0, []), (13, .goto (4), 3, [17], 0, 0, []), (16, .iconst (0), 1, [], 0, 0, []), (17, .ireturn, 1, [], 0, 0, [])]
def wX0_comingAfter : List si_row := [(0, .aload_n 0, 1, [], 0, 0, []), (1, .lload_n 1, 1, [], 0, 0, []), (2, .iload_n 3, 1, [], 0, 0, []), (3, .invokevirtual 57, 3, [116, 2, 1, 0, 589, 591, 95, 592, 16], 0, 0, []), (6, .istore 4, 2, [], 0, 0, []), (8, .lload_n 1, 1, [], 0, 0, []), (9, .iload_n 3, 1, [], 0, 0, []), (10, .aload_n 0, 1, [], 0, 0, []), (11, .getfield 18, 3, [0, 2, 163], 0, 0, []), (14, .invokestatic 85, 3, [91, 3, 1, 613, 529, 100, 530], 0, 0, []), (17, .ifCond .eq (16), 3, [33], 0, 0, []), (20, .iload 4, 2, [], 0, 0, []), (22, .aload_n 0, 1, [], 0, 0, []), (23, .lload_n 1, 1, [], 0, 0, []), (24, .invokestatic 51, 3, [39, 1, 1, 588, 394, 100, 395], 0, 0, []), (27, .invokevirtual 89, 3, [119, 1, 1, 0, 614, 615, 95, 617, 616], 0, 0, []), (30, .ior, 1, [], 0, 0, []), (31, .istore 4, 2, [], 0, 0, []), (33, .iload 4, 2, [], 0, 0, []), (35, .ireturn, 1, [], 0, 0, [])]
def wX0_passFollows : List si_row := [(0, .iconst (0), 1, [], 0, 0, []), (1, .istore_n 3, 1, [], 0, 0, []), (2, .lload_n 1, 1, [], 0, 0, []), (3, .invokestatic 69, 3, [27, 1, 1, 593, 346, 100, 347], 0, 0, []), (6, .istore 4, 2, [], 0, 0, []), (8, .iconst (0), 1, [], 0, 0, []), (9, .istore 5, 2, [], 0, 0, []), (11, .iload 5, 2, [], 0, 0, [2, 6]), (13, .iload 4, 2, [], 0, 0, []), (15, .if_icmp .ge (46), 3, [61], 0, 0, []), (18, .lload_n 1, 1, [], 0, 0, []), (19, .iload 5, 2, [], 0, 0, []), (21, .invokestatic 72, 3, [40, 2, 1, 594, 402, 100, 403], 0, 0, []), (24, .istore 6, 2, [], 0, 0, []), (26, .iload 6, 2, [], 0, 0, []), (28, .invokestatic 34, 3, [9, 1, 1, 596, 305, 91, 306], 0, 0, []), (31, .ifCond .eq (24), 3, [55], 0, 0, []), (34, .iload_n 3, 1, [], 0, 0, []), (35, .aload_n 0, 1, [], 0, 0, []), (36, .getfield 15, 3, [0, 1, 162], 0, 0, []), (39, .iload 6, 2, [], 0, 0, []), (41, .aload_n 0, 1, [], 0, 0, []), (42, .lload_n 1, 1, [], 0, 0, []), (43, .iload 5, 2, [], 0, 0, []), (45, .iconst (1), 1, [], 1, 0, []), (46, .iadd, 1, [], 0, 0, []), (47, .invokevirtual 75, 3, [120, 2, 1, 0, 609, 611, 95, 612, 19], 0, 0, []), (50, .invokestatic 61, 3, [117, 3, 1, 598, 599, 95, 600], 0, 0, []), (53, .ior, 1, [], 0, 0, []), (54, .istore_n 3, 1, [], 0, 0, []), (55, .iinc 5 (1), 3, [], 1, 0, []), (58, .goto (-47), 3, [11], 0, 0, []), (61, .iload_n 3, 1, [], 0, 0, []), (62, .ireturn, 1, [], 0, 0, [])]
def wX0_findFollows : List si_row := [(0, .aload_n 0, 1, [], 0, 0, []), (1, .getfield 15, 3, [0, 1, 162], 0, 0, []), (4, .iconst (0), 1, [], 0, 0, []), (5, .invokestatic 38, 3, [37, 2, 0, 585, 382, 103, 383], 0, 0, []), (8, .aload_n 0, 1, [], 0, 0, []), (9, .getfield 15, 3, [0, 1, 162], 0, 0, []), (12, .iconst (0), 1, [], 0, 0, []), (13, .sipush (256), 3, [], 256, 0, []), (16, .iastore, 1, [], 0, 0, []), (17, .iconst (1), 1, [], 1, 0, []), (18, .istore_n 2, 1, [], 0, 0, []), (19, .iconst (0), 1, [], 0, 0, []), (20, .istore_n 3, 1, [], 0, 0, []), (21, .iload_n 2, 1, [], 0, 0, [4]), (22, .ifCond .eq (49), 3, [71], 0, 0, []), (25, .iload_n 3, 1, [], 0, 0, []), (26, .sipush (145), 3, [], 145, 0, []), (29, .if_icmp .ge (42), 3, [71], 0, 0, []), (32, .iconst (0), 1, [], 0, 0, []), (33, .istore_n 2, 1, [], 0, 0, []), (34, .iconst (0), 1, [], 0, 0, []), (35, .istore 4, 2, [], 0, 0, []), (37, .iload 4, 2, [], 0, 0, []), (39, .aload_n 1, 1, [], 0, 0, []), (40, .invokevirtual 44, 3, [30, 0, 1, 2, 586, 350, 93, 352, 351], 0, 0, []), (43, .if_icmp .ge (22), 3, [65], 0, 0, []), (46, .iload_n 2, 1, [], 0, 0, []), (47, .aload_n 0, 1, [], 0, 0, []), (48, .aload_n 1, 1, [], 0, 0, []), (49, .iload 4, 2, [], 0, 0, []), (51, .invokevirtual 47, 3, [38, 1, 2, 2, 587, 386, 93, 388, 387], 0, 0, []), (54, .invokevirtual 65, 3, [121, 1, 1, 0, 605, 607, 95, 608, 18], 0, 0, []), (57, .ior, 1, [], 0, 0, []), (58, .istore_n 2, 1, [], 0, 0, []), (59, .iinc 4 (1), 3, [], 1, 0, []), (62, .goto (-25), 3, [37], 0, 0, []), (65, .iinc 3 (1), 3, [], 1, 0, []), (68, .goto (-47), 3, [21], 0, 0, []), (71, .return_, 1, [], 0, 0, [])]
def wX0_study : List si_row := [(0, .aload_n 0, 1, [], 0, 0, []), (1, .aload_n 1, 1, [], 0, 0, []), (2, .invokevirtual 22, 3, [93, 0, 1, 2, 580, 521, 93, 523, 522], 0, 0, []), (5, .putfield 18, 3, [0, 2, 163], 0, 0, []), (8, .aload_n 0, 1, [], 0, 0, []), (9, .aload_n 1, 1, [], 0, 0, []), (10, .invokevirtual 27, 3, [118, 1, 0, 0, 581, 583, 95, 584, 15], 0, 0, []), (13, .aload_n 0, 1, [], 0, 0, []), (14, .aload_n 1, 1, [], 0, 0, []), (15, .invokevirtual 31, 3, [122, 1, 0, 0, 601, 603, 95, 604, 17], 0, 0, []), (18, .return_, 1, [], 0, 0, [])]
def wX0_firstOf : List si_row := [(0, .iload_n 1, 1, [], 0, 0, []), (1, .invokestatic 34, 3, [9, 1, 1, 596, 305, 91, 306], 0, 0, []), (4, .ifCond .eq (12), 3, [16], 0, 0, []), (7, .aload_n 0, 1, [], 0, 0, []), (8, .getfield 9, 3, [0, 0, 161], 0, 0, []), (11, .iload_n 1, 1, [], 0, 0, []), (12, .iaload, 1, [], 0, 0, []), (13, .goto (4), 3, [17], 0, 0, []), (16, .iconst (0), 1, [], 0, 0, []), (17, .ireturn, 1, [], 0, 0, [])]
def wX8_firstSet : List si_row := [(0, .iload_n 1, 1, [], 0, 0, []), (1, .invokestatic 155, 3, [9, 1, 1, 515, 305, 91, 306], 0, 0, []), (4, .ifCond .ne (6), 3, [10], 0, 0, []), (7, .bipush (-6), 2, [], -6, 0, []), (9, .ireturn, 1, [], 0, 0, []), (10, .aload_n 0, 1, [], 0, 0, []), (11, .getfield 40, 3, [7, 5, 247], 0, 0, []), (14, .aload_n 0, 1, [], 0, 0, []), (15, .getfield 19, 3, [7, 1, 243], 0, 0, []), (18, .invokevirtual 161, 3, [123, 1, 0, 0, 576, 577, 95, 579, 578], 0, 0, []), (21, .aload_n 0, 1, [], 0, 0, []), (22, .getfield 40, 3, [7, 5, 247], 0, 0, []), (25, .iload_n 1, 1, [], 0, 0, []), (26, .invokevirtual 164, 3, [124, 1, 1, 0, 618, 619, 95, 621, 620], 0, 0, []), (29, .ireturn, 1, [], 0, 0, [])]
def wX9_firstOf : List si_row := [(0, .iconst (0), 1, [], 0, 0, []), (1, .istore 5, 2, [], 0, 0, []), (3, .iconst (1), 1, [], 1, 0, []), (4, .istore 6, 2, [], 0, 0, []), (6, .iload_n 3, 1, [], 0, 0, []), (7, .istore 7, 2, [], 0, 0, []), (9, .iload 7, 2, [], 0, 0, [2, 3, 8]), (11, .bipush (8), 2, [], 8, 0, []), (13, .if_icmp .ge (91), 3, [104], 0, 0, []), (16, .lload_n 1, 1, [], 0, 0, []), (17, .iload 7, 2, [], 0, 0, []), (19, .invokestatic 56, 3, [50, 2, 1, 1089, 1090, 99, 1091], 0, 0, []), (22, .ifCond .le (82), 3, [104], 0, 0, []), (25, .iload 6, 2, [], 0, 0, []), (27, .ifCond .eq (77), 3, [104], 0, 0, []), (30, .lload_n 1, 1, [], 0, 0, []), (31, .iload 7, 2, [], 0, 0, []), (33, .invokestatic 56, 3, [50, 2, 1, 1089, 1090, 99, 1091], 0, 0, []), (36, .istore 8, 2, [], 0, 0, []), (38, .iload 5, 2, [], 0, 0, []), (40, .iload 8, 2, [], 0, 0, []), (42, .invokestatic 64, 3, [15, 1, 1, 1059, 1060, 99, 1061], 0, 0, []), (45, .ifCond .eq (15), 3, [60], 0, 0, []), (48, .aload_n 0, 1, [], 0, 0, []), (49, .getfield 44, 3, [8, 22, 963], 0, 0, []), (52, .iload 8, 2, [], 0, 0, []), (54, .iconst (1), 1, [], 1, 0, []), (55, .isub, 1, [], 0, 0, []), (56, .iaload, 1, [], 0, 0, []), (57, .goto (10), 3, [67], 0, 0, []), (60, .iconst (1), 1, [], 1, 0, []), (61, .iload 8, 2, [], 0, 0, []), (63, .bipush (17), 2, [], 17, 0, []), (65, .isub, 1, [], 0, 0, []), (66, .ishl, 1, [], 0, 0, []), (67, .ior, 1, [], 0, 0, []), (68, .istore 5, 2, [], 0, 0, []), (70, .iload 8, 2, [], 0, 0, []), (72, .invokestatic 64, 3, [15, 1, 1, 1059, 1060, 99, 1061], 0, 0, []), (75, .ifCond .eq (20), 3, [95], 0, 0, []), (78, .iload 4, 2, [], 0, 0, []), (80, .iload 8, 2, [], 0, 0, []), (82, .iconst (1), 1, [], 1, 0, []), (83, .isub, 1, [], 0, 0, []), (84, .ishr, 1, [], 0, 0, []), (85, .iconst (1), 1, [], 1, 0, []), (86, .iand, 1, [], 0, 0, []), (87, .iconst (1), 1, [], 1, 0, []), (88, .if_icmp .ne (7), 3, [95], 0, 0, []), (91, .iconst (1), 1, [], 1, 0, []), (92, .goto (4), 3, [96], 0, 0, []), (95, .iconst (0), 1, [], 0, 0, []), (96, .istore 6, 2, [], 0, 0, []), (98, .iinc 7 (1), 3, [], 1, 0, []), (101, .goto (-92), 3, [9], 0, 0, []), (104, .iload 5, 2, [], 0, 0, []), (106, .ireturn, 1, [], 0, 0, [])]
def wX9_layFirsts : List si_row := [(0, .aload_n 0, 1, [], 0, 0, []), (1, .invokevirtual 174, 3, [97, 0, 1, 8, 1158, 1160, 99, 1161, 56], 0, 0, []), (4, .istore_n 1, 1, [], 0, 0, []), (5, .iconst (0), 1, [], 0, 0, []), (6, .istore_n 2, 1, [], 0, 0, []), (7, .iload_n 2, 1, [], 0, 0, [3]), (8, .bipush (16), 2, [], 16, 0, []), (10, .if_icmp .ge (16), 3, [26], 0, 0, []), (13, .aload_n 0, 1, [], 0, 0, []), (14, .getfield 44, 3, [8, 22, 963], 0, 0, []), (17, .iload_n 2, 1, [], 0, 0, []), (18, .iconst (0), 1, [], 0, 0, []), (19, .iastore, 1, [], 0, 0, []), (20, .iinc 2 (1), 3, [], 1, 0, []), (23, .goto (-16), 3, [7], 0, 0, []), (26, .iconst (0), 1, [], 0, 0, []), (27, .istore_n 2, 1, [], 0, 0, []), (28, .iload_n 2, 1, [], 0, 0, [3]), (29, .bipush (16), 2, [], 16, 0, []), (31, .if_icmp .gt (54), 3, [85], 0, 0, []), (34, .iconst (0), 1, [], 0, 0, []), (35, .istore_n 3, 1, [], 0, 0, []), (36, .iload_n 3, 1, [], 0, 0, []), (37, .aload_n 0, 1, [], 0, 0, []), (38, .getfield 107, 3, [8, 1, 942], 0, 0, []), (41, .if_icmp .ge (38), 3, [79], 0, 0, []), (44, .aload_n 0, 1, [], 0, 0, []), (45, .getfield 44, 3, [8, 22, 963], 0, 0, []), (48, .aload_n 0, 1, [], 0, 0, []), (49, .getfield 7, 3, [8, 0, 941], 0, 0, []), (52, .iload_n 3, 1, [], 0, 0, []), (53, .laload, 1, [], 0, 0, []), (54, .invokestatic 90, 3, [17, 1, 1, 1066, 1067, 99, 1068], 0, 0, []), (57, .dup2, 1, [], 0, 0, []), (58, .iaload, 1, [], 0, 0, []), (59, .aload_n 0, 1, [], 0, 0, []), (60, .aload_n 0, 1, [], 0, 0, []), (61, .getfield 7, 3, [8, 0, 941], 0, 0, []), (64, .iload_n 3, 1, [], 0, 0, []), (65, .laload, 1, [], 0, 0, []), (66, .iconst (0), 1, [], 0, 0, []), (67, .iload_n 1, 1, [], 0, 0, []), (68, .invokevirtual 202, 3, [126, 3, 1, 8, 1211, 1213, 99, 1214, 62], 0, 0, []), (71, .ior, 1, [], 0, 0, []), (72, .iastore, 1, [], 0, 0, []), (73, .iinc 3 (1), 3, [], 1, 0, []), (76, .goto (-40), 3, [36], 0, 0, []), (79, .iinc 2 (1), 3, [], 1, 0, []), (82, .goto (-54), 3, [28], 0, 0, []), (85, .return_, 1, [], 0, 0, [])]
def wX9_firstNow : List si_row := [(0, .aload_n 0, 1, [], 0, 0, []), (1, .invokevirtual 206, 3, [127, 0, 0, 8, 1207, 1209, 99, 1210, 61], 0, 0, []), (4, .aload_n 0, 1, [], 0, 0, []), (5, .getfield 44, 3, [8, 22, 963], 0, 0, []), (8, .iload_n 1, 1, [], 0, 0, []), (9, .iaload, 1, [], 0, 0, []), (10, .ireturn, 1, [], 0, 0, [])]
def wX9_firstSet : List si_row := [(0, .iload_n 1, 1, [], 0, 0, []), (1, .invokestatic 199, 3, [114, 1, 1, 1196, 1197, 99, 1198], 0, 0, []), (4, .ifCond .eq (11), 3, [15], 0, 0, []), (7, .aload_n 0, 1, [], 0, 0, []), (8, .iload_n 1, 1, [], 0, 0, []), (9, .invokevirtual 212, 3, [128, 1, 1, 8, 1203, 1205, 99, 1206, 60], 0, 0, []), (12, .goto (5), 3, [17], 0, 0, []), (15, .bipush (-6), 2, [], -6, 0, []), (17, .ireturn, 1, [], 0, 0, [])]
def wX8_followSet : List si_row := [(0, .iload_n 1, 1, [], 0, 0, []), (1, .invokestatic 155, 3, [9, 1, 1, 515, 305, 91, 306], 0, 0, []), (4, .ifCond .ne (6), 3, [10], 0, 0, []), (7, .bipush (-6), 2, [], -6, 0, []), (9, .ireturn, 1, [], 0, 0, []), (10, .aload_n 0, 1, [], 0, 0, []), (11, .getfield 40, 3, [7, 5, 247], 0, 0, []), (14, .aload_n 0, 1, [], 0, 0, []), (15, .getfield 19, 3, [7, 1, 243], 0, 0, []), (18, .invokevirtual 161, 3, [123, 1, 0, 0, 576, 577, 95, 579, 578], 0, 0, []), (21, .aload_n 0, 1, [], 0, 0, []), (22, .getfield 40, 3, [7, 5, 247], 0, 0, []), (25, .iload_n 1, 1, [], 0, 0, []), (26, .invokevirtual 167, 3, [119, 1, 1, 0, 626, 615, 95, 617, 616], 0, 0, []), (29, .ireturn, 1, [], 0, 0, [])]
def wX9_layFollows : List si_row := [(0, .aload_n 0, 1, [], 0, 0, []), (1, .invokevirtual 206, 3, [127, 0, 0, 8, 1207, 1209, 99, 1210, 61], 0, 0, []), (4, .aload_n 0, 1, [], 0, 0, []), (5, .invokevirtual 174, 3, [97, 0, 1, 8, 1158, 1160, 99, 1161, 56], 0, 0, []), (8, .istore_n 1, 1, [], 0, 0, []), (9, .iconst (0), 1, [], 0, 0, []), (10, .istore_n 2, 1, [], 0, 0, []), (11, .iload_n 2, 1, [], 0, 0, [3, 4, 5]), (12, .bipush (16), 2, [], 16, 0, []), (14, .if_icmp .ge (26), 3, [40], 0, 0, []), (17, .aload_n 0, 1, [], 0, 0, []), (18, .getfield 47, 3, [8, 23, 964], 0, 0, []), (21, .iload_n 2, 1, [], 0, 0, []), (22, .iload_n 2, 1, [], 0, 0, []), (23, .ifCond .ne (9), 3, [32], 0, 0, []), (26, .sipush (256), 3, [], 256, 0, []), (29, .goto (4), 3, [33], 0, 0, []), (32, .iconst (0), 1, [], 0, 0, []), (33, .iastore, 1, [], 0, 0, []), (34, .iinc 2 (1), 3, [], 1, 0, []), (37, .goto (-26), 3, [11], 0, 0, []), (40, .iconst (0), 1, [], 0, 0, []), (41, .istore_n 2, 1, [], 0, 0, []), (42, .iload_n 2, 1, [], 0, 0, [3, 4, 5]), (43, .bipush (16), 2, [], 16, 0, []), (45, .if_icmp .gt (133), 3, [178], 0, 0, []), (48, .iconst (0), 1, [], 0, 0, []), (49, .istore_n 3, 1, [], 0, 0, []), (50, .iload_n 3, 1, [], 0, 0, [4, 5]), (51, .aload_n 0, 1, [], 0, 0, []), (52, .getfield 107, 3, [8, 1, 942], 0, 0, []), (55, .if_icmp .ge (117), 3, [172], 0, 0, []), (58, .iconst (0), 1, [], 0, 0, []), (59, .istore 4, 2, [], 0, 0, []), (61, .aload_n 0, 1, [], 0, 0, [5]), (62, .getfield 7, 3, [8, 0, 941], 0, 0, []), (65, .iload_n 3, 1, [], 0, 0, []), (66, .laload, 1, [], 0, 0, []), (67, .iload 4, 2, [], 0, 0, []), (69, .invokestatic 56, 3, [50, 2, 1, 1089, 1090, 99, 1091], 0, 0, []), (72, .ifCond .le (94), 3, [166], 0, 0, []), (75, .aload_n 0, 1, [], 0, 0, []), (76, .getfield 7, 3, [8, 0, 941], 0, 0, []), (79, .iload_n 3, 1, [], 0, 0, []), (80, .laload, 1, [], 0, 0, []), (81, .iload 4, 2, [], 0, 0, []), (83, .invokestatic 56, 3, [50, 2, 1, 1089, 1090, 99, 1091], 0, 0, []), (86, .istore 5, 2, [], 0, 0, []), (88, .iload 5, 2, [], 0, 0, []), (90, .invokestatic 64, 3, [15, 1, 1, 1059, 1060, 99, 1061], 0, 0, []), (93, .ifCond .eq (67), 3, [160], 0, 0, []), (96, .aload_n 0, 1, [], 0, 0, []), (97, .getfield 47, 3, [8, 23, 964], 0, 0, []), (100, .iload 5, 2, [], 0, 0, []), (102, .iconst (1), 1, [], 1, 0, []), (103, .isub, 1, [], 0, 0, []), (104, .dup2, 1, [], 0, 0, []), (105, .iaload, 1, [], 0, 0, []), (106, .aload_n 0, 1, [], 0, 0, []), (107, .aload_n 0, 1, [], 0, 0, []), (108, .getfield 7, 3, [8, 0, 941], 0, 0, []), (111, .iload_n 3, 1, [], 0, 0, []), (112, .laload, 1, [], 0, 0, []), (113, .iload 4, 2, [], 0, 0, []), (115, .iconst (1), 1, [], 1, 0, []), (116, .iadd, 1, [], 0, 0, []), (117, .iload_n 1, 1, [], 0, 0, []), (118, .invokevirtual 202, 3, [126, 3, 1, 8, 1211, 1213, 99, 1214, 62], 0, 0, []), (121, .aload_n 0, 1, [], 0, 0, []), (122, .getfield 7, 3, [8, 0, 941], 0, 0, []), (125, .iload_n 3, 1, [], 0, 0, []), (126, .laload, 1, [], 0, 0, []), (127, .iload 4, 2, [], 0, 0, []), (129, .iconst (1), 1, [], 1, 0, []), (130, .iadd, 1, [], 0, 0, []), (131, .iload_n 1, 1, [], 0, 0, []), (132, .iconst (0), 1, [], 0, 0, []), (133, .invokestatic 166, 3, [95, 4, 1, 1166, 1167, 99, 1168], 0, 0, []), (136, .ifCond .eq (20), 3, [156], 0, 0, []), (139, .aload_n 0, 1, [], 0, 0, []), (140, .getfield 47, 3, [8, 23, 964], 0, 0, []), (143, .aload_n 0, 1, [], 0, 0, []), (144, .getfield 7, 3, [8, 0, 941], 0, 0, []), (147, .iload_n 3, 1, [], 0, 0, []), (148, .laload, 1, [], 0, 0, []), (149, .invokestatic 90, 3, [17, 1, 1, 1066, 1067, 99, 1068], 0, 0, []), (152, .iaload, 1, [], 0, 0, []), (153, .goto (4), 3, [157], 0, 0, []), (156, .iconst (0), 1, [], 0, 0, []), (157, .ior, 1, [], 0, 0, []), (158, .ior, 1, [], 0, 0, []), (159, .iastore, 1, [], 0, 0, []), (160, .iinc 4 (1), 3, [], 1, 0, []), (163, .goto (-102), 3, [61], 0, 0, []), (166, .iinc 3 (1), 3, [], 1, 0, []), (169, .goto (-119), 3, [50], 0, 0, []), (172, .iinc 2 (1), 3, [], 1, 0, []), (175, .goto (-133), 3, [42], 0, 0, []), (178, .return_, 1, [], 0, 0, [])]
def wX9_followNow : List si_row := [(0, .aload_n 0, 1, [], 0, 0, []), (1, .invokevirtual 209, 3, [131, 0, 0, 8, 1223, 1225, 99, 1226, 64], 0, 0, []), (4, .aload_n 0, 1, [], 0, 0, []), (5, .getfield 47, 3, [8, 23, 964], 0, 0, []), (8, .iload_n 1, 1, [], 0, 0, []), (9, .iaload, 1, [], 0, 0, []), (10, .ireturn, 1, [], 0, 0, [])]
def wX9_followSet : List si_row := [(0, .iload_n 1, 1, [], 0, 0, []), (1, .invokestatic 199, 3, [114, 1, 1, 1196, 1197, 99, 1198], 0, 0, []), (4, .ifCond .eq (11), 3, [15], 0, 0, []), (7, .aload_n 0, 1, [], 0, 0, []), (8, .iload_n 1, 1, [], 0, 0, []), (9, .invokevirtual 215, 3, [132, 1, 1, 8, 1219, 1221, 99, 1222, 63], 0, 0, []), (12, .goto (5), 3, [17], 0, 0, []), (15, .bipush (-6), 2, [], -6, 0, []), (17, .ireturn, 1, [], 0, 0, [])]
def wX0_hasDistinctLookaheads : List si_row := [(0, .iconst (-1), 1, [], -1, 0, []), (1, .istore_n 2, 1, [], 0, 0, []), (2, .iconst (0), 1, [], 0, 0, []), (3, .istore_n 3, 1, [], 0, 0, []), (4, .iconst (0), 1, [], 0, 0, []), (5, .istore 4, 2, [], 0, 0, []), (7, .iload 4, 2, [], 0, 0, [5, 6, 7]), (9, .aload_n 1, 1, [], 0, 0, []), (10, .invokevirtual 44, 3, [30, 0, 1, 2, 586, 350, 93, 352, 351], 0, 0, []), (13, .if_icmp .ge (57), 3, [70], 0, 0, []), (16, .aload_n 1, 1, [], 0, 0, []), (17, .iload 4, 2, [], 0, 0, []), (19, .invokevirtual 47, 3, [38, 1, 2, 2, 587, 386, 93, 388, 387], 0, 0, []), (22, .lstore 5, 2, [], 0, 0, []), (24, .lload 5, 2, [], 0, 0, []), (26, .invokestatic 51, 3, [39, 1, 1, 588, 394, 100, 395], 0, 0, []), (29, .iload_n 2, 1, [], 0, 0, []), (30, .if_icmp .eq (11), 3, [41], 0, 0, []), (33, .lload 5, 2, [], 0, 0, []), (35, .invokestatic 51, 3, [39, 1, 1, 588, 394, 100, 395], 0, 0, []), (38, .istore_n 2, 1, [], 0, 0, []), (39, .iconst (0), 1, [], 0, 0, []), (40, .istore_n 3, 1, [], 0, 0, []), (41, .aload_n 0, 1, [], 0, 0, []), (42, .lload 5, 2, [], 0, 0, []), (44, .iconst (0), 1, [], 0, 0, []), (45, .invokevirtual 75, 3, [120, 2, 1, 0, 609, 611, 95, 612, 19], 0, 0, []), (48, .istore 7, 2, [], 0, 0, []), (50, .iload_n 3, 1, [], 0, 0, []), (51, .iload 7, 2, [], 0, 0, []), (53, .iand, 1, [], 0, 0, []), (54, .ifCond .eq (5), 3, [59], 0, 0, []), (57, .iconst (0), 1, [], 0, 0, []), (58, .ireturn, 1, [], 0, 0, []), (59, .iload_n 3, 1, [], 0, 0, []), (60, .iload 7, 2, [], 0, 0, []), (62, .ior, 1, [], 0, 0, []), (63, .istore_n 3, 1, [], 0, 0, []), (64, .iinc 4 (1), 3, [], 1, 0, []), (67, .goto (-60), 3, [7], 0, 0, []), (70, .iconst (1), 1, [], 1, 0, []), (71, .ireturn, 1, [], 0, 0, [])]
def wX8_isLl1 : List si_row := [(0, .aload_n 0, 1, [], 0, 0, []), (1, .getfield 40, 3, [7, 5, 247], 0, 0, []), (4, .aload_n 0, 1, [], 0, 0, []), (5, .getfield 19, 3, [7, 1, 243], 0, 0, []), (8, .invokevirtual 161, 3, [123, 1, 0, 0, 576, 577, 95, 579, 578], 0, 0, []), (11, .aload_n 0, 1, [], 0, 0, []), (12, .getfield 40, 3, [7, 5, 247], 0, 0, []), (15, .aload_n 0, 1, [], 0, 0, []), (16, .getfield 19, 3, [7, 1, 243], 0, 0, []), (19, .invokevirtual 170, 3, [134, 1, 1, 0, 631, 632, 95, 634, 633], 0, 0, []), (22, .invokestatic 101, 3, [46, 1, 1, 413, 414, 91, 415], 0, 0, []), (25, .ireturn, 1, [], 0, 0, [])]
def wX9_isPredictive : List si_row := [(0, .aload_n 0, 1, [], 0, 0, []), (1, .invokevirtual 209, 3, [131, 0, 0, 8, 1223, 1225, 99, 1226, 64], 0, 0, []), (4, .aload_n 0, 1, [], 0, 0, []), (5, .invokevirtual 174, 3, [97, 0, 1, 8, 1158, 1160, 99, 1161, 56], 0, 0, []), (8, .istore_n 1, 1, [], 0, 0, []), (9, .iconst (0), 1, [], 0, 0, []), (10, .istore_n 2, 1, [], 0, 0, []), (11, .iload_n 2, 1, [], 0, 0, [3, 4, 5]), (12, .bipush (16), 2, [], 16, 0, []), (14, .if_icmp .ge (16), 3, [30], 0, 0, []), (17, .aload_n 0, 1, [], 0, 0, []), (18, .getfield 50, 3, [8, 24, 965], 0, 0, []), (21, .iload_n 2, 1, [], 0, 0, []), (22, .iconst (0), 1, [], 0, 0, []), (23, .iastore, 1, [], 0, 0, []), (24, .iinc 2 (1), 3, [], 1, 0, []), (27, .goto (-16), 3, [11], 0, 0, []), (30, .iconst (1), 1, [], 1, 0, []), (31, .istore_n 2, 1, [], 0, 0, []), (32, .iconst (0), 1, [], 0, 0, []), (33, .istore_n 3, 1, [], 0, 0, []), (34, .iload_n 3, 1, [], 0, 0, [4, 5]), (35, .aload_n 0, 1, [], 0, 0, []), (36, .getfield 107, 3, [8, 1, 942], 0, 0, []), (39, .if_icmp .ge (96), 3, [135], 0, 0, []), (42, .aload_n 0, 1, [], 0, 0, []), (43, .getfield 7, 3, [8, 0, 941], 0, 0, []), (46, .iload_n 3, 1, [], 0, 0, []), (47, .laload, 1, [], 0, 0, []), (48, .invokestatic 90, 3, [17, 1, 1, 1066, 1067, 99, 1068], 0, 0, []), (51, .istore 4, 2, [], 0, 0, []), (53, .aload_n 0, 1, [], 0, 0, []), (54, .aload_n 0, 1, [], 0, 0, []), (55, .getfield 7, 3, [8, 0, 941], 0, 0, []), (58, .iload_n 3, 1, [], 0, 0, []), (59, .laload, 1, [], 0, 0, []), (60, .iconst (0), 1, [], 0, 0, []), (61, .iload_n 1, 1, [], 0, 0, []), (62, .invokevirtual 202, 3, [126, 3, 1, 8, 1211, 1213, 99, 1214, 62], 0, 0, []), (65, .aload_n 0, 1, [], 0, 0, []), (66, .getfield 7, 3, [8, 0, 941], 0, 0, []), (69, .iload_n 3, 1, [], 0, 0, []), (70, .laload, 1, [], 0, 0, []), (71, .iconst (0), 1, [], 0, 0, []), (72, .iload_n 1, 1, [], 0, 0, []), (73, .iconst (0), 1, [], 0, 0, []), (74, .invokestatic 166, 3, [95, 4, 1, 1166, 1167, 99, 1168], 0, 0, []), (77, .ifCond .eq (13), 3, [90], 0, 0, []), (80, .aload_n 0, 1, [], 0, 0, []), (81, .getfield 47, 3, [8, 23, 964], 0, 0, []), (84, .iload 4, 2, [], 0, 0, []), (86, .iaload, 1, [], 0, 0, []), (87, .goto (4), 3, [91], 0, 0, []), (90, .iconst (0), 1, [], 0, 0, []), (91, .ior, 1, [], 0, 0, []), (92, .istore 5, 2, [], 0, 0, []), (94, .iload_n 2, 1, [], 0, 0, []), (95, .ifCond .eq (20), 3, [115], 0, 0, []), (98, .aload_n 0, 1, [], 0, 0, []), (99, .getfield 50, 3, [8, 24, 965], 0, 0, []), (102, .iload 4, 2, [], 0, 0, []), (104, .iaload, 1, [], 0, 0, []), (105, .iload 5, 2, [], 0, 0, []), (107, .iand, 1, [], 0, 0, []), (108, .ifCond .ne (7), 3, [115], 0, 0, []), (111, .iconst (1), 1, [], 1, 0, []), (112, .goto (4), 3, [116], 0, 0, []), (115, .iconst (0), 1, [], 0, 0, []), (116, .istore_n 2, 1, [], 0, 0, []), (117, .aload_n 0, 1, [], 0, 0, []), (118, .getfield 50, 3, [8, 24, 965], 0, 0, []), (121, .iload 4, 2, [], 0, 0, []), (123, .dup2, 1, [], 0, 0, []), (124, .iaload, 1, [], 0, 0, []), (125, .iload 5, 2, [], 0, 0, []), (127, .ior, 1, [], 0, 0, []), (128, .iastore, 1, [], 0, 0, []), (129, .iinc 3 (1), 3, [], 1, 0, []), (132, .goto (-98), 3, [34], 0, 0, []), (135, .iload_n 2, 1, [], 0, 0, []), (136, .ireturn, 1, [], 0, 0, [])]
def wX9_isLl1 : List si_row := [(0, .aload_n 0, 1, [], 0, 0, []), (1, .invokevirtual 218, 3, [136, 0, 1, 8, 1231, 1233, 99, 1234, 65], 0, 0, []), (4, .ifCond .eq (7), 3, [11], 0, 0, []), (7, .iconst (1), 1, [], 1, 0, []), (8, .goto (4), 3, [12], 0, 0, []), (11, .iconst (0), 1, [], 0, 0, []), (12, .ireturn, 1, [], 0, 0, [])]
def wX5_fitsChomsky : List si_row := [(0, .lload_n 0, 1, [], 0, 0, []), (1, .invokestatic 13, 3, [27, 1, 1, 345, 346, 100, 347], 0, 0, []), (4, .istore_n 2, 1, [], 0, 0, []), (5, .iload_n 2, 1, [], 0, 0, []), (6, .iconst (1), 1, [], 1, 0, []), (7, .if_icmp .ne (12), 3, [19], 0, 0, []), (10, .lload_n 0, 1, [], 0, 0, []), (11, .iconst (0), 1, [], 0, 0, []), (12, .invokestatic 28, 3, [40, 2, 1, 440, 402, 100, 403], 0, 0, []), (15, .invokestatic 44, 3, [33, 1, 1, 642, 362, 91, 363], 0, 0, []), (18, .ireturn, 1, [], 0, 0, []), (19, .iload_n 2, 1, [], 0, 0, []), (20, .iconst (2), 1, [], 2, 0, []), (21, .if_icmp .ne (17), 3, [38], 0, 0, []), (24, .lload_n 0, 1, [], 0, 0, []), (25, .iconst (0), 1, [], 0, 0, []), (26, .ldc 47, 2, [643], 65535, 0, []), (28, .invokestatic 48, 3, [91, 3, 1, 644, 529, 100, 530], 0, 0, []), (31, .ifCond .eq (7), 3, [38], 0, 0, []), (34, .iconst (1), 1, [], 1, 0, []), (35, .goto (4), 3, [39], 0, 0, []), (38, .iconst (0), 1, [], 0, 0, []), (39, .ireturn, 1, [], 0, 0, [])]
def wX8_isChomsky : List si_row := [(0, .iconst (0), 1, [], 0, 0, []), (1, .istore_n 1, 1, [], 0, 0, []), (2, .iload_n 1, 1, [], 0, 0, []), (3, .aload_n 0, 1, [], 0, 0, []), (4, .getfield 19, 3, [7, 1, 243], 0, 0, []), (7, .invokevirtual 87, 3, [30, 0, 1, 2, 349, 350, 93, 352, 351], 0, 0, []), (10, .if_icmp .ge (25), 3, [35], 0, 0, []), (13, .aload_n 0, 1, [], 0, 0, []), (14, .getfield 19, 3, [7, 1, 243], 0, 0, []), (17, .iload_n 1, 1, [], 0, 0, []), (18, .invokevirtual 116, 3, [38, 1, 2, 2, 508, 386, 93, 388, 387], 0, 0, []), (21, .invokestatic 173, 3, [138, 1, 1, 639, 640, 100, 641], 0, 0, []), (24, .ifCond .ne (5), 3, [29], 0, 0, []), (27, .iconst (0), 1, [], 0, 0, []), (28, .ireturn, 1, [], 0, 0, []), (29, .iinc 1 (1), 3, [], 1, 0, []), (32, .goto (-30), 3, [2], 0, 0, []), (35, .iconst (1), 1, [], 1, 0, []), (36, .ireturn, 1, [], 0, 0, [])]
def wX9_isInChomsky : List si_row := [(0, .iconst (1), 1, [], 1, 0, []), (1, .istore_n 1, 1, [], 0, 0, []), (2, .iconst (0), 1, [], 0, 0, []), (3, .istore_n 2, 1, [], 0, 0, []), (4, .iload_n 2, 1, [], 0, 0, [3, 4, 5]), (5, .aload_n 0, 1, [], 0, 0, []), (6, .getfield 107, 3, [8, 1, 942], 0, 0, []), (9, .if_icmp .ge (87), 3, [96], 0, 0, []), (12, .aload_n 0, 1, [], 0, 0, []), (13, .getfield 7, 3, [8, 0, 941], 0, 0, []), (16, .iload_n 2, 1, [], 0, 0, []), (17, .laload, 1, [], 0, 0, []), (18, .lstore_n 3, 1, [], 0, 0, []), (19, .lload_n 3, 1, [], 0, 0, []), (20, .invokestatic 160, 3, [88, 1, 1, 1148, 1149, 99, 1150], 0, 0, []), (23, .iconst (1), 1, [], 1, 0, []), (24, .if_icmp .ne (18), 3, [42], 0, 0, []), (27, .lload_n 3, 1, [], 0, 0, []), (28, .iconst (0), 1, [], 0, 0, []), (29, .invokestatic 56, 3, [50, 2, 1, 1089, 1090, 99, 1091], 0, 0, []), (32, .invokestatic 64, 3, [15, 1, 1, 1059, 1060, 99, 1061], 0, 0, []), (35, .ifCond .ne (7), 3, [42], 0, 0, []), (38, .iconst (1), 1, [], 1, 0, []), (39, .goto (4), 3, [43], 0, 0, []), (42, .iconst (0), 1, [], 0, 0, [4, 5]), (43, .istore 5, 2, [], 0, 0, []), (45, .iload_n 1, 1, [], 0, 0, []), (46, .ifCond .eq (42), 3, [88], 0, 0, []), (49, .iload 5, 2, [], 0, 0, []), (51, .ifCond .ne (33), 3, [84], 0, 0, []), (54, .lload_n 3, 1, [], 0, 0, []), (55, .invokestatic 160, 3, [88, 1, 1, 1148, 1149, 99, 1150], 0, 0, []), (58, .iconst (2), 1, [], 2, 0, []), (59, .if_icmp .ne (29), 3, [88], 0, 0, []), (62, .lload_n 3, 1, [], 0, 0, []), (63, .iconst (0), 1, [], 0, 0, []), (64, .invokestatic 56, 3, [50, 2, 1, 1089, 1090, 99, 1091], 0, 0, []), (67, .invokestatic 64, 3, [15, 1, 1, 1059, 1060, 99, 1061], 0, 0, []), (70, .ifCond .eq (18), 3, [88], 0, 0, []), (73, .lload_n 3, 1, [], 0, 0, []), (74, .iconst (1), 1, [], 1, 0, []), (75, .invokestatic 56, 3, [50, 2, 1, 1089, 1090, 99, 1091], 0, 0, []), (78, .invokestatic 64, 3, [15, 1, 1, 1059, 1060, 99, 1061], 0, 0, []), (81, .ifCond .eq (7), 3, [88], 0, 0, []), (84, .iconst (1), 1, [], 1, 0, [1, 3, 4, 5]), (85, .goto (4), 3, [89], 0, 0, []), (88, .iconst (0), 1, [], 0, 0, [1, 3, 4, 5]), (89, .istore_n 1, 1, [], 0, 0, []), (90, .iinc 2 (1), 3, [], 1, 0, []), (93, .goto (-89), 3, [4], 0, 0, []), (96, .iload_n 1, 1, [], 0, 0, []), (97, .ireturn, 1, [], 0, 0, [])]
def wX9_isChomsky : List si_row := [(0, .aload_n 0, 1, [], 0, 0, []), (1, .invokevirtual 221, 3, [140, 0, 1, 8, 1239, 1241, 99, 1242, 66], 0, 0, []), (4, .ifCond .eq (7), 3, [11], 0, 0, []), (7, .iconst (1), 1, [], 1, 0, []), (8, .goto (4), 3, [12], 0, 0, []), (11, .iconst (0), 1, [], 0, 0, []), (12, .ireturn, 1, [], 0, 0, [])]
def wX5_fitsGreibach : List si_row := [(0, .lload_n 0, 1, [], 0, 0, []), (1, .iconst (0), 1, [], 0, 0, []), (2, .invokestatic 28, 3, [40, 2, 1, 440, 402, 100, 403], 0, 0, []), (5, .invokestatic 44, 3, [33, 1, 1, 642, 362, 91, 363], 0, 0, []), (8, .ifCond .eq (17), 3, [25], 0, 0, []), (11, .lload_n 0, 1, [], 0, 0, []), (12, .iconst (1), 1, [], 1, 0, []), (13, .ldc 47, 2, [643], 65535, 0, []), (15, .invokestatic 48, 3, [91, 3, 1, 644, 529, 100, 530], 0, 0, []), (18, .ifCond .eq (7), 3, [25], 0, 0, []), (21, .iconst (1), 1, [], 1, 0, []), (22, .goto (4), 3, [26], 0, 0, []), (25, .iconst (0), 1, [], 0, 0, []), (26, .ireturn, 1, [], 0, 0, [])]
def wX8_isGreibach : List si_row := [(0, .iconst (0), 1, [], 0, 0, []), (1, .istore_n 1, 1, [], 0, 0, []), (2, .iload_n 1, 1, [], 0, 0, []), (3, .aload_n 0, 1, [], 0, 0, []), (4, .getfield 19, 3, [7, 1, 243], 0, 0, []), (7, .invokevirtual 87, 3, [30, 0, 1, 2, 349, 350, 93, 352, 351], 0, 0, []), (10, .if_icmp .ge (25), 3, [35], 0, 0, []), (13, .aload_n 0, 1, [], 0, 0, []), (14, .getfield 19, 3, [7, 1, 243], 0, 0, []), (17, .iload_n 1, 1, [], 0, 0, []), (18, .invokevirtual 116, 3, [38, 1, 2, 2, 508, 386, 93, 388, 387], 0, 0, []), (21, .invokestatic 177, 3, [142, 1, 1, 649, 650, 100, 651], 0, 0, []), (24, .ifCond .ne (5), 3, [29], 0, 0, []), (27, .iconst (0), 1, [], 0, 0, []), (28, .ireturn, 1, [], 0, 0, []), (29, .iinc 1 (1), 3, [], 1, 0, []), (32, .goto (-30), 3, [2], 0, 0, []), (35, .iconst (1), 1, [], 1, 0, []), (36, .ireturn, 1, [], 0, 0, [])]
def wX9_isInGreibach : List si_row := [(0, .iconst (1), 1, [], 1, 0, []), (1, .istore_n 1, 1, [], 0, 0, []), (2, .iconst (0), 1, [], 0, 0, []), (3, .istore_n 2, 1, [], 0, 0, []), (4, .iload_n 2, 1, [], 0, 0, [3]), (5, .aload_n 0, 1, [], 0, 0, []), (6, .getfield 107, 3, [8, 1, 942], 0, 0, []), (9, .if_icmp .ge (81), 3, [90], 0, 0, []), (12, .iload_n 1, 1, [], 0, 0, []), (13, .ifCond .eq (22), 3, [35], 0, 0, []), (16, .aload_n 0, 1, [], 0, 0, []), (17, .getfield 7, 3, [8, 0, 941], 0, 0, []), (20, .iload_n 2, 1, [], 0, 0, []), (21, .laload, 1, [], 0, 0, []), (22, .iconst (0), 1, [], 0, 0, []), (23, .invokestatic 56, 3, [50, 2, 1, 1089, 1090, 99, 1091], 0, 0, []), (26, .bipush (16), 2, [], 16, 0, []), (28, .if_icmp .le (7), 3, [35], 0, 0, []), (31, .iconst (1), 1, [], 1, 0, []), (32, .goto (4), 3, [36], 0, 0, []), (35, .iconst (0), 1, [], 0, 0, []), (36, .istore_n 1, 1, [], 0, 0, []), (37, .iconst (1), 1, [], 1, 0, []), (38, .istore_n 3, 1, [], 0, 0, []), (39, .aload_n 0, 1, [], 0, 0, []), (40, .getfield 7, 3, [8, 0, 941], 0, 0, []), (43, .iload_n 2, 1, [], 0, 0, []), (44, .laload, 1, [], 0, 0, []), (45, .iload_n 3, 1, [], 0, 0, []), (46, .invokestatic 56, 3, [50, 2, 1, 1089, 1090, 99, 1091], 0, 0, []), (49, .ifCond .le (35), 3, [84], 0, 0, []), (52, .iload_n 1, 1, [], 0, 0, []), (53, .ifCond .eq (23), 3, [76], 0, 0, []), (56, .aload_n 0, 1, [], 0, 0, []), (57, .getfield 7, 3, [8, 0, 941], 0, 0, []), (60, .iload_n 2, 1, [], 0, 0, []), (61, .laload, 1, [], 0, 0, []), (62, .iload_n 3, 1, [], 0, 0, []), (63, .invokestatic 56, 3, [50, 2, 1, 1089, 1090, 99, 1091], 0, 0, []), (66, .invokestatic 64, 3, [15, 1, 1, 1059, 1060, 99, 1061], 0, 0, []), (69, .ifCond .eq (7), 3, [76], 0, 0, []), (72, .iconst (1), 1, [], 1, 0, []), (73, .goto (4), 3, [77], 0, 0, []), (76, .iconst (0), 1, [], 0, 0, []), (77, .istore_n 1, 1, [], 0, 0, []), (78, .iinc 3 (1), 3, [], 1, 0, []), (81, .goto (-42), 3, [39], 0, 0, []), (84, .iinc 2 (1), 3, [], 1, 0, []), (87, .goto (-83), 3, [4], 0, 0, []), (90, .iload_n 1, 1, [], 0, 0, []), (91, .ireturn, 1, [], 0, 0, [])]
def wX9_isGreibach : List si_row := [(0, .aload_n 0, 1, [], 0, 0, []), (1, .invokevirtual 224, 3, [144, 0, 1, 8, 1247, 1249, 99, 1250, 67], 0, 0, []), (4, .ifCond .eq (7), 3, [11], 0, 0, []), (7, .iconst (1), 1, [], 1, 0, []), (8, .goto (4), 3, [12], 0, 0, []), (11, .iconst (0), 1, [], 0, 0, []), (12, .ireturn, 1, [], 0, 0, [])]
def wX2_copyFrom : List si_row := [(0, .aload_n 1, 1, [], 0, 0, []), (1, .getfield 11, 3, [2, 0, 134], 0, 0, []), (4, .iconst (0), 1, [], 0, 0, []), (5, .aload_n 0, 1, [], 0, 0, []), (6, .getfield 11, 3, [2, 0, 134], 0, 0, []), (9, .iconst (0), 1, [], 0, 0, []), (10, .aload_n 1, 1, [], 0, 0, []), (11, .getfield 15, 3, [2, 1, 135], 0, 0, []), (14, .invokestatic 27, 3, [335, 337, 336, 101], 0, 0, []), (17, .aload_n 0, 1, [], 0, 0, []), (18, .aload_n 1, 1, [], 0, 0, []), (19, .getfield 15, 3, [2, 1, 135], 0, 0, []), (22, .putfield 15, 3, [2, 1, 135], 0, 0, []), (25, .aload_n 0, 1, [], 0, 0, []), (26, .aload_n 1, 1, [], 0, 0, []), (27, .getfield 19, 3, [2, 2, 136], 0, 0, []), (30, .putfield 19, 3, [2, 2, 136], 0, 0, []), (33, .return_, 1, [], 0, 0, [])]
def wX7_begin : List si_row := [(0, .aload_n 0, 1, [], 0, 0, []), (1, .getfield 14, 3, [6, 0, 235], 0, 0, []), (4, .aload_n 1, 1, [], 0, 0, []), (5, .invokevirtual 23, 3, [146, 1, 0, 2, 660, 661, 93, 663, 662], 0, 0, []), (8, .return_, 1, [], 0, 0, [])]
def wX7_beginStep : List si_row := [(0, .aload_n 0, 1, [], 0, 0, []), (1, .getfield 20, 3, [6, 1, 236], 0, 0, []), (4, .aload_n 0, 1, [], 0, 0, []), (5, .getfield 14, 3, [6, 0, 235], 0, 0, []), (8, .invokevirtual 23, 3, [146, 1, 0, 2, 660, 661, 93, 663, 662], 0, 0, []), (11, .aload_n 0, 1, [], 0, 0, []), (12, .getfield 14, 3, [6, 0, 235], 0, 0, []), (15, .invokevirtual 35, 3, [22, 0, 0, 2, 673, 320, 93, 322, 321], 0, 0, []), (18, .return_, 1, [], 0, 0, [])]
def wX7_dropUseless : List si_row := [(0, .aload_n 0, 1, [], 0, 0, []), (1, .getfield 14, 3, [6, 0, 235], 0, 0, []), (4, .invokevirtual 38, 3, [99, 0, 1, 2, 668, 538, 93, 540, 539], 0, 0, []), (7, .istore_n 2, 1, [], 0, 0, []), (8, .aload_n 0, 1, [], 0, 0, []), (9, .invokevirtual 41, 3, [148, 0, 0, 6, 669, 671, 98, 672, 20], 0, 0, []), (12, .iconst (0), 1, [], 0, 0, []), (13, .istore_n 3, 1, [], 0, 0, []), (14, .iload_n 3, 1, [], 0, 0, [4, 5, 6]), (15, .aload_n 0, 1, [], 0, 0, []), (16, .getfield 20, 3, [6, 1, 236], 0, 0, []), (19, .invokevirtual 31, 3, [30, 0, 1, 2, 674, 350, 93, 352, 351], 0, 0, []), (22, .if_icmp .ge (41), 3, [63], 0, 0, []), (25, .aload_n 0, 1, [], 0, 0, []), (26, .getfield 20, 3, [6, 1, 236], 0, 0, []), (29, .iload_n 3, 1, [], 0, 0, []), (30, .invokevirtual 44, 3, [38, 1, 2, 2, 675, 386, 93, 388, 387], 0, 0, []), (33, .lstore 4, 2, [], 0, 0, []), (35, .lload 4, 2, [], 0, 0, []), (37, .iconst (0), 1, [], 0, 0, []), (38, .iload_n 2, 1, [], 0, 0, []), (39, .ldc 48, 2, [676], 16711680, 0, []), (41, .ior, 1, [], 0, 0, []), (42, .invokestatic 49, 3, [91, 3, 1, 677, 529, 100, 530], 0, 0, []), (45, .ifCond .eq (12), 3, [57], 0, 0, []), (48, .aload_n 0, 1, [], 0, 0, []), (49, .getfield 14, 3, [6, 0, 235], 0, 0, []), (52, .lload 4, 2, [], 0, 0, []), (54, .invokevirtual 53, 3, [25, 1, 0, 2, 678, 327, 93, 329, 328], 0, 0, []), (57, .iinc 3 (1), 3, [], 1, 0, []), (60, .goto (-46), 3, [14], 0, 0, []), (63, .aload_n 1, 1, [], 0, 0, []), (64, .aload_n 0, 1, [], 0, 0, []), (65, .getfield 14, 3, [6, 0, 235], 0, 0, []), (68, .invokevirtual 57, 3, [103, 1, 0, 1, 679, 547, 94, 549, 548], 0, 0, []), (71, .aload_n 1, 1, [], 0, 0, []), (72, .iconst (0), 1, [], 0, 0, []), (73, .invokevirtual 62, 3, [104, 1, 1, 1, 680, 552, 94, 554, 553], 0, 0, []), (76, .istore_n 3, 1, [], 0, 0, []), (77, .aload_n 0, 1, [], 0, 0, []), (78, .invokevirtual 41, 3, [148, 0, 0, 6, 669, 671, 98, 672, 20], 0, 0, []), (81, .iconst (0), 1, [], 0, 0, []), (82, .istore 4, 2, [], 0, 0, []), (84, .iload 4, 2, [], 0, 0, [1, 2, 5, 6]), (86, .aload_n 0, 1, [], 0, 0, []), (87, .getfield 20, 3, [6, 1, 236], 0, 0, []), (90, .invokevirtual 31, 3, [30, 0, 1, 2, 674, 350, 93, 352, 351], 0, 0, []), (93, .if_icmp .ge (41), 3, [134], 0, 0, []), (96, .aload_n 0, 1, [], 0, 0, []), (97, .getfield 20, 3, [6, 1, 236], 0, 0, []), (100, .iload 4, 2, [], 0, 0, []), (102, .invokevirtual 44, 3, [38, 1, 2, 2, 675, 386, 93, 388, 387], 0, 0, []), (105, .lstore 5, 2, [], 0, 0, []), (107, .iload_n 3, 1, [], 0, 0, []), (108, .lload 5, 2, [], 0, 0, []), (110, .invokestatic 66, 3, [39, 1, 1, 681, 394, 100, 395], 0, 0, []), (113, .invokestatic 70, 3, [57, 2, 1, 682, 451, 91, 452], 0, 0, []), (116, .ifCond .eq (12), 3, [128], 0, 0, []), (119, .aload_n 0, 1, [], 0, 0, []), (120, .getfield 14, 3, [6, 0, 235], 0, 0, []), (123, .lload 5, 2, [], 0, 0, []), (125, .invokevirtual 53, 3, [25, 1, 0, 2, 678, 327, 93, 329, 328], 0, 0, []), (128, .iinc 4 (1), 3, [], 1, 0, []), (131, .goto (-47), 3, [84], 0, 0, []), (134, .return_, 1, [], 0, 0, [])]
def wX2_isTooLarge : List si_row := [(0, .aload_n 0, 1, [], 0, 0, []), (1, .getfield 19, 3, [2, 2, 136], 0, 0, []), (4, .ireturn, 1, [], 0, 0, [])]
def wX7_finish : List si_row := [(0, .aload_n 0, 1, [], 0, 0, []), (1, .getfield 14, 3, [6, 0, 235], 0, 0, []), (4, .invokevirtual 27, 3, [150, 0, 1, 2, 687, 688, 93, 690, 689], 0, 0, []), (7, .ifCond .eq (6), 3, [13], 0, 0, []), (10, .bipush (-7), 2, [], -7, 0, []), (12, .ireturn, 1, [], 0, 0, []), (13, .aload_n 1, 1, [], 0, 0, []), (14, .aload_n 0, 1, [], 0, 0, []), (15, .getfield 14, 3, [6, 0, 235], 0, 0, []), (18, .invokevirtual 23, 3, [146, 1, 0, 2, 660, 661, 93, 663, 662], 0, 0, []), (21, .aload_n 1, 1, [], 0, 0, []), (22, .invokevirtual 31, 3, [30, 0, 1, 2, 674, 350, 93, 352, 351], 0, 0, []), (25, .ireturn, 1, [], 0, 0, [])]
def wX8_removeUseless : List si_row := [(0, .aload_n 0, 1, [], 0, 0, []), (1, .getfield 19, 3, [7, 1, 243], 0, 0, []), (4, .invokevirtual 87, 3, [30, 0, 1, 2, 349, 350, 93, 352, 351], 0, 0, []), (7, .istore_n 1, 1, [], 0, 0, []), (8, .aload_n 0, 1, [], 0, 0, []), (9, .getfield 61, 3, [7, 8, 250], 0, 0, []), (12, .aload_n 0, 1, [], 0, 0, []), (13, .getfield 19, 3, [7, 1, 243], 0, 0, []), (16, .invokevirtual 180, 3, [147, 1, 0, 6, 656, 657, 98, 659, 658], 0, 0, []), (19, .aload_n 0, 1, [], 0, 0, []), (20, .getfield 61, 3, [7, 8, 250], 0, 0, []), (23, .aload_n 0, 1, [], 0, 0, []), (24, .getfield 33, 3, [7, 4, 246], 0, 0, []), (27, .invokevirtual 183, 3, [149, 1, 0, 6, 664, 665, 98, 667, 666], 0, 0, []), (30, .aload_n 0, 1, [], 0, 0, []), (31, .getfield 61, 3, [7, 8, 250], 0, 0, []), (34, .aload_n 0, 1, [], 0, 0, []), (35, .getfield 19, 3, [7, 1, 243], 0, 0, []), (38, .invokevirtual 187, 3, [151, 1, 1, 6, 683, 684, 98, 686, 685], 0, 0, []), (41, .pop, 1, [], 0, 0, []), (42, .iload_n 1, 1, [], 0, 0, []), (43, .aload_n 0, 1, [], 0, 0, []), (44, .getfield 19, 3, [7, 1, 243], 0, 0, []), (47, .invokevirtual 87, 3, [30, 0, 1, 2, 349, 350, 93, 352, 351], 0, 0, []), (50, .isub, 1, [], 0, 0, []), (51, .ireturn, 1, [], 0, 0, [])]
def wX9_start : List si_row := [(0, .aload_n 0, 1, [], 0, 0, []), (1, .aload_n 0, 1, [], 0, 0, []), (2, .getfield 107, 3, [8, 1, 942], 0, 0, []), (5, .putfield 227, 3, [8, 26, 967], 0, 0, []), (8, .iconst (0), 1, [], 0, 0, []), (9, .istore_n 1, 1, [], 0, 0, []), (10, .iload_n 1, 1, [], 0, 0, []), (11, .aload_n 0, 1, [], 0, 0, []), (12, .getfield 107, 3, [8, 1, 942], 0, 0, []), (15, .if_icmp .ge (21), 3, [36], 0, 0, []), (18, .aload_n 0, 1, [], 0, 0, []), (19, .getfield 53, 3, [8, 25, 966], 0, 0, []), (22, .iload_n 1, 1, [], 0, 0, []), (23, .aload_n 0, 1, [], 0, 0, []), (24, .getfield 7, 3, [8, 0, 941], 0, 0, []), (27, .iload_n 1, 1, [], 0, 0, []), (28, .laload, 1, [], 0, 0, []), (29, .lastore, 1, [], 0, 0, []), (30, .iinc 1 (1), 3, [], 1, 0, []), (33, .goto (-23), 3, [10], 0, 0, []), (36, .aload_n 0, 1, [], 0, 0, []), (37, .iconst (0), 1, [], 0, 0, []), (38, .putfield 230, 3, [8, 27, 968], 0, 0, []), (41, .return_, 1, [], 0, 0, [])]
def wX9_step : List si_row := [(0, .aload_n 0, 1, [], 0, 0, []), (1, .aload_n 0, 1, [], 0, 0, []), (2, .getfield 230, 3, [8, 27, 968], 0, 0, []), (5, .ifCond .ne (10), 3, [15], 0, 0, []), (8, .aload_n 0, 1, [], 0, 0, []), (9, .getfield 110, 3, [8, 12, 953], 0, 0, []), (12, .ifCond .eq (7), 3, [19], 0, 0, []), (15, .iconst (1), 1, [], 1, 0, []), (16, .goto (4), 3, [20], 0, 0, []), (19, .iconst (0), 1, [], 0, 0, []), (20, .putfield 230, 3, [8, 27, 968], 0, 0, []), (23, .aload_n 0, 1, [], 0, 0, []), (24, .aload_n 0, 1, [], 0, 0, []), (25, .getfield 104, 3, [8, 11, 952], 0, 0, []), (28, .putfield 227, 3, [8, 26, 967], 0, 0, []), (31, .iconst (0), 1, [], 0, 0, []), (32, .istore_n 1, 1, [], 0, 0, []), (33, .iload_n 1, 1, [], 0, 0, []), (34, .aload_n 0, 1, [], 0, 0, []), (35, .getfield 104, 3, [8, 11, 952], 0, 0, []), (38, .if_icmp .ge (21), 3, [59], 0, 0, []), (41, .aload_n 0, 1, [], 0, 0, []), (42, .getfield 53, 3, [8, 25, 966], 0, 0, []), (45, .iload_n 1, 1, [], 0, 0, []), (46, .aload_n 0, 1, [], 0, 0, []), (47, .getfield 20, 3, [8, 10, 951], 0, 0, []), (50, .iload_n 1, 1, [], 0, 0, []), (51, .laload, 1, [], 0, 0, []), (52, .lastore, 1, [], 0, 0, []), (53, .iinc 1 (1), 3, [], 1, 0, []), (56, .goto (-23), 3, [33], 0, 0, []), (59, .return_, 1, [], 0, 0, [])]
def wX9_finish : List si_row := [(0, .aload_n 0, 1, [], 0, 0, []), (1, .getfield 230, 3, [8, 27, 968], 0, 0, []), (4, .ifCond .eq (6), 3, [10], 0, 0, []), (7, .bipush (-7), 2, [], -7, 0, []), (9, .ireturn, 1, [], 0, 0, []), (10, .aload_n 0, 1, [], 0, 0, []), (11, .aload_n 0, 1, [], 0, 0, []), (12, .getfield 227, 3, [8, 26, 967], 0, 0, []), (15, .putfield 107, 3, [8, 1, 942], 0, 0, []), (18, .iconst (0), 1, [], 0, 0, []), (19, .istore_n 1, 1, [], 0, 0, []), (20, .iload_n 1, 1, [], 0, 0, []), (21, .aload_n 0, 1, [], 0, 0, []), (22, .getfield 107, 3, [8, 1, 942], 0, 0, []), (25, .if_icmp .ge (21), 3, [46], 0, 0, []), (28, .aload_n 0, 1, [], 0, 0, []), (29, .getfield 7, 3, [8, 0, 941], 0, 0, []), (32, .iload_n 1, 1, [], 0, 0, []), (33, .aload_n 0, 1, [], 0, 0, []), (34, .getfield 53, 3, [8, 25, 966], 0, 0, []), (37, .iload_n 1, 1, [], 0, 0, []), (38, .laload, 1, [], 0, 0, []), (39, .lastore, 1, [], 0, 0, []), (40, .iinc 1 (1), 3, [], 1, 0, []), (43, .goto (-23), 3, [20], 0, 0, []), (46, .aload_n 0, 1, [], 0, 0, []), (47, .getfield 107, 3, [8, 1, 942], 0, 0, []), (50, .ireturn, 1, [], 0, 0, [])]
def wX9_removeUseless : List si_row := [(0, .aload_n 0, 1, [], 0, 0, []), (1, .getfield 107, 3, [8, 1, 942], 0, 0, []), (4, .istore_n 1, 1, [], 0, 0, []), (5, .aload_n 0, 1, [], 0, 0, []), (6, .invokevirtual 177, 3, [101, 0, 1, 8, 1173, 1175, 99, 1176, 58], 0, 0, []), (9, .istore_n 2, 1, [], 0, 0, []), (10, .aload_n 0, 1, [], 0, 0, []), (11, .invokevirtual 233, 3, [153, 0, 0, 8, 1255, 1257, 99, 1258, 68], 0, 0, []), (14, .aload_n 0, 1, [], 0, 0, []), (15, .invokevirtual 94, 3, [13, 0, 0, 8, 1048, 1050, 99, 1051, 41], 0, 0, []), (18, .iconst (0), 1, [], 0, 0, []), (19, .istore_n 3, 1, [], 0, 0, []), (20, .iload_n 3, 1, [], 0, 0, [4]), (21, .aload_n 0, 1, [], 0, 0, []), (22, .getfield 227, 3, [8, 26, 967], 0, 0, []), (25, .if_icmp .ge (51), 3, [76], 0, 0, []), (28, .iload_n 2, 1, [], 0, 0, []), (29, .aload_n 0, 1, [], 0, 0, []), (30, .getfield 53, 3, [8, 25, 966], 0, 0, []), (33, .iload_n 3, 1, [], 0, 0, []), (34, .laload, 1, [], 0, 0, []), (35, .invokestatic 90, 3, [17, 1, 1, 1066, 1067, 99, 1068], 0, 0, []), (38, .ishr, 1, [], 0, 0, []), (39, .iconst (1), 1, [], 1, 0, []), (40, .iand, 1, [], 0, 0, []), (41, .iconst (1), 1, [], 1, 0, []), (42, .if_icmp .ne (28), 3, [70], 0, 0, []), (45, .aload_n 0, 1, [], 0, 0, []), (46, .getfield 53, 3, [8, 25, 966], 0, 0, []), (49, .iload_n 3, 1, [], 0, 0, []), (50, .laload, 1, [], 0, 0, []), (51, .iconst (0), 1, [], 0, 0, []), (52, .iload_n 2, 1, [], 0, 0, []), (53, .iconst (1), 1, [], 1, 0, []), (54, .invokestatic 166, 3, [95, 4, 1, 1166, 1167, 99, 1168], 0, 0, []), (57, .ifCond .eq (13), 3, [70], 0, 0, []), (60, .aload_n 0, 1, [], 0, 0, []), (61, .aload_n 0, 1, [], 0, 0, []), (62, .getfield 53, 3, [8, 25, 966], 0, 0, []), (65, .iload_n 3, 1, [], 0, 0, []), (66, .laload, 1, [], 0, 0, []), (67, .invokevirtual 86, 3, [16, 1, 0, 8, 1062, 1064, 99, 1065, 43], 0, 0, []), (70, .iinc 3 (1), 3, [], 1, 0, []), (73, .goto (-53), 3, [20], 0, 0, []), (76, .aload_n 0, 1, [], 0, 0, []), (77, .invokevirtual 236, 3, [154, 0, 0, 8, 1259, 1261, 99, 1262, 69], 0, 0, []), (80, .aload_n 0, 1, [], 0, 0, []), (81, .getfield 53, 3, [8, 25, 966], 0, 0, []), (84, .aload_n 0, 1, [], 0, 0, []), (85, .getfield 227, 3, [8, 26, 967], 0, 0, []), (88, .invokestatic 180, 3, [106, 2, 1, 1181, 1182, 99, 1183], 0, 0, []), (91, .istore_n 3, 1, [], 0, 0, []), (92, .aload_n 0, 1, [], 0, 0, []), (93, .invokevirtual 94, 3, [13, 0, 0, 8, 1048, 1050, 99, 1051, 41], 0, 0, []), (96, .iconst (0), 1, [], 0, 0, []), (97, .istore 4, 2, [], 0, 0, []), (99, .iload 4, 2, [], 0, 0, [2]), (101, .aload_n 0, 1, [], 0, 0, []), (102, .getfield 227, 3, [8, 26, 967], 0, 0, []), (105, .if_icmp .ge (38), 3, [143], 0, 0, []), (108, .iload_n 3, 1, [], 0, 0, []), (109, .aload_n 0, 1, [], 0, 0, []), (110, .getfield 53, 3, [8, 25, 966], 0, 0, []), (113, .iload 4, 2, [], 0, 0, []), (115, .laload, 1, [], 0, 0, []), (116, .invokestatic 90, 3, [17, 1, 1, 1066, 1067, 99, 1068], 0, 0, []), (119, .ishr, 1, [], 0, 0, []), (120, .iconst (1), 1, [], 1, 0, []), (121, .iand, 1, [], 0, 0, []), (122, .iconst (1), 1, [], 1, 0, []), (123, .if_icmp .ne (14), 3, [137], 0, 0, []), (126, .aload_n 0, 1, [], 0, 0, []), (127, .aload_n 0, 1, [], 0, 0, []), (128, .getfield 53, 3, [8, 25, 966], 0, 0, []), (131, .iload 4, 2, [], 0, 0, []), (133, .laload, 1, [], 0, 0, []), (134, .invokevirtual 86, 3, [16, 1, 0, 8, 1062, 1064, 99, 1065, 43], 0, 0, []), (137, .iinc 4 (1), 3, [], 1, 0, []), (140, .goto (-41), 3, [99], 0, 0, []), (143, .aload_n 0, 1, [], 0, 0, []), (144, .invokevirtual 236, 3, [154, 0, 0, 8, 1259, 1261, 99, 1262, 69], 0, 0, []), (147, .iload_n 1, 1, [], 0, 0, []), (148, .aload_n 0, 1, [], 0, 0, []), (149, .invokevirtual 239, 3, [155, 0, 1, 8, 1263, 1265, 99, 1266, 70], 0, 0, []), (152, .isub, 1, [], 0, 0, []), (153, .ireturn, 1, [], 0, 0, [])]
def wJ6_bitCount_0f7a4 : List si_row := [(0, .iload_n 0, 1, [], 0, 0, []), (1, .iload_n 0, 1, [], 0, 0, []), (2, .iconst (1), 1, [], 1, 0, []), (3, .iushr, 1, [], 0, 0, []), (4, .ldc_w 265, 3, [709], 1431655765, 0, []), (7, .iand, 1, [], 0, 0, []), (8, .isub, 1, [], 0, 0, []), (9, .istore_n 0, 1, [], 0, 0, []), (10, .iload_n 0, 1, [], 0, 0, []), (11, .ldc_w 266, 3, [710], 858993459, 0, []), (14, .iand, 1, [], 0, 0, []), (15, .iload_n 0, 1, [], 0, 0, []), (16, .iconst (2), 1, [], 2, 0, []), (17, .iushr, 1, [], 0, 0, []), (18, .ldc_w 266, 3, [710], 858993459, 0, []), (21, .iand, 1, [], 0, 0, []), (22, .iadd, 1, [], 0, 0, []), (23, .istore_n 0, 1, [], 0, 0, []), (24, .iload_n 0, 1, [], 0, 0, []), (25, .iload_n 0, 1, [], 0, 0, []), (26, .iconst (4), 1, [], 4, 0, []), (27, .iushr, 1, [], 0, 0, []), (28, .iadd, 1, [], 0, 0, []), (29, .ldc_w 267, 3, [711], 252645135, 0, []), (32, .iand, 1, [], 0, 0, []), (33, .istore_n 0, 1, [], 0, 0, []), (34, .iload_n 0, 1, [], 0, 0, []), (35, .iload_n 0, 1, [], 0, 0, []), (36, .bipush (8), 2, [], 8, 0, []), (38, .iushr, 1, [], 0, 0, []), (39, .iadd, 1, [], 0, 0, []), (40, .istore_n 0, 1, [], 0, 0, []), (41, .iload_n 0, 1, [], 0, 0, []), (42, .iload_n 0, 1, [], 0, 0, []), (43, .bipush (16), 2, [], 16, 0, []), (45, .iushr, 1, [], 0, 0, []), (46, .iadd, 1, [], 0, 0, []), (47, .istore_n 0, 1, [], 0, 0, []), (48, .iload_n 0, 1, [], 0, 0, []), (49, .bipush (63), 2, [], 63, 0, []), (51, .iand, 1, [], 0, 0, []), (52, .ireturn, 1, [], 0, 0, [])]
def wX5_thinned : List si_row := [(0, .lload_n 0, 1, [], 0, 0, []), (1, .invokestatic 21, 3, [39, 1, 1, 715, 394, 100, 395], 0, 0, []), (4, .invokestatic 24, 3, [23, 1, 2, 716, 324, 100, 325], 0, 0, []), (7, .lstore_n 3, 1, [], 0, 0, []), (8, .lload_n 0, 1, [], 0, 0, []), (9, .invokestatic 13, 3, [27, 1, 1, 345, 346, 100, 347], 0, 0, []), (12, .istore 5, 2, [], 0, 0, []), (14, .iconst (0), 1, [], 0, 0, []), (15, .istore 6, 2, [], 0, 0, []), (17, .iload 6, 2, [], 0, 0, [1, 4]), (19, .iload 5, 2, [], 0, 0, []), (21, .if_icmp .ge (29), 3, [50], 0, 0, []), (24, .iload_n 2, 1, [], 0, 0, []), (25, .iload 6, 2, [], 0, 0, []), (27, .iushr, 1, [], 0, 0, []), (28, .iconst (1), 1, [], 1, 0, []), (29, .iand, 1, [], 0, 0, []), (30, .ifCond .ne (14), 3, [44], 0, 0, []), (33, .lload_n 3, 1, [], 0, 0, []), (34, .lload_n 0, 1, [], 0, 0, []), (35, .iload 6, 2, [], 0, 0, []), (37, .invokestatic 28, 3, [40, 2, 1, 440, 402, 100, 403], 0, 0, []), (40, .invokestatic 32, 3, [28, 2, 2, 717, 343, 100, 344], 0, 0, []), (43, .lstore_n 3, 1, [], 0, 0, []), (44, .iinc 6 (1), 3, [], 1, 0, []), (47, .goto (-30), 3, [17], 0, 0, []), (50, .lload_n 3, 1, [], 0, 0, []), (51, .lreturn, 1, [], 0, 0, [])]
def wX7_addThinned : List si_row := [(0, .iconst (0), 1, [], 0, 0, []), (1, .istore 4, 2, [], 0, 0, []), (3, .lload_n 1, 1, [], 0, 0, []), (4, .invokestatic 81, 3, [27, 1, 1, 704, 346, 100, 347], 0, 0, []), (7, .istore 5, 2, [], 0, 0, []), (9, .iconst (0), 1, [], 0, 0, []), (10, .istore 6, 2, [], 0, 0, []), (12, .iload 6, 2, [], 0, 0, [2]), (14, .iload 5, 2, [], 0, 0, []), (16, .if_icmp .ge (31), 3, [47], 0, 0, []), (19, .iload_n 3, 1, [], 0, 0, []), (20, .lload_n 1, 1, [], 0, 0, []), (21, .iload 6, 2, [], 0, 0, []), (23, .invokestatic 84, 3, [40, 2, 1, 705, 402, 100, 403], 0, 0, []), (26, .invokestatic 70, 3, [57, 2, 1, 682, 451, 91, 452], 0, 0, []), (29, .ifCond .eq (12), 3, [41], 0, 0, []), (32, .iload 4, 2, [], 0, 0, []), (34, .iconst (1), 1, [], 1, 0, []), (35, .iload 6, 2, [], 0, 0, []), (37, .ishl, 1, [], 0, 0, []), (38, .ior, 1, [], 0, 0, []), (39, .istore 4, 2, [], 0, 0, []), (41, .iinc 6 (1), 3, [], 1, 0, []), (44, .goto (-32), 3, [12], 0, 0, []), (47, .iconst (0), 1, [], 0, 0, []), (48, .istore 6, 2, [], 0, 0, []), (50, .iload 6, 2, [], 0, 0, [2, 3]), (52, .sipush (256), 3, [], 256, 0, []), (55, .if_icmp .ge (52), 3, [107], 0, 0, []), (58, .aload_n 0, 1, [], 0, 0, []), (59, .getfield 14, 3, [6, 0, 235], 0, 0, []), (62, .invokevirtual 27, 3, [150, 0, 1, 2, 687, 688, 93, 690, 689], 0, 0, []), (65, .ifCond .ne (42), 3, [107], 0, 0, []), (68, .iload 6, 2, [], 0, 0, []), (70, .iload 4, 2, [], 0, 0, []), (72, .iconst (-1), 1, [], -1, 0, []), (73, .ixor, 1, [], 0, 0, []), (74, .iand, 1, [], 0, 0, []), (75, .ifCond .ne (26), 3, [101], 0, 0, []), (78, .iload 6, 2, [], 0, 0, []), (80, .invokestatic 88, 3, [157, 1, 1, 706, 707, 104, 708], 0, 0, []), (83, .iload 5, 2, [], 0, 0, []), (85, .if_icmp .ge (16), 3, [101], 0, 0, []), (88, .aload_n 0, 1, [], 0, 0, []), (89, .getfield 14, 3, [6, 0, 235], 0, 0, []), (92, .lload_n 1, 1, [], 0, 0, []), (93, .iload 6, 2, [], 0, 0, []), (95, .invokestatic 93, 3, [158, 2, 2, 712, 713, 100, 714], 0, 0, []), (98, .invokevirtual 53, 3, [25, 1, 0, 2, 678, 327, 93, 329, 328], 0, 0, []), (101, .iinc 6 (1), 3, [], 1, 0, []), (104, .goto (-54), 3, [50], 0, 0, []), (107, .return_, 1, [], 0, 0, [])]
def wX7_dropEmpty : List si_row := [(0, .aload_n 0, 1, [], 0, 0, []), (1, .getfield 14, 3, [6, 0, 235], 0, 0, []), (4, .invokevirtual 74, 3, [93, 0, 1, 2, 699, 521, 93, 523, 522], 0, 0, []), (7, .istore_n 1, 1, [], 0, 0, []), (8, .aload_n 0, 1, [], 0, 0, []), (9, .invokevirtual 41, 3, [148, 0, 0, 6, 669, 671, 98, 672, 20], 0, 0, []), (12, .iconst (0), 1, [], 0, 0, []), (13, .istore_n 2, 1, [], 0, 0, []), (14, .iload_n 2, 1, [], 0, 0, []), (15, .aload_n 0, 1, [], 0, 0, []), (16, .getfield 20, 3, [6, 1, 236], 0, 0, []), (19, .invokevirtual 31, 3, [30, 0, 1, 2, 674, 350, 93, 352, 351], 0, 0, []), (22, .if_icmp .ge (32), 3, [54], 0, 0, []), (25, .aload_n 0, 1, [], 0, 0, []), (26, .getfield 14, 3, [6, 0, 235], 0, 0, []), (29, .invokevirtual 27, 3, [150, 0, 1, 2, 687, 688, 93, 690, 689], 0, 0, []), (32, .ifCond .ne (22), 3, [54], 0, 0, []), (35, .aload_n 0, 1, [], 0, 0, []), (36, .aload_n 0, 1, [], 0, 0, []), (37, .getfield 20, 3, [6, 1, 236], 0, 0, []), (40, .iload_n 2, 1, [], 0, 0, []), (41, .invokevirtual 44, 3, [38, 1, 2, 2, 675, 386, 93, 388, 387], 0, 0, []), (44, .iload_n 1, 1, [], 0, 0, []), (45, .invokevirtual 77, 3, [159, 2, 0, 6, 700, 702, 98, 703, 21], 0, 0, []), (48, .iinc 2 (1), 3, [], 1, 0, []), (51, .goto (-37), 3, [14], 0, 0, []), (54, .return_, 1, [], 0, 0, [])]
def wX8_removeEmpty : List si_row := [(0, .aload_n 0, 1, [], 0, 0, []), (1, .getfield 61, 3, [7, 8, 250], 0, 0, []), (4, .aload_n 0, 1, [], 0, 0, []), (5, .getfield 19, 3, [7, 1, 243], 0, 0, []), (8, .invokevirtual 180, 3, [147, 1, 0, 6, 656, 657, 98, 659, 658], 0, 0, []), (11, .aload_n 0, 1, [], 0, 0, []), (12, .getfield 61, 3, [7, 8, 250], 0, 0, []), (15, .invokevirtual 191, 3, [160, 0, 0, 6, 695, 696, 98, 698, 697], 0, 0, []), (18, .aload_n 0, 1, [], 0, 0, []), (19, .getfield 61, 3, [7, 8, 250], 0, 0, []), (22, .aload_n 0, 1, [], 0, 0, []), (23, .getfield 19, 3, [7, 1, 243], 0, 0, []), (26, .invokevirtual 187, 3, [151, 1, 1, 6, 683, 684, 98, 686, 685], 0, 0, []), (29, .ireturn, 1, [], 0, 0, [])]
def wX9_putRow : List si_row := [(0, .aload_n 0, 1, [], 0, 0, []), (1, .getfield 114, 3, [8, 14, 955], 0, 0, []), (4, .bipush (8), 2, [], 8, 0, []), (6, .if_icmp .le (9), 3, [15], 0, 0, []), (9, .aload_n 0, 1, [], 0, 0, []), (10, .iconst (1), 1, [], 1, 0, []), (11, .putfield 110, 3, [8, 12, 953], 0, 0, []), (14, .return_, 1, [], 0, 0, []), (15, .iload_n 1, 1, [], 0, 0, []), (16, .i2l, 1, [], 0, 0, []), (17, .bipush (40), 2, [], 40, 0, []), (19, .lshl, 1, [], 0, 0, []), (20, .lstore_n 2, 1, [], 0, 0, []), (21, .iconst (0), 1, [], 0, 0, []), (22, .istore 4, 2, [], 0, 0, []), (24, .iload 4, 2, [], 0, 0, [1, 3]), (26, .aload_n 0, 1, [], 0, 0, []), (27, .getfield 114, 3, [8, 14, 955], 0, 0, []), (30, .if_icmp .ge (28), 3, [58], 0, 0, []), (33, .lload_n 2, 1, [], 0, 0, []), (34, .aload_n 0, 1, [], 0, 0, []), (35, .getfield 23, 3, [8, 13, 954], 0, 0, []), (38, .iload 4, 2, [], 0, 0, []), (40, .iaload, 1, [], 0, 0, []), (41, .i2l, 1, [], 0, 0, []), (42, .bipush (35), 2, [], 35, 0, []), (44, .iconst (5), 1, [], 5, 0, []), (45, .iload 4, 2, [], 0, 0, []), (47, .imul, 1, [], 0, 0, []), (48, .isub, 1, [], 0, 0, []), (49, .lshl, 1, [], 0, 0, []), (50, .lor, 1, [], 0, 0, []), (51, .lstore_n 2, 1, [], 0, 0, []), (52, .iinc 4 (1), 3, [], 1, 0, []), (55, .goto (-31), 3, [24], 0, 0, []), (58, .aload_n 0, 1, [], 0, 0, []), (59, .lload_n 2, 1, [], 0, 0, []), (60, .invokevirtual 86, 3, [16, 1, 0, 8, 1062, 1064, 99, 1065, 43], 0, 0, []), (63, .return_, 1, [], 0, 0, [])]
def wX9_putWithout : List si_row := [(0, .aload_n 0, 1, [], 0, 0, []), (1, .iconst (0), 1, [], 0, 0, []), (2, .putfield 114, 3, [8, 14, 955], 0, 0, []), (5, .iconst (0), 1, [], 0, 0, []), (6, .istore 5, 2, [], 0, 0, []), (8, .iconst (0), 1, [], 0, 0, []), (9, .istore 6, 2, [], 0, 0, []), (11, .lload_n 1, 1, [], 0, 0, [2, 7, 8, 9]), (12, .iload 6, 2, [], 0, 0, []), (14, .invokestatic 56, 3, [50, 2, 1, 1089, 1090, 99, 1091], 0, 0, []), (17, .ifCond .le (108), 3, [125], 0, 0, []), (20, .lload_n 1, 1, [], 0, 0, []), (21, .iload 6, 2, [], 0, 0, []), (23, .invokestatic 56, 3, [50, 2, 1, 1089, 1090, 99, 1091], 0, 0, []), (26, .istore 7, 2, [], 0, 0, []), (28, .iload 7, 2, [], 0, 0, []), (30, .invokestatic 64, 3, [15, 1, 1, 1059, 1060, 99, 1061], 0, 0, []), (33, .ifCond .eq (19), 3, [52], 0, 0, []), (36, .iload_n 3, 1, [], 0, 0, []), (37, .iload 7, 2, [], 0, 0, []), (39, .iconst (1), 1, [], 1, 0, []), (40, .isub, 1, [], 0, 0, []), (41, .ishr, 1, [], 0, 0, []), (42, .iconst (1), 1, [], 1, 0, []), (43, .iand, 1, [], 0, 0, []), (44, .iconst (1), 1, [], 1, 0, []), (45, .if_icmp .ne (7), 3, [52], 0, 0, []), (48, .iconst (1), 1, [], 1, 0, []), (49, .goto (4), 3, [53], 0, 0, []), (52, .iconst (0), 1, [], 0, 0, [2, 8, 9]), (53, .istore 8, 2, [], 0, 0, []), (55, .iload 8, 2, [], 0, 0, []), (57, .ifCond .eq (18), 3, [75], 0, 0, []), (60, .iload 4, 2, [], 0, 0, []), (62, .iload 5, 2, [], 0, 0, []), (64, .ishr, 1, [], 0, 0, []), (65, .iconst (1), 1, [], 1, 0, []), (66, .iand, 1, [], 0, 0, []), (67, .iconst (1), 1, [], 1, 0, []), (68, .if_icmp .ne (7), 3, [75], 0, 0, []), (71, .iconst (1), 1, [], 1, 0, []), (72, .goto (4), 3, [76], 0, 0, []), (75, .iconst (0), 1, [], 0, 0, [2, 9]), (76, .istore 9, 2, [], 0, 0, []), (78, .iload 5, 2, [], 0, 0, []), (80, .iload 8, 2, [], 0, 0, []), (82, .ifCond .eq (7), 3, [89], 0, 0, []), (85, .iconst (1), 1, [], 1, 0, []), (86, .goto (4), 3, [90], 0, 0, []), (89, .iconst (0), 1, [], 0, 0, []), (90, .iadd, 1, [], 0, 0, []), (91, .istore 5, 2, [], 0, 0, []), (93, .iload 9, 2, [], 0, 0, []), (95, .ifCond .ne (24), 3, [119], 0, 0, []), (98, .aload_n 0, 1, [], 0, 0, []), (99, .getfield 23, 3, [8, 13, 954], 0, 0, []), (102, .aload_n 0, 1, [], 0, 0, []), (103, .getfield 114, 3, [8, 14, 955], 0, 0, []), (106, .iload 7, 2, [], 0, 0, []), (108, .iastore, 1, [], 0, 0, []), (109, .aload_n 0, 1, [], 0, 0, []), (110, .dup, 1, [], 0, 0, []), (111, .getfield 114, 3, [8, 14, 955], 0, 0, []), (114, .iconst (1), 1, [], 1, 0, []), (115, .iadd, 1, [], 0, 0, []), (116, .putfield 114, 3, [8, 14, 955], 0, 0, []), (119, .iinc 6 (1), 3, [], 1, 0, [2, 7, 8, 9]), (122, .goto (-111), 3, [11], 0, 0, []), (125, .aload_n 0, 1, [], 0, 0, []), (126, .getfield 114, 3, [8, 14, 955], 0, 0, []), (129, .ifCond .le (11), 3, [140], 0, 0, []), (132, .aload_n 0, 1, [], 0, 0, []), (133, .lload_n 1, 1, [], 0, 0, []), (134, .invokestatic 90, 3, [17, 1, 1, 1066, 1067, 99, 1068], 0, 0, []), (137, .invokevirtual 242, 3, [162, 1, 0, 8, 1275, 1277, 99, 1278, 72], 0, 0, []), (140, .return_, 1, [], 0, 0, [0, 1, 2, 3, 4, 5, 6, 7, 8, 9])]
def wX9_removeEmpty : List si_row := [(0, .aload_n 0, 1, [], 0, 0, []), (1, .invokevirtual 174, 3, [97, 0, 1, 8, 1158, 1160, 99, 1161, 56], 0, 0, []), (4, .istore_n 1, 1, [], 0, 0, []), (5, .aload_n 0, 1, [], 0, 0, []), (6, .invokevirtual 233, 3, [153, 0, 0, 8, 1255, 1257, 99, 1258, 68], 0, 0, []), (9, .aload_n 0, 1, [], 0, 0, []), (10, .invokevirtual 94, 3, [13, 0, 0, 8, 1048, 1050, 99, 1051, 41], 0, 0, []), (13, .iconst (0), 1, [], 0, 0, []), (14, .istore_n 2, 1, [], 0, 0, []), (15, .iload_n 2, 1, [], 0, 0, [3, 4, 5]), (16, .aload_n 0, 1, [], 0, 0, []), (17, .getfield 227, 3, [8, 26, 967], 0, 0, []), (20, .if_icmp .ge (105), 3, [125], 0, 0, []), (23, .iconst (0), 1, [], 0, 0, []), (24, .istore_n 3, 1, [], 0, 0, []), (25, .iconst (0), 1, [], 0, 0, []), (26, .istore 4, 2, [], 0, 0, []), (28, .aload_n 0, 1, [], 0, 0, [5]), (29, .getfield 53, 3, [8, 25, 966], 0, 0, []), (32, .iload_n 2, 1, [], 0, 0, []), (33, .laload, 1, [], 0, 0, []), (34, .iload 4, 2, [], 0, 0, []), (36, .invokestatic 56, 3, [50, 2, 1, 1089, 1090, 99, 1091], 0, 0, []), (39, .ifCond .le (50), 3, [89], 0, 0, []), (42, .aload_n 0, 1, [], 0, 0, []), (43, .getfield 53, 3, [8, 25, 966], 0, 0, []), (46, .iload_n 2, 1, [], 0, 0, []), (47, .laload, 1, [], 0, 0, []), (48, .iload 4, 2, [], 0, 0, []), (50, .invokestatic 56, 3, [50, 2, 1, 1089, 1090, 99, 1091], 0, 0, []), (53, .istore 5, 2, [], 0, 0, []), (55, .iload_n 3, 1, [], 0, 0, []), (56, .iload 5, 2, [], 0, 0, []), (58, .invokestatic 64, 3, [15, 1, 1, 1059, 1060, 99, 1061], 0, 0, []), (61, .ifCond .eq (19), 3, [80], 0, 0, []), (64, .iload_n 1, 1, [], 0, 0, []), (65, .iload 5, 2, [], 0, 0, []), (67, .iconst (1), 1, [], 1, 0, []), (68, .isub, 1, [], 0, 0, []), (69, .ishr, 1, [], 0, 0, []), (70, .iconst (1), 1, [], 1, 0, []), (71, .iand, 1, [], 0, 0, []), (72, .iconst (1), 1, [], 1, 0, []), (73, .if_icmp .ne (7), 3, [80], 0, 0, []), (76, .iconst (1), 1, [], 1, 0, []), (77, .goto (4), 3, [81], 0, 0, []), (80, .iconst (0), 1, [], 0, 0, []), (81, .iadd, 1, [], 0, 0, []), (82, .istore_n 3, 1, [], 0, 0, []), (83, .iinc 4 (1), 3, [], 1, 0, []), (86, .goto (-58), 3, [28], 0, 0, []), (89, .iconst (0), 1, [], 0, 0, []), (90, .istore 4, 2, [], 0, 0, []), (92, .iload 4, 2, [], 0, 0, [5]), (94, .iconst (1), 1, [], 1, 0, []), (95, .iload_n 3, 1, [], 0, 0, []), (96, .ishl, 1, [], 0, 0, []), (97, .if_icmp .ge (22), 3, [119], 0, 0, []), (100, .aload_n 0, 1, [], 0, 0, []), (101, .aload_n 0, 1, [], 0, 0, []), (102, .getfield 53, 3, [8, 25, 966], 0, 0, []), (105, .iload_n 2, 1, [], 0, 0, []), (106, .laload, 1, [], 0, 0, []), (107, .iload_n 1, 1, [], 0, 0, []), (108, .iload 4, 2, [], 0, 0, []), (110, .invokevirtual 246, 3, [163, 3, 0, 8, 1271, 1273, 99, 1274, 71], 0, 0, []), (113, .iinc 4 (1), 3, [], 1, 0, []), (116, .goto (-24), 3, [92], 0, 0, []), (119, .iinc 2 (1), 3, [], 1, 0, []), (122, .goto (-107), 3, [15], 0, 0, []), (125, .aload_n 0, 1, [], 0, 0, []), (126, .invokevirtual 236, 3, [154, 0, 0, 8, 1259, 1261, 99, 1262, 69], 0, 0, []), (129, .aload_n 0, 1, [], 0, 0, []), (130, .invokevirtual 239, 3, [155, 0, 1, 8, 1263, 1265, 99, 1266, 70], 0, 0, []), (133, .ireturn, 1, [], 0, 0, [])]
def wX5_joined : List si_row := [(0, .lload_n 0, 1, [], 0, 0, []), (1, .invokestatic 13, 3, [27, 1, 1, 345, 346, 100, 347], 0, 0, []), (4, .istore 5, 2, [], 0, 0, []), (6, .lload_n 0, 1, [], 0, 0, []), (7, .ldc2_w 17, 3, [341], 0, -1, []), (10, .lcmp, 1, [], 0, 0, []), (11, .ifCond .eq (23), 3, [34], 0, 0, []), (14, .iload 4, 2, [], 0, 0, []), (16, .ifCond .lt (18), 3, [34], 0, 0, []), (19, .iload 5, 2, [], 0, 0, []), (21, .lload_n 2, 1, [], 0, 0, []), (22, .invokestatic 13, 3, [27, 1, 1, 345, 346, 100, 347], 0, 0, []), (25, .iadd, 1, [], 0, 0, []), (26, .iload 4, 2, [], 0, 0, []), (28, .isub, 1, [], 0, 0, []), (29, .bipush (8), 2, [], 8, 0, []), (31, .if_icmp .le (7), 3, [38], 0, 0, []), (34, .ldc2_w 17, 3, [341], 0, -1, []), (37, .lreturn, 1, [], 0, 0, []), (38, .lload_n 2, 1, [], 0, 0, []), (39, .iconst (5), 1, [], 5, 0, []), (40, .iload 4, 2, [], 0, 0, []), (42, .imul, 1, [], 0, 0, []), (43, .lshl, 1, [], 0, 0, []), (44, .ldc2_w 19, 3, [736], 0, 1099511627775, []), (47, .land, 1, [], 0, 0, []), (48, .lstore 6, 2, [], 0, 0, []), (50, .lload_n 0, 1, [], 0, 0, []), (51, .lload 6, 2, [], 0, 0, []), (53, .iconst (5), 1, [], 5, 0, []), (54, .iload 5, 2, [], 0, 0, []), (56, .imul, 1, [], 0, 0, []), (57, .lushr, 1, [], 0, 0, []), (58, .lor, 1, [], 0, 0, []), (59, .lreturn, 1, [], 0, 0, [])]
def wX7_addLent : List si_row := [(0, .iconst (0), 1, [], 0, 0, []), (1, .istore_n 3, 1, [], 0, 0, []), (2, .iload_n 3, 1, [], 0, 0, [4, 5]), (3, .aload_n 0, 1, [], 0, 0, []), (4, .getfield 20, 3, [6, 1, 236], 0, 0, []), (7, .invokevirtual 31, 3, [30, 0, 1, 2, 674, 350, 93, 352, 351], 0, 0, []), (10, .if_icmp .ge (56), 3, [66], 0, 0, []), (13, .aload_n 0, 1, [], 0, 0, []), (14, .getfield 20, 3, [6, 1, 236], 0, 0, []), (17, .iload_n 3, 1, [], 0, 0, []), (18, .invokevirtual 44, 3, [38, 1, 2, 2, 675, 386, 93, 388, 387], 0, 0, []), (21, .lstore 4, 2, [], 0, 0, []), (23, .iload_n 2, 1, [], 0, 0, []), (24, .lload 4, 2, [], 0, 0, []), (26, .invokestatic 66, 3, [39, 1, 1, 681, 394, 100, 395], 0, 0, []), (29, .invokestatic 70, 3, [57, 2, 1, 682, 451, 91, 452], 0, 0, []), (32, .ifCond .eq (28), 3, [60], 0, 0, []), (35, .lload 4, 2, [], 0, 0, []), (37, .invokestatic 104, 3, [55, 1, 1, 731, 438, 100, 439], 0, 0, []), (40, .ifCond .ne (20), 3, [60], 0, 0, []), (43, .aload_n 0, 1, [], 0, 0, []), (44, .getfield 14, 3, [6, 0, 235], 0, 0, []), (47, .iload_n 1, 1, [], 0, 0, []), (48, .invokestatic 108, 3, [23, 1, 2, 732, 324, 100, 325], 0, 0, []), (51, .lload 4, 2, [], 0, 0, []), (53, .iconst (0), 1, [], 0, 0, []), (54, .invokestatic 111, 3, [165, 3, 2, 733, 734, 100, 735], 0, 0, []), (57, .invokevirtual 53, 3, [25, 1, 0, 2, 678, 327, 93, 329, 328], 0, 0, []), (60, .iinc 3 (1), 3, [], 1, 0, []), (63, .goto (-61), 3, [2], 0, 0, []), (66, .return_, 1, [], 0, 0, [])]
def wX7_dropUnits : List si_row := [(0, .aload_n 1, 1, [], 0, 0, []), (1, .aload_n 0, 1, [], 0, 0, []), (2, .getfield 14, 3, [6, 0, 235], 0, 0, []), (5, .invokevirtual 97, 3, [59, 1, 0, 1, 726, 431, 94, 433, 432], 0, 0, []), (8, .aload_n 0, 1, [], 0, 0, []), (9, .invokevirtual 41, 3, [148, 0, 0, 6, 669, 671, 98, 672, 20], 0, 0, []), (12, .iconst (0), 1, [], 0, 0, []), (13, .istore_n 2, 1, [], 0, 0, []), (14, .iload_n 2, 1, [], 0, 0, []), (15, .bipush (16), 2, [], 16, 0, []), (17, .if_icmp .ge (29), 3, [46], 0, 0, []), (20, .aload_n 0, 1, [], 0, 0, []), (21, .getfield 14, 3, [6, 0, 235], 0, 0, []), (24, .invokevirtual 27, 3, [150, 0, 1, 2, 687, 688, 93, 690, 689], 0, 0, []), (27, .ifCond .ne (19), 3, [46], 0, 0, []), (30, .aload_n 0, 1, [], 0, 0, []), (31, .iload_n 2, 1, [], 0, 0, []), (32, .aload_n 1, 1, [], 0, 0, []), (33, .iload_n 2, 1, [], 0, 0, []), (34, .invokevirtual 62, 3, [104, 1, 1, 1, 680, 552, 94, 554, 553], 0, 0, []), (37, .invokevirtual 100, 3, [166, 2, 0, 6, 727, 729, 98, 730, 22], 0, 0, []), (40, .iinc 2 (1), 3, [], 1, 0, []), (43, .goto (-29), 3, [14], 0, 0, []), (46, .return_, 1, [], 0, 0, [])]
def wX8_removeUnits : List si_row := [(0, .aload_n 0, 1, [], 0, 0, []), (1, .getfield 61, 3, [7, 8, 250], 0, 0, []), (4, .aload_n 0, 1, [], 0, 0, []), (5, .getfield 19, 3, [7, 1, 243], 0, 0, []), (8, .invokevirtual 180, 3, [147, 1, 0, 6, 656, 657, 98, 659, 658], 0, 0, []), (11, .aload_n 0, 1, [], 0, 0, []), (12, .getfield 61, 3, [7, 8, 250], 0, 0, []), (15, .aload_n 0, 1, [], 0, 0, []), (16, .getfield 33, 3, [7, 4, 246], 0, 0, []), (19, .invokevirtual 194, 3, [167, 1, 0, 6, 722, 723, 98, 725, 724], 0, 0, []), (22, .aload_n 0, 1, [], 0, 0, []), (23, .getfield 61, 3, [7, 8, 250], 0, 0, []), (26, .aload_n 0, 1, [], 0, 0, []), (27, .getfield 19, 3, [7, 1, 243], 0, 0, []), (30, .invokevirtual 187, 3, [151, 1, 1, 6, 683, 684, 98, 686, 685], 0, 0, []), (33, .ireturn, 1, [], 0, 0, [])]
def wX9_addRow : List si_row := [(0, .iload_n 3, 1, [], 0, 0, []), (1, .istore 5, 2, [], 0, 0, []), (3, .iload 5, 2, [], 0, 0, [2, 3]), (5, .iload 4, 2, [], 0, 0, []), (7, .if_icmp .ge (34), 3, [41], 0, 0, []), (10, .aload_n 0, 1, [], 0, 0, []), (11, .getfield 23, 3, [8, 13, 954], 0, 0, []), (14, .aload_n 0, 1, [], 0, 0, []), (15, .getfield 114, 3, [8, 14, 955], 0, 0, []), (18, .lload_n 1, 1, [], 0, 0, []), (19, .iload 5, 2, [], 0, 0, []), (21, .invokestatic 56, 3, [50, 2, 1, 1089, 1090, 99, 1091], 0, 0, []), (24, .iastore, 1, [], 0, 0, []), (25, .aload_n 0, 1, [], 0, 0, []), (26, .dup, 1, [], 0, 0, []), (27, .getfield 114, 3, [8, 14, 955], 0, 0, []), (30, .iconst (1), 1, [], 1, 0, []), (31, .iadd, 1, [], 0, 0, []), (32, .putfield 114, 3, [8, 14, 955], 0, 0, []), (35, .iinc 5 (1), 3, [], 1, 0, []), (38, .goto (-35), 3, [3], 0, 0, []), (41, .return_, 1, [], 0, 0, [])]
def wX9_removeUnits : List si_row := [(0, .aload_n 0, 1, [], 0, 0, []), (1, .invokevirtual 190, 3, [78, 0, 0, 8, 1112, 1114, 99, 1115, 50], 0, 0, []), (4, .aload_n 0, 1, [], 0, 0, []), (5, .invokevirtual 233, 3, [153, 0, 0, 8, 1255, 1257, 99, 1258, 68], 0, 0, []), (8, .aload_n 0, 1, [], 0, 0, []), (9, .invokevirtual 94, 3, [13, 0, 0, 8, 1048, 1050, 99, 1051, 41], 0, 0, []), (12, .iconst (0), 1, [], 0, 0, []), (13, .istore_n 1, 1, [], 0, 0, []), (14, .iload_n 1, 1, [], 0, 0, [2, 3]), (15, .bipush (16), 2, [], 16, 0, []), (17, .if_icmp .ge (103), 3, [120], 0, 0, []), (20, .iconst (0), 1, [], 0, 0, []), (21, .istore_n 2, 1, [], 0, 0, []), (22, .iload_n 2, 1, [], 0, 0, [3]), (23, .aload_n 0, 1, [], 0, 0, []), (24, .getfield 227, 3, [8, 26, 967], 0, 0, []), (27, .if_icmp .ge (87), 3, [114], 0, 0, []), (30, .aload_n 0, 1, [], 0, 0, []), (31, .getfield 41, 3, [8, 21, 962], 0, 0, []), (34, .iload_n 1, 1, [], 0, 0, []), (35, .iaload, 1, [], 0, 0, []), (36, .iconst (1), 1, [], 1, 0, []), (37, .iload_n 1, 1, [], 0, 0, []), (38, .ishl, 1, [], 0, 0, []), (39, .ior, 1, [], 0, 0, []), (40, .aload_n 0, 1, [], 0, 0, []), (41, .getfield 53, 3, [8, 25, 966], 0, 0, []), (44, .iload_n 2, 1, [], 0, 0, []), (45, .laload, 1, [], 0, 0, []), (46, .invokestatic 90, 3, [17, 1, 1, 1066, 1067, 99, 1068], 0, 0, []), (49, .ishr, 1, [], 0, 0, []), (50, .iconst (1), 1, [], 1, 0, []), (51, .iand, 1, [], 0, 0, []), (52, .iconst (1), 1, [], 1, 0, []), (53, .if_icmp .ne (19), 3, [72], 0, 0, []), (56, .aload_n 0, 1, [], 0, 0, []), (57, .getfield 53, 3, [8, 25, 966], 0, 0, []), (60, .iload_n 2, 1, [], 0, 0, []), (61, .laload, 1, [], 0, 0, []), (62, .invokestatic 143, 3, [76, 1, 1, 1120, 1121, 99, 1122], 0, 0, []), (65, .ifCond .ne (7), 3, [72], 0, 0, []), (68, .iconst (1), 1, [], 1, 0, []), (69, .goto (4), 3, [73], 0, 0, []), (72, .iconst (0), 1, [], 0, 0, []), (73, .istore_n 3, 1, [], 0, 0, []), (74, .iload_n 3, 1, [], 0, 0, []), (75, .ifCond .eq (33), 3, [108], 0, 0, []), (78, .aload_n 0, 1, [], 0, 0, []), (79, .iconst (0), 1, [], 0, 0, []), (80, .putfield 114, 3, [8, 14, 955], 0, 0, []), (83, .aload_n 0, 1, [], 0, 0, []), (84, .aload_n 0, 1, [], 0, 0, []), (85, .getfield 53, 3, [8, 25, 966], 0, 0, []), (88, .iload_n 2, 1, [], 0, 0, []), (89, .laload, 1, [], 0, 0, []), (90, .iconst (0), 1, [], 0, 0, []), (91, .aload_n 0, 1, [], 0, 0, []), (92, .getfield 53, 3, [8, 25, 966], 0, 0, []), (95, .iload_n 2, 1, [], 0, 0, []), (96, .laload, 1, [], 0, 0, []), (97, .invokestatic 160, 3, [88, 1, 1, 1148, 1149, 99, 1150], 0, 0, []), (100, .invokevirtual 250, 3, [169, 3, 0, 8, 1283, 1285, 99, 1286, 73], 0, 0, []), (103, .aload_n 0, 1, [], 0, 0, []), (104, .iload_n 1, 1, [], 0, 0, []), (105, .invokevirtual 242, 3, [162, 1, 0, 8, 1275, 1277, 99, 1278, 72], 0, 0, []), (108, .iinc 2 (1), 3, [], 1, 0, []), (111, .goto (-89), 3, [22], 0, 0, []), (114, .iinc 1 (1), 3, [], 1, 0, []), (117, .goto (-103), 3, [14], 0, 0, []), (120, .aload_n 0, 1, [], 0, 0, []), (121, .invokevirtual 236, 3, [154, 0, 0, 8, 1259, 1261, 99, 1262, 69], 0, 0, []), (124, .aload_n 0, 1, [], 0, 0, []), (125, .invokevirtual 239, 3, [155, 0, 1, 8, 1263, 1265, 99, 1266, 70], 0, 0, []), (128, .ireturn, 1, [], 0, 0, [])]
def wX7_occursInLong : List si_row := [(0, .iconst (0), 1, [], 0, 0, []), (1, .istore_n 3, 1, [], 0, 0, []), (2, .iload_n 3, 1, [], 0, 0, [4, 5, 6, 7]), (3, .aload_n 0, 1, [], 0, 0, []), (4, .getfield 14, 3, [6, 0, 235], 0, 0, []), (7, .invokevirtual 31, 3, [30, 0, 1, 2, 674, 350, 93, 352, 351], 0, 0, []), (10, .if_icmp .ge (61), 3, [71], 0, 0, []), (13, .aload_n 0, 1, [], 0, 0, []), (14, .getfield 14, 3, [6, 0, 235], 0, 0, []), (17, .iload_n 3, 1, [], 0, 0, []), (18, .invokevirtual 44, 3, [38, 1, 2, 2, 675, 386, 93, 388, 387], 0, 0, []), (21, .lstore 4, 2, [], 0, 0, []), (23, .lload 4, 2, [], 0, 0, []), (25, .invokestatic 81, 3, [27, 1, 1, 704, 346, 100, 347], 0, 0, []), (28, .istore 6, 2, [], 0, 0, []), (30, .iload_n 2, 1, [], 0, 0, []), (31, .istore 7, 2, [], 0, 0, []), (33, .iload 6, 2, [], 0, 0, [5]), (35, .iconst (1), 1, [], 1, 0, []), (36, .if_icmp .le (29), 3, [65], 0, 0, []), (39, .iload 7, 2, [], 0, 0, []), (41, .iload 6, 2, [], 0, 0, []), (43, .if_icmp .ge (22), 3, [65], 0, 0, []), (46, .lload 4, 2, [], 0, 0, []), (48, .iload 7, 2, [], 0, 0, []), (50, .invokestatic 84, 3, [40, 2, 1, 705, 402, 100, 403], 0, 0, []), (53, .iload_n 1, 1, [], 0, 0, []), (54, .if_icmp .ne (5), 3, [59], 0, 0, []), (57, .iconst (1), 1, [], 1, 0, []), (58, .ireturn, 1, [], 0, 0, []), (59, .iinc 7 (1), 3, [], 1, 0, []), (62, .goto (-29), 3, [33], 0, 0, []), (65, .iinc 3 (1), 3, [], 1, 0, []), (68, .goto (-66), 3, [2], 0, 0, []), (71, .iconst (0), 1, [], 0, 0, []), (72, .ireturn, 1, [], 0, 0, [])]
def wX2_leftSides : List si_row := [(0, .iconst (0), 1, [], 0, 0, []), (1, .istore_n 1, 1, [], 0, 0, []), (2, .iconst (0), 1, [], 0, 0, []), (3, .istore_n 2, 1, [], 0, 0, []), (4, .iload_n 2, 1, [], 0, 0, []), (5, .aload_n 0, 1, [], 0, 0, []), (6, .getfield 15, 3, [2, 1, 135], 0, 0, []), (9, .if_icmp .ge (23), 3, [32], 0, 0, []), (12, .iload_n 1, 1, [], 0, 0, []), (13, .iconst (1), 1, [], 1, 0, []), (14, .aload_n 0, 1, [], 0, 0, []), (15, .getfield 11, 3, [2, 0, 134], 0, 0, []), (18, .iload_n 2, 1, [], 0, 0, []), (19, .laload, 1, [], 0, 0, []), (20, .invokestatic 37, 3, [39, 1, 1, 532, 394, 100, 395], 0, 0, []), (23, .ishl, 1, [], 0, 0, []), (24, .ior, 1, [], 0, 0, []), (25, .istore_n 1, 1, [], 0, 0, []), (26, .iinc 2 (1), 3, [], 1, 0, []), (29, .goto (-25), 3, [4], 0, 0, []), (32, .iload_n 1, 1, [], 0, 0, []), (33, .ireturn, 1, [], 0, 0, [])]
def wX2_freeNonterminal : List si_row := [(0, .aload_n 0, 1, [], 0, 0, []), (1, .invokevirtual 40, 3, [172, 0, 1, 2, 758, 759, 93, 761, 760], 0, 0, []), (4, .iconst (1), 1, [], 1, 0, []), (5, .ior, 1, [], 0, 0, []), (6, .istore_n 1, 1, [], 0, 0, []), (7, .iconst (0), 1, [], 0, 0, []), (8, .istore_n 2, 1, [], 0, 0, []), (9, .iload_n 2, 1, [], 0, 0, []), (10, .aload_n 0, 1, [], 0, 0, []), (11, .getfield 15, 3, [2, 1, 135], 0, 0, []), (14, .if_icmp .ge (21), 3, [35], 0, 0, []), (17, .iload_n 1, 1, [], 0, 0, []), (18, .aload_n 0, 1, [], 0, 0, []), (19, .getfield 11, 3, [2, 0, 134], 0, 0, []), (22, .iload_n 2, 1, [], 0, 0, []), (23, .laload, 1, [], 0, 0, []), (24, .invokestatic 44, 3, [56, 1, 1, 762, 444, 100, 445], 0, 0, []), (27, .ior, 1, [], 0, 0, []), (28, .istore_n 1, 1, [], 0, 0, []), (29, .iinc 2 (1), 3, [], 1, 0, []), (32, .goto (-23), 3, [9], 0, 0, []), (35, .iconst (0), 1, [], 0, 0, []), (36, .istore_n 2, 1, [], 0, 0, []), (37, .iload_n 2, 1, [], 0, 0, [0]), (38, .bipush (16), 2, [], 16, 0, []), (40, .if_icmp .ge (19), 3, [59], 0, 0, []), (43, .iload_n 1, 1, [], 0, 0, []), (44, .iload_n 2, 1, [], 0, 0, []), (45, .invokestatic 47, 3, [57, 2, 1, 763, 451, 91, 452], 0, 0, []), (48, .ifCond .ne (5), 3, [53], 0, 0, []), (51, .iload_n 2, 1, [], 0, 0, []), (52, .ireturn, 1, [], 0, 0, []), (53, .iinc 2 (1), 3, [], 1, 0, []), (56, .goto (-19), 3, [37], 0, 0, []), (59, .iconst (-1), 1, [], -1, 0, []), (60, .ireturn, 1, [], 0, 0, [])]
def wX2_refuse : List si_row := [(0, .aload_n 0, 1, [], 0, 0, []), (1, .iconst (1), 1, [], 1, 0, []), (2, .putfield 19, 3, [2, 2, 136], 0, 0, []), (5, .return_, 1, [], 0, 0, [])]
def wX5_renamed : List si_row := [(0, .lload_n 0, 1, [], 0, 0, []), (1, .invokestatic 21, 3, [39, 1, 1, 715, 394, 100, 395], 0, 0, []), (4, .invokestatic 24, 3, [23, 1, 2, 716, 324, 100, 325], 0, 0, []), (7, .lstore 5, 2, [], 0, 0, []), (9, .lload_n 0, 1, [], 0, 0, []), (10, .invokestatic 13, 3, [27, 1, 1, 345, 346, 100, 347], 0, 0, []), (13, .istore 7, 2, [], 0, 0, []), (15, .iconst (0), 1, [], 0, 0, []), (16, .istore 8, 2, [], 0, 0, []), (18, .iload 8, 2, [], 0, 0, [1, 6, 9]), (20, .iload 7, 2, [], 0, 0, []), (22, .if_icmp .ge (43), 3, [65], 0, 0, []), (25, .lload_n 0, 1, [], 0, 0, []), (26, .iload 8, 2, [], 0, 0, []), (28, .invokestatic 28, 3, [40, 2, 1, 440, 402, 100, 403], 0, 0, []), (31, .istore 9, 2, [], 0, 0, []), (33, .lload 5, 2, [], 0, 0, []), (35, .iload 8, 2, [], 0, 0, []), (37, .iload_n 3, 1, [], 0, 0, []), (38, .if_icmp .lt (14), 3, [52], 0, 0, []), (41, .iload 9, 2, [], 0, 0, []), (43, .iload_n 2, 1, [], 0, 0, []), (44, .if_icmp .ne (8), 3, [52], 0, 0, []), (47, .iload 4, 2, [], 0, 0, []), (49, .goto (5), 3, [54], 0, 0, []), (52, .iload 9, 2, [], 0, 0, []), (54, .invokestatic 32, 3, [28, 2, 2, 717, 343, 100, 344], 0, 0, []), (57, .lstore 5, 2, [], 0, 0, []), (59, .iinc 8 (1), 3, [], 1, 0, []), (62, .goto (-44), 3, [18], 0, 0, []), (65, .lload 5, 2, [], 0, 0, []), (67, .lreturn, 1, [], 0, 0, [])]
def wX7_nameTerminal : List si_row := [(0, .aload_n 0, 1, [], 0, 0, []), (1, .getfield 14, 3, [6, 0, 235], 0, 0, []), (4, .invokevirtual 121, 3, [173, 0, 1, 2, 754, 755, 93, 757, 756], 0, 0, []), (7, .istore_n 3, 1, [], 0, 0, []), (8, .iload_n 3, 1, [], 0, 0, []), (9, .iconst (-1), 1, [], -1, 0, []), (10, .if_icmp .ne (11), 3, [21], 0, 0, []), (13, .aload_n 0, 1, [], 0, 0, []), (14, .getfield 14, 3, [6, 0, 235], 0, 0, []), (17, .invokevirtual 124, 3, [174, 0, 0, 2, 764, 765, 93, 767, 766], 0, 0, []), (20, .return_, 1, [], 0, 0, []), (21, .aload_n 0, 1, [], 0, 0, []), (22, .invokevirtual 41, 3, [148, 0, 0, 6, 669, 671, 98, 672, 20], 0, 0, []), (25, .iconst (0), 1, [], 0, 0, []), (26, .istore 4, 2, [], 0, 0, []), (28, .iload 4, 2, [], 0, 0, [5, 6, 7]), (30, .aload_n 0, 1, [], 0, 0, []), (31, .getfield 20, 3, [6, 1, 236], 0, 0, []), (34, .invokevirtual 31, 3, [30, 0, 1, 2, 674, 350, 93, 352, 351], 0, 0, []), (37, .if_icmp .ge (61), 3, [98], 0, 0, []), (40, .aload_n 0, 1, [], 0, 0, []), (41, .getfield 20, 3, [6, 1, 236], 0, 0, []), (44, .iload 4, 2, [], 0, 0, []), (46, .invokevirtual 44, 3, [38, 1, 2, 2, 675, 386, 93, 388, 387], 0, 0, []), (49, .lstore 5, 2, [], 0, 0, []), (51, .lload 5, 2, [], 0, 0, []), (53, .invokestatic 81, 3, [27, 1, 1, 704, 346, 100, 347], 0, 0, []), (56, .iconst (1), 1, [], 1, 0, []), (57, .if_icmp .le (7), 3, [64], 0, 0, []), (60, .iconst (1), 1, [], 1, 0, []), (61, .goto (4), 3, [65], 0, 0, []), (64, .iconst (0), 1, [], 0, 0, []), (65, .istore 7, 2, [], 0, 0, []), (67, .aload_n 0, 1, [], 0, 0, []), (68, .getfield 14, 3, [6, 0, 235], 0, 0, []), (71, .iload 7, 2, [], 0, 0, []), (73, .ifCond .eq (14), 3, [87], 0, 0, []), (76, .lload 5, 2, [], 0, 0, []), (78, .iload_n 1, 1, [], 0, 0, []), (79, .iload_n 2, 1, [], 0, 0, []), (80, .iload_n 3, 1, [], 0, 0, []), (81, .invokestatic 127, 3, [175, 4, 2, 768, 769, 100, 770], 0, 0, []), (84, .goto (5), 3, [89], 0, 0, []), (87, .lload 5, 2, [], 0, 0, []), (89, .invokevirtual 53, 3, [25, 1, 0, 2, 678, 327, 93, 329, 328], 0, 0, []), (92, .iinc 4 (1), 3, [], 1, 0, []), (95, .goto (-67), 3, [28], 0, 0, []), (98, .aload_n 0, 1, [], 0, 0, []), (99, .getfield 14, 3, [6, 0, 235], 0, 0, []), (102, .iload_n 3, 1, [], 0, 0, []), (103, .invokestatic 108, 3, [23, 1, 2, 732, 324, 100, 325], 0, 0, []), (106, .iload_n 1, 1, [], 0, 0, []), (107, .invokestatic 131, 3, [28, 2, 2, 771, 343, 100, 344], 0, 0, []), (110, .invokevirtual 53, 3, [25, 1, 0, 2, 678, 327, 93, 329, 328], 0, 0, []), (113, .return_, 1, [], 0, 0, [])]
def wX7_nameTerminals : List si_row := [(0, .bipush (16), 2, [], 16, 0, []), (2, .istore_n 2, 1, [], 0, 0, []), (3, .iload_n 2, 1, [], 0, 0, []), (4, .bipush (24), 2, [], 24, 0, []), (6, .if_icmp .ge (34), 3, [40], 0, 0, []), (9, .aload_n 0, 1, [], 0, 0, []), (10, .getfield 14, 3, [6, 0, 235], 0, 0, []), (13, .invokevirtual 27, 3, [150, 0, 1, 2, 687, 688, 93, 690, 689], 0, 0, []), (16, .ifCond .ne (24), 3, [40], 0, 0, []), (19, .aload_n 0, 1, [], 0, 0, []), (20, .iload_n 2, 1, [], 0, 0, []), (21, .iload_n 1, 1, [], 0, 0, []), (22, .invokevirtual 115, 3, [171, 2, 1, 6, 746, 748, 98, 749, 23], 0, 0, []), (25, .ifCond .eq (9), 3, [34], 0, 0, []), (28, .aload_n 0, 1, [], 0, 0, []), (29, .iload_n 2, 1, [], 0, 0, []), (30, .iload_n 1, 1, [], 0, 0, []), (31, .invokevirtual 118, 3, [176, 2, 0, 6, 750, 752, 98, 753, 24], 0, 0, []), (34, .iinc 2 (1), 3, [], 1, 0, []), (37, .goto (-34), 3, [3], 0, 0, []), (40, .return_, 1, [], 0, 0, [])]
def wX7_firstLong : List si_row := [(0, .iconst (0), 1, [], 0, 0, []), (1, .istore_n 1, 1, [], 0, 0, []), (2, .iload_n 1, 1, [], 0, 0, []), (3, .aload_n 0, 1, [], 0, 0, []), (4, .getfield 14, 3, [6, 0, 235], 0, 0, []), (7, .invokevirtual 31, 3, [30, 0, 1, 2, 674, 350, 93, 352, 351], 0, 0, []), (10, .if_icmp .ge (33), 3, [43], 0, 0, []), (13, .aload_n 0, 1, [], 0, 0, []), (14, .getfield 14, 3, [6, 0, 235], 0, 0, []), (17, .iload_n 1, 1, [], 0, 0, []), (18, .invokevirtual 44, 3, [38, 1, 2, 2, 675, 386, 93, 388, 387], 0, 0, []), (21, .invokestatic 81, 3, [27, 1, 1, 704, 346, 100, 347], 0, 0, []), (24, .iconst (2), 1, [], 2, 0, []), (25, .if_icmp .le (12), 3, [37], 0, 0, []), (28, .aload_n 0, 1, [], 0, 0, []), (29, .getfield 14, 3, [6, 0, 235], 0, 0, []), (32, .iload_n 1, 1, [], 0, 0, []), (33, .invokevirtual 44, 3, [38, 1, 2, 2, 675, 386, 93, 388, 387], 0, 0, []), (36, .lreturn, 1, [], 0, 0, []), (37, .iinc 1 (1), 3, [], 1, 0, []), (40, .goto (-38), 3, [2], 0, 0, []), (43, .ldc2_w 138, 3, [780], 0, -1, []), (46, .lreturn, 1, [], 0, 0, [])]
def wX2_remove : List si_row := [(0, .aload_n 0, 1, [], 0, 0, []), (1, .lload_n 1, 1, [], 0, 0, []), (2, .invokevirtual 33, 3, [24, 1, 1, 2, 331, 333, 93, 334, 0], 0, 0, []), (5, .istore_n 3, 1, [], 0, 0, []), (6, .iload_n 3, 1, [], 0, 0, []), (7, .aload_n 0, 1, [], 0, 0, []), (8, .getfield 15, 3, [2, 1, 135], 0, 0, []), (11, .if_icmp .ge (47), 3, [58], 0, 0, []), (14, .aload_n 0, 1, [], 0, 0, []), (15, .getfield 11, 3, [2, 0, 134], 0, 0, []), (18, .iload_n 3, 1, [], 0, 0, []), (19, .laload, 1, [], 0, 0, []), (20, .lload_n 1, 1, [], 0, 0, []), (21, .lcmp, 1, [], 0, 0, []), (22, .ifCond .ne (36), 3, [58], 0, 0, []), (25, .aload_n 0, 1, [], 0, 0, []), (26, .getfield 11, 3, [2, 0, 134], 0, 0, []), (29, .iload_n 3, 1, [], 0, 0, []), (30, .iconst (1), 1, [], 1, 0, []), (31, .iadd, 1, [], 0, 0, []), (32, .aload_n 0, 1, [], 0, 0, []), (33, .getfield 11, 3, [2, 0, 134], 0, 0, []), (36, .iload_n 3, 1, [], 0, 0, []), (37, .aload_n 0, 1, [], 0, 0, []), (38, .getfield 15, 3, [2, 1, 135], 0, 0, []), (41, .iload_n 3, 1, [], 0, 0, []), (42, .isub, 1, [], 0, 0, []), (43, .iconst (1), 1, [], 1, 0, []), (44, .isub, 1, [], 0, 0, []), (45, .invokestatic 27, 3, [335, 337, 336, 101], 0, 0, []), (48, .aload_n 0, 1, [], 0, 0, []), (49, .dup, 1, [], 0, 0, []), (50, .getfield 15, 3, [2, 1, 135], 0, 0, []), (53, .iconst (1), 1, [], 1, 0, []), (54, .isub, 1, [], 0, 0, []), (55, .putfield 15, 3, [2, 1, 135], 0, 0, []), (58, .return_, 1, [], 0, 0, [])]
def wX7_split : List si_row := [(0, .aload_n 0, 1, [], 0, 0, []), (1, .getfield 14, 3, [6, 0, 235], 0, 0, []), (4, .invokevirtual 121, 3, [173, 0, 1, 2, 754, 755, 93, 757, 756], 0, 0, []), (7, .istore_n 3, 1, [], 0, 0, []), (8, .iload_n 3, 1, [], 0, 0, []), (9, .iconst (-1), 1, [], -1, 0, []), (10, .if_icmp .ne (11), 3, [21], 0, 0, []), (13, .aload_n 0, 1, [], 0, 0, []), (14, .getfield 14, 3, [6, 0, 235], 0, 0, []), (17, .invokevirtual 124, 3, [174, 0, 0, 2, 764, 765, 93, 767, 766], 0, 0, []), (20, .return_, 1, [], 0, 0, []), (21, .aload_n 0, 1, [], 0, 0, []), (22, .getfield 14, 3, [6, 0, 235], 0, 0, []), (25, .lload_n 1, 1, [], 0, 0, []), (26, .invokevirtual 143, 3, [179, 1, 0, 2, 785, 786, 93, 788, 787], 0, 0, []), (29, .aload_n 0, 1, [], 0, 0, []), (30, .getfield 14, 3, [6, 0, 235], 0, 0, []), (33, .lload_n 1, 1, [], 0, 0, []), (34, .iconst (1), 1, [], 1, 0, []), (35, .invokestatic 146, 3, [26, 2, 2, 789, 339, 100, 340], 0, 0, []), (38, .iload_n 3, 1, [], 0, 0, []), (39, .invokestatic 131, 3, [28, 2, 2, 771, 343, 100, 344], 0, 0, []), (42, .invokevirtual 53, 3, [25, 1, 0, 2, 678, 327, 93, 329, 328], 0, 0, []), (45, .aload_n 0, 1, [], 0, 0, []), (46, .getfield 14, 3, [6, 0, 235], 0, 0, []), (49, .iload_n 3, 1, [], 0, 0, []), (50, .invokestatic 108, 3, [23, 1, 2, 732, 324, 100, 325], 0, 0, []), (53, .lload_n 1, 1, [], 0, 0, []), (54, .iconst (1), 1, [], 1, 0, []), (55, .invokestatic 111, 3, [165, 3, 2, 733, 734, 100, 735], 0, 0, []), (58, .invokevirtual 53, 3, [25, 1, 0, 2, 678, 327, 93, 329, 328], 0, 0, []), (61, .return_, 1, [], 0, 0, [])]
def wX7_splitLong : List si_row := [(0, .iconst (0), 1, [], 0, 0, []), (1, .istore_n 1, 1, [], 0, 0, []), (2, .iload_n 1, 1, [], 0, 0, [2, 3]), (3, .bipush (16), 2, [], 16, 0, []), (5, .if_icmp .gt (38), 3, [43], 0, 0, []), (8, .aload_n 0, 1, [], 0, 0, []), (9, .getfield 14, 3, [6, 0, 235], 0, 0, []), (12, .invokevirtual 27, 3, [150, 0, 1, 2, 687, 688, 93, 690, 689], 0, 0, []), (15, .ifCond .ne (28), 3, [43], 0, 0, []), (18, .aload_n 0, 1, [], 0, 0, []), (19, .invokevirtual 134, 3, [178, 0, 2, 6, 776, 778, 98, 779, 25], 0, 0, []), (22, .lstore_n 2, 1, [], 0, 0, []), (23, .lload_n 2, 1, [], 0, 0, []), (24, .ldc2_w 138, 3, [780], 0, -1, []), (27, .lcmp, 1, [], 0, 0, []), (28, .ifCond .ne (4), 3, [32], 0, 0, []), (31, .return_, 1, [], 0, 0, []), (32, .aload_n 0, 1, [], 0, 0, []), (33, .lload_n 2, 1, [], 0, 0, []), (34, .invokevirtual 140, 3, [180, 1, 0, 6, 781, 783, 98, 784, 26], 0, 0, []), (37, .iinc 1 (1), 3, [], 1, 0, []), (40, .goto (-38), 3, [2], 0, 0, []), (43, .return_, 1, [], 0, 0, [])]
def wX8_toChomsky : List si_row := [(0, .aload_n 0, 1, [], 0, 0, []), (1, .getfield 19, 3, [7, 1, 243], 0, 0, []), (4, .invokevirtual 197, 3, [54, 0, 1, 2, 425, 426, 93, 428, 427], 0, 0, []), (7, .ifCond .ne (13), 3, [20], 0, 0, []), (10, .aload_n 0, 1, [], 0, 0, []), (11, .getfield 19, 3, [7, 1, 243], 0, 0, []), (14, .invokevirtual 200, 3, [63, 0, 1, 2, 741, 466, 93, 468, 467], 0, 0, []), (17, .ifCond .eq (6), 3, [23], 0, 0, []), (20, .bipush (-8), 2, [], -8, 0, []), (22, .ireturn, 1, [], 0, 0, []), (23, .aload_n 0, 1, [], 0, 0, []), (24, .getfield 61, 3, [7, 8, 250], 0, 0, []), (27, .aload_n 0, 1, [], 0, 0, []), (28, .getfield 19, 3, [7, 1, 243], 0, 0, []), (31, .invokevirtual 180, 3, [147, 1, 0, 6, 656, 657, 98, 659, 658], 0, 0, []), (34, .aload_n 0, 1, [], 0, 0, []), (35, .getfield 61, 3, [7, 8, 250], 0, 0, []), (38, .iconst (0), 1, [], 0, 0, []), (39, .invokevirtual 203, 3, [177, 1, 0, 6, 742, 743, 98, 745, 744], 0, 0, []), (42, .aload_n 0, 1, [], 0, 0, []), (43, .getfield 61, 3, [7, 8, 250], 0, 0, []), (46, .invokevirtual 207, 3, [181, 0, 0, 6, 772, 773, 98, 775, 774], 0, 0, []), (49, .aload_n 0, 1, [], 0, 0, []), (50, .getfield 61, 3, [7, 8, 250], 0, 0, []), (53, .aload_n 0, 1, [], 0, 0, []), (54, .getfield 19, 3, [7, 1, 243], 0, 0, []), (57, .invokevirtual 187, 3, [151, 1, 1, 6, 683, 684, 98, 686, 685], 0, 0, []), (60, .ireturn, 1, [], 0, 0, [])]
def wX9_hasUnit : List si_row := [(0, .iconst (0), 1, [], 0, 0, []), (1, .istore_n 1, 1, [], 0, 0, []), (2, .iconst (0), 1, [], 0, 0, []), (3, .istore_n 2, 1, [], 0, 0, []), (4, .iload_n 2, 1, [], 0, 0, []), (5, .aload_n 0, 1, [], 0, 0, []), (6, .getfield 107, 3, [8, 1, 942], 0, 0, []), (9, .if_icmp .ge (31), 3, [40], 0, 0, []), (12, .iload_n 1, 1, [], 0, 0, []), (13, .ifCond .ne (15), 3, [28], 0, 0, []), (16, .aload_n 0, 1, [], 0, 0, []), (17, .getfield 7, 3, [8, 0, 941], 0, 0, []), (20, .iload_n 2, 1, [], 0, 0, []), (21, .laload, 1, [], 0, 0, []), (22, .invokestatic 143, 3, [76, 1, 1, 1120, 1121, 99, 1122], 0, 0, []), (25, .ifCond .eq (7), 3, [32], 0, 0, []), (28, .iconst (1), 1, [], 1, 0, []), (29, .goto (4), 3, [33], 0, 0, []), (32, .iconst (0), 1, [], 0, 0, []), (33, .istore_n 1, 1, [], 0, 0, []), (34, .iinc 2 (1), 3, [], 1, 0, []), (37, .goto (-33), 3, [4], 0, 0, []), (40, .iload_n 1, 1, [], 0, 0, []), (41, .ireturn, 1, [], 0, 0, [])]
def wX9_mayNotStay : List si_row := [(0, .lload_n 0, 1, [], 0, 0, []), (1, .iload_n 2, 1, [], 0, 0, []), (2, .invokestatic 56, 3, [50, 2, 1, 1089, 1090, 99, 1091], 0, 0, []), (5, .iload_n 3, 1, [], 0, 0, []), (6, .if_icmp .ne (27), 3, [33], 0, 0, []), (9, .iload 4, 2, [], 0, 0, []), (11, .ifCond .eq (14), 3, [25], 0, 0, []), (14, .lload_n 0, 1, [], 0, 0, []), (15, .invokestatic 160, 3, [88, 1, 1, 1148, 1149, 99, 1150], 0, 0, []), (18, .iconst (1), 1, [], 1, 0, []), (19, .if_icmp .le (14), 3, [33], 0, 0, []), (22, .goto (7), 3, [29], 0, 0, []), (25, .iload_n 2, 1, [], 0, 0, []), (26, .ifCond .le (7), 3, [33], 0, 0, []), (29, .iconst (1), 1, [], 1, 0, []), (30, .goto (4), 3, [34], 0, 0, []), (33, .iconst (0), 1, [], 0, 0, []), (34, .ireturn, 1, [], 0, 0, [])]
def wX9_freeOne : List si_row := [(0, .iconst (1), 1, [], 1, 0, []), (1, .istore_n 1, 1, [], 0, 0, []), (2, .iconst (0), 1, [], 0, 0, []), (3, .istore_n 2, 1, [], 0, 0, []), (4, .iload_n 2, 1, [], 0, 0, [3]), (5, .aload_n 0, 1, [], 0, 0, []), (6, .getfield 227, 3, [8, 26, 967], 0, 0, []), (9, .if_icmp .ge (81), 3, [90], 0, 0, []), (12, .iload_n 1, 1, [], 0, 0, []), (13, .iconst (1), 1, [], 1, 0, []), (14, .aload_n 0, 1, [], 0, 0, []), (15, .getfield 53, 3, [8, 25, 966], 0, 0, []), (18, .iload_n 2, 1, [], 0, 0, []), (19, .laload, 1, [], 0, 0, []), (20, .invokestatic 90, 3, [17, 1, 1, 1066, 1067, 99, 1068], 0, 0, []), (23, .ishl, 1, [], 0, 0, []), (24, .ior, 1, [], 0, 0, []), (25, .istore_n 1, 1, [], 0, 0, []), (26, .iconst (0), 1, [], 0, 0, []), (27, .istore_n 3, 1, [], 0, 0, []), (28, .aload_n 0, 1, [], 0, 0, []), (29, .getfield 53, 3, [8, 25, 966], 0, 0, []), (32, .iload_n 2, 1, [], 0, 0, []), (33, .laload, 1, [], 0, 0, []), (34, .iload_n 3, 1, [], 0, 0, []), (35, .invokestatic 56, 3, [50, 2, 1, 1089, 1090, 99, 1091], 0, 0, []), (38, .ifCond .le (46), 3, [84], 0, 0, []), (41, .iload_n 1, 1, [], 0, 0, []), (42, .aload_n 0, 1, [], 0, 0, []), (43, .getfield 53, 3, [8, 25, 966], 0, 0, []), (46, .iload_n 2, 1, [], 0, 0, []), (47, .laload, 1, [], 0, 0, []), (48, .iload_n 3, 1, [], 0, 0, []), (49, .invokestatic 56, 3, [50, 2, 1, 1089, 1090, 99, 1091], 0, 0, []), (52, .invokestatic 64, 3, [15, 1, 1, 1059, 1060, 99, 1061], 0, 0, []), (55, .ifCond .eq (20), 3, [75], 0, 0, []), (58, .iconst (1), 1, [], 1, 0, []), (59, .aload_n 0, 1, [], 0, 0, []), (60, .getfield 53, 3, [8, 25, 966], 0, 0, []), (63, .iload_n 2, 1, [], 0, 0, []), (64, .laload, 1, [], 0, 0, []), (65, .iload_n 3, 1, [], 0, 0, []), (66, .invokestatic 56, 3, [50, 2, 1, 1089, 1090, 99, 1091], 0, 0, []), (69, .iconst (1), 1, [], 1, 0, []), (70, .isub, 1, [], 0, 0, []), (71, .ishl, 1, [], 0, 0, []), (72, .goto (4), 3, [76], 0, 0, []), (75, .iconst (0), 1, [], 0, 0, []), (76, .ior, 1, [], 0, 0, []), (77, .istore_n 1, 1, [], 0, 0, []), (78, .iinc 3 (1), 3, [], 1, 0, []), (81, .goto (-53), 3, [28], 0, 0, []), (84, .iinc 2 (1), 3, [], 1, 0, []), (87, .goto (-83), 3, [4], 0, 0, []), (90, .iconst (0), 1, [], 0, 0, []), (91, .istore_n 2, 1, [], 0, 0, []), (92, .iload_n 2, 1, [], 0, 0, [3]), (93, .bipush (16), 2, [], 16, 0, []), (95, .if_icmp .ge (19), 3, [114], 0, 0, []), (98, .iload_n 1, 1, [], 0, 0, []), (99, .iload_n 2, 1, [], 0, 0, []), (100, .ishr, 1, [], 0, 0, []), (101, .iconst (1), 1, [], 1, 0, []), (102, .iand, 1, [], 0, 0, []), (103, .ifCond .ne (5), 3, [108], 0, 0, []), (106, .iload_n 2, 1, [], 0, 0, []), (107, .ireturn, 1, [], 0, 0, []), (108, .iinc 2 (1), 3, [], 1, 0, []), (111, .goto (-19), 3, [92], 0, 0, []), (114, .aload_n 0, 1, [], 0, 0, []), (115, .iconst (1), 1, [], 1, 0, []), (116, .putfield 230, 3, [8, 27, 968], 0, 0, []), (119, .iconst (-1), 1, [], -1, 0, []), (120, .ireturn, 1, [], 0, 0, [])]
def wX9_veil : List si_row := [(0, .iconst (0), 1, [], 0, 0, []), (1, .istore_n 3, 1, [], 0, 0, []), (2, .iconst (0), 1, [], 0, 0, []), (3, .istore 4, 2, [], 0, 0, []), (5, .iload 4, 2, [], 0, 0, [5, 6]), (7, .aload_n 0, 1, [], 0, 0, []), (8, .getfield 227, 3, [8, 26, 967], 0, 0, []), (11, .if_icmp .ge (52), 3, [63], 0, 0, []), (14, .iconst (0), 1, [], 0, 0, []), (15, .istore 5, 2, [], 0, 0, []), (17, .iload 5, 2, [], 0, 0, [6]), (19, .bipush (8), 2, [], 8, 0, []), (21, .if_icmp .ge (36), 3, [57], 0, 0, []), (24, .iload_n 3, 1, [], 0, 0, []), (25, .ifCond .ne (20), 3, [45], 0, 0, []), (28, .aload_n 0, 1, [], 0, 0, []), (29, .getfield 53, 3, [8, 25, 966], 0, 0, []), (32, .iload 4, 2, [], 0, 0, []), (34, .laload, 1, [], 0, 0, []), (35, .iload 5, 2, [], 0, 0, []), (37, .iload_n 1, 1, [], 0, 0, []), (38, .iload_n 2, 1, [], 0, 0, []), (39, .invokestatic 253, 3, [184, 4, 1, 1303, 1304, 99, 1305], 0, 0, []), (42, .ifCond .eq (7), 3, [49], 0, 0, []), (45, .iconst (1), 1, [], 1, 0, []), (46, .goto (4), 3, [50], 0, 0, []), (49, .iconst (0), 1, [], 0, 0, []), (50, .istore_n 3, 1, [], 0, 0, []), (51, .iinc 5 (1), 3, [], 1, 0, []), (54, .goto (-37), 3, [17], 0, 0, []), (57, .iinc 4 (1), 3, [], 1, 0, []), (60, .goto (-55), 3, [5], 0, 0, []), (63, .iload_n 3, 1, [], 0, 0, []), (64, .ifCond .eq (10), 3, [74], 0, 0, []), (67, .aload_n 0, 1, [], 0, 0, []), (68, .invokevirtual 256, 3, [185, 0, 1, 8, 1306, 1308, 99, 1309, 77], 0, 0, []), (71, .goto (4), 3, [75], 0, 0, []), (74, .iconst (0), 1, [], 0, 0, []), (75, .istore 4, 2, [], 0, 0, []), (77, .iload_n 3, 1, [], 0, 0, []), (78, .ifCond .eq (10), 3, [88], 0, 0, []), (81, .aload_n 0, 1, [], 0, 0, []), (82, .getfield 230, 3, [8, 27, 968], 0, 0, []), (85, .ifCond .eq (4), 3, [89], 0, 0, []), (88, .return_, 1, [], 0, 0, []), (89, .aload_n 0, 1, [], 0, 0, []), (90, .invokevirtual 94, 3, [13, 0, 0, 8, 1048, 1050, 99, 1051, 41], 0, 0, []), (93, .iconst (0), 1, [], 0, 0, []), (94, .istore 5, 2, [], 0, 0, []), (96, .iload 5, 2, [], 0, 0, [3, 6]), (98, .aload_n 0, 1, [], 0, 0, []), (99, .getfield 227, 3, [8, 26, 967], 0, 0, []), (102, .if_icmp .ge (107), 3, [209], 0, 0, []), (105, .aload_n 0, 1, [], 0, 0, []), (106, .iconst (0), 1, [], 0, 0, []), (107, .putfield 114, 3, [8, 14, 955], 0, 0, []), (110, .iconst (0), 1, [], 0, 0, []), (111, .istore 6, 2, [], 0, 0, []), (113, .aload_n 0, 1, [], 0, 0, [3]), (114, .getfield 53, 3, [8, 25, 966], 0, 0, []), (117, .iload 5, 2, [], 0, 0, []), (119, .laload, 1, [], 0, 0, []), (120, .iload 6, 2, [], 0, 0, []), (122, .invokestatic 56, 3, [50, 2, 1, 1089, 1090, 99, 1091], 0, 0, []), (125, .ifCond .le (64), 3, [189], 0, 0, []), (128, .aload_n 0, 1, [], 0, 0, []), (129, .getfield 23, 3, [8, 13, 954], 0, 0, []), (132, .aload_n 0, 1, [], 0, 0, []), (133, .getfield 114, 3, [8, 14, 955], 0, 0, []), (136, .aload_n 0, 1, [], 0, 0, []), (137, .getfield 53, 3, [8, 25, 966], 0, 0, []), (140, .iload 5, 2, [], 0, 0, []), (142, .laload, 1, [], 0, 0, []), (143, .iload 6, 2, [], 0, 0, []), (145, .iload_n 1, 1, [], 0, 0, []), (146, .iload_n 2, 1, [], 0, 0, []), (147, .invokestatic 253, 3, [184, 4, 1, 1303, 1304, 99, 1305], 0, 0, []), (150, .ifCond .eq (10), 3, [160], 0, 0, []), (153, .iload 4, 2, [], 0, 0, []), (155, .iconst (1), 1, [], 1, 0, []), (156, .iadd, 1, [], 0, 0, []), (157, .goto (15), 3, [172], 0, 0, []), (160, .aload_n 0, 1, [], 0, 0, []), (161, .getfield 53, 3, [8, 25, 966], 0, 0, []), (164, .iload 5, 2, [], 0, 0, []), (166, .laload, 1, [], 0, 0, []), (167, .iload 6, 2, [], 0, 0, []), (169, .invokestatic 56, 3, [50, 2, 1, 1089, 1090, 99, 1091], 0, 0, []), (172, .iastore, 1, [], 0, 0, []), (173, .aload_n 0, 1, [], 0, 0, []), (174, .dup, 1, [], 0, 0, []), (175, .getfield 114, 3, [8, 14, 955], 0, 0, []), (178, .iconst (1), 1, [], 1, 0, []), (179, .iadd, 1, [], 0, 0, []), (180, .putfield 114, 3, [8, 14, 955], 0, 0, []), (183, .iinc 6 (1), 3, [], 1, 0, []), (186, .goto (-73), 3, [113], 0, 0, []), (189, .aload_n 0, 1, [], 0, 0, []), (190, .aload_n 0, 1, [], 0, 0, []), (191, .getfield 53, 3, [8, 25, 966], 0, 0, []), (194, .iload 5, 2, [], 0, 0, []), (196, .laload, 1, [], 0, 0, []), (197, .invokestatic 90, 3, [17, 1, 1, 1066, 1067, 99, 1068], 0, 0, []), (200, .invokevirtual 242, 3, [162, 1, 0, 8, 1275, 1277, 99, 1278, 72], 0, 0, []), (203, .iinc 5 (1), 3, [], 1, 0, []), (206, .goto (-110), 3, [96], 0, 0, []), (209, .aload_n 0, 1, [], 0, 0, []), (210, .getfield 23, 3, [8, 13, 954], 0, 0, []), (213, .iconst (0), 1, [], 0, 0, []), (214, .iload_n 1, 1, [], 0, 0, []), (215, .iastore, 1, [], 0, 0, []), (216, .aload_n 0, 1, [], 0, 0, []), (217, .iconst (1), 1, [], 1, 0, []), (218, .putfield 114, 3, [8, 14, 955], 0, 0, []), (221, .aload_n 0, 1, [], 0, 0, []), (222, .iload 4, 2, [], 0, 0, []), (224, .invokevirtual 242, 3, [162, 1, 0, 8, 1275, 1277, 99, 1278, 72], 0, 0, []), (227, .aload_n 0, 1, [], 0, 0, []), (228, .invokevirtual 236, 3, [154, 0, 0, 8, 1259, 1261, 99, 1262, 69], 0, 0, []), (231, .return_, 1, [], 0, 0, [])]
def wX9_veilAll : List si_row := [(0, .bipush (17), 2, [], 17, 0, []), (2, .istore_n 2, 1, [], 0, 0, []), (3, .iload_n 2, 1, [], 0, 0, []), (4, .bipush (25), 2, [], 25, 0, []), (6, .if_icmp .ge (22), 3, [28], 0, 0, []), (9, .aload_n 0, 1, [], 0, 0, []), (10, .getfield 230, 3, [8, 27, 968], 0, 0, []), (13, .ifCond .ne (15), 3, [28], 0, 0, []), (16, .aload_n 0, 1, [], 0, 0, []), (17, .iload_n 2, 1, [], 0, 0, []), (18, .iload_n 1, 1, [], 0, 0, []), (19, .invokevirtual 259, 3, [186, 2, 0, 8, 1299, 1301, 99, 1302, 76], 0, 0, []), (22, .iinc 2 (1), 3, [], 1, 0, []), (25, .goto (-22), 3, [3], 0, 0, []), (28, .return_, 1, [], 0, 0, [])]
def wX9_cut : List si_row := [(0, .iconst (0), 1, [], 0, 0, []), (1, .istore_n 1, 1, [], 0, 0, []), (2, .iload_n 1, 1, [], 0, 0, [2, 3]), (3, .aload_n 0, 1, [], 0, 0, []), (4, .getfield 227, 3, [8, 26, 967], 0, 0, []), (7, .if_icmp .ge (22), 3, [29], 0, 0, []), (10, .aload_n 0, 1, [], 0, 0, []), (11, .getfield 53, 3, [8, 25, 966], 0, 0, []), (14, .iload_n 1, 1, [], 0, 0, []), (15, .laload, 1, [], 0, 0, []), (16, .invokestatic 160, 3, [88, 1, 1, 1148, 1149, 99, 1150], 0, 0, []), (19, .iconst (3), 1, [], 3, 0, []), (20, .if_icmp .ge (9), 3, [29], 0, 0, []), (23, .iinc 1 (1), 3, [], 1, 0, []), (26, .goto (-24), 3, [2], 0, 0, []), (29, .iload_n 1, 1, [], 0, 0, []), (30, .aload_n 0, 1, [], 0, 0, []), (31, .getfield 227, 3, [8, 26, 967], 0, 0, []), (34, .if_icmp .eq (10), 3, [44], 0, 0, []), (37, .aload_n 0, 1, [], 0, 0, []), (38, .getfield 230, 3, [8, 27, 968], 0, 0, []), (41, .ifCond .eq (5), 3, [46], 0, 0, []), (44, .iconst (0), 1, [], 0, 0, []), (45, .ireturn, 1, [], 0, 0, []), (46, .aload_n 0, 1, [], 0, 0, []), (47, .invokevirtual 256, 3, [185, 0, 1, 8, 1306, 1308, 99, 1309, 77], 0, 0, []), (50, .istore_n 2, 1, [], 0, 0, []), (51, .aload_n 0, 1, [], 0, 0, []), (52, .getfield 230, 3, [8, 27, 968], 0, 0, []), (55, .ifCond .eq (5), 3, [60], 0, 0, []), (58, .iconst (0), 1, [], 0, 0, []), (59, .ireturn, 1, [], 0, 0, []), (60, .aload_n 0, 1, [], 0, 0, []), (61, .invokevirtual 94, 3, [13, 0, 0, 8, 1048, 1050, 99, 1051, 41], 0, 0, []), (64, .iconst (0), 1, [], 0, 0, []), (65, .istore_n 3, 1, [], 0, 0, []), (66, .iload_n 3, 1, [], 0, 0, []), (67, .aload_n 0, 1, [], 0, 0, []), (68, .getfield 227, 3, [8, 26, 967], 0, 0, []), (71, .if_icmp .ge (24), 3, [95], 0, 0, []), (74, .iload_n 3, 1, [], 0, 0, []), (75, .iload_n 1, 1, [], 0, 0, []), (76, .if_icmp .eq (13), 3, [89], 0, 0, []), (79, .aload_n 0, 1, [], 0, 0, []), (80, .aload_n 0, 1, [], 0, 0, []), (81, .getfield 53, 3, [8, 25, 966], 0, 0, []), (84, .iload_n 3, 1, [], 0, 0, []), (85, .laload, 1, [], 0, 0, []), (86, .invokevirtual 86, 3, [16, 1, 0, 8, 1062, 1064, 99, 1065, 43], 0, 0, []), (89, .iinc 3 (1), 3, [], 1, 0, []), (92, .goto (-26), 3, [66], 0, 0, []), (95, .aload_n 0, 1, [], 0, 0, []), (96, .iconst (0), 1, [], 0, 0, []), (97, .putfield 114, 3, [8, 14, 955], 0, 0, []), (100, .aload_n 0, 1, [], 0, 0, []), (101, .aload_n 0, 1, [], 0, 0, []), (102, .getfield 53, 3, [8, 25, 966], 0, 0, []), (105, .iload_n 1, 1, [], 0, 0, []), (106, .laload, 1, [], 0, 0, []), (107, .iconst (0), 1, [], 0, 0, []), (108, .iconst (1), 1, [], 1, 0, []), (109, .invokevirtual 250, 3, [169, 3, 0, 8, 1283, 1285, 99, 1286, 73], 0, 0, []), (112, .aload_n 0, 1, [], 0, 0, []), (113, .getfield 23, 3, [8, 13, 954], 0, 0, []), (116, .iconst (1), 1, [], 1, 0, []), (117, .iload_n 2, 1, [], 0, 0, []), (118, .iconst (1), 1, [], 1, 0, []), (119, .iadd, 1, [], 0, 0, []), (120, .iastore, 1, [], 0, 0, []), (121, .aload_n 0, 1, [], 0, 0, []), (122, .iconst (2), 1, [], 2, 0, []), (123, .putfield 114, 3, [8, 14, 955], 0, 0, []), (126, .aload_n 0, 1, [], 0, 0, []), (127, .aload_n 0, 1, [], 0, 0, []), (128, .getfield 53, 3, [8, 25, 966], 0, 0, []), (131, .iload_n 1, 1, [], 0, 0, []), (132, .laload, 1, [], 0, 0, []), (133, .invokestatic 90, 3, [17, 1, 1, 1066, 1067, 99, 1068], 0, 0, []), (136, .invokevirtual 242, 3, [162, 1, 0, 8, 1275, 1277, 99, 1278, 72], 0, 0, []), (139, .aload_n 0, 1, [], 0, 0, []), (140, .iconst (0), 1, [], 0, 0, []), (141, .putfield 114, 3, [8, 14, 955], 0, 0, []), (144, .aload_n 0, 1, [], 0, 0, []), (145, .aload_n 0, 1, [], 0, 0, []), (146, .getfield 53, 3, [8, 25, 966], 0, 0, []), (149, .iload_n 1, 1, [], 0, 0, []), (150, .laload, 1, [], 0, 0, []), (151, .iconst (1), 1, [], 1, 0, []), (152, .aload_n 0, 1, [], 0, 0, []), (153, .getfield 53, 3, [8, 25, 966], 0, 0, []), (156, .iload_n 1, 1, [], 0, 0, []), (157, .laload, 1, [], 0, 0, []), (158, .invokestatic 160, 3, [88, 1, 1, 1148, 1149, 99, 1150], 0, 0, []), (161, .invokevirtual 250, 3, [169, 3, 0, 8, 1283, 1285, 99, 1286, 73], 0, 0, []), (164, .aload_n 0, 1, [], 0, 0, []), (165, .iload_n 2, 1, [], 0, 0, []), (166, .invokevirtual 242, 3, [162, 1, 0, 8, 1275, 1277, 99, 1278, 72], 0, 0, []), (169, .aload_n 0, 1, [], 0, 0, []), (170, .invokevirtual 236, 3, [154, 0, 0, 8, 1259, 1261, 99, 1262, 69], 0, 0, []), (173, .iconst (1), 1, [], 1, 0, []), (174, .ireturn, 1, [], 0, 0, [])]
def wX9_toChomsky : List si_row := [(0, .aload_n 0, 1, [], 0, 0, []), (1, .invokevirtual 148, 3, [74, 0, 1, 8, 1101, 1103, 99, 1104, 48], 0, 0, []), (4, .ifCond .ne (10), 3, [14], 0, 0, []), (7, .aload_n 0, 1, [], 0, 0, []), (8, .invokevirtual 263, 3, [183, 0, 1, 8, 1291, 1293, 99, 1294, 74], 0, 0, []), (11, .ifCond .eq (6), 3, [17], 0, 0, []), (14, .bipush (-8), 2, [], -8, 0, []), (16, .ireturn, 1, [], 0, 0, []), (17, .aload_n 0, 1, [], 0, 0, []), (18, .invokevirtual 233, 3, [153, 0, 0, 8, 1255, 1257, 99, 1258, 68], 0, 0, []), (21, .aload_n 0, 1, [], 0, 0, []), (22, .iconst (1), 1, [], 1, 0, []), (23, .invokevirtual 266, 3, [187, 1, 0, 8, 1295, 1297, 99, 1298, 75], 0, 0, []), (26, .iconst (1), 1, [], 1, 0, []), (27, .istore_n 1, 1, [], 0, 0, []), (28, .iload_n 1, 1, [], 0, 0, []), (29, .ifCond .eq (11), 3, [40], 0, 0, []), (32, .aload_n 0, 1, [], 0, 0, []), (33, .invokevirtual 270, 3, [188, 0, 1, 8, 1310, 1312, 99, 1313, 78], 0, 0, []), (36, .istore_n 1, 1, [], 0, 0, []), (37, .goto (-9), 3, [28], 0, 0, []), (40, .aload_n 0, 1, [], 0, 0, []), (41, .invokevirtual 239, 3, [155, 0, 1, 8, 1263, 1265, 99, 1266, 70], 0, 0, []), (44, .ireturn, 1, [], 0, 0, [])]
def wX5_begins : List si_row := [(0, .lload_n 0, 1, [], 0, 0, []), (1, .invokestatic 21, 3, [39, 1, 1, 715, 394, 100, 395], 0, 0, []), (4, .iload_n 2, 1, [], 0, 0, []), (5, .if_icmp .ne (16), 3, [21], 0, 0, []), (8, .lload_n 0, 1, [], 0, 0, []), (9, .iconst (0), 1, [], 0, 0, []), (10, .invokestatic 28, 3, [40, 2, 1, 440, 402, 100, 403], 0, 0, []), (13, .iload_n 3, 1, [], 0, 0, []), (14, .if_icmp .ne (7), 3, [21], 0, 0, []), (17, .iconst (1), 1, [], 1, 0, []), (18, .goto (4), 3, [22], 0, 0, []), (21, .iconst (0), 1, [], 0, 0, []), (22, .ireturn, 1, [], 0, 0, [])]
def wX7_addExpansions : List si_row := [(0, .lload_n 1, 1, [], 0, 0, []), (1, .iconst (0), 1, [], 0, 0, []), (2, .invokestatic 84, 3, [40, 2, 1, 705, 402, 100, 403], 0, 0, []), (5, .istore_n 3, 1, [], 0, 0, []), (6, .lload_n 1, 1, [], 0, 0, []), (7, .invokestatic 66, 3, [39, 1, 1, 681, 394, 100, 395], 0, 0, []), (10, .invokestatic 108, 3, [23, 1, 2, 732, 324, 100, 325], 0, 0, []), (13, .lstore 4, 2, [], 0, 0, []), (15, .iconst (0), 1, [], 0, 0, []), (16, .istore 6, 2, [], 0, 0, []), (18, .iload 6, 2, [], 0, 0, [2, 5, 7, 8]), (20, .aload_n 0, 1, [], 0, 0, []), (21, .getfield 20, 3, [6, 1, 236], 0, 0, []), (24, .invokevirtual 31, 3, [30, 0, 1, 2, 674, 350, 93, 352, 351], 0, 0, []), (27, .if_icmp .ge (56), 3, [83], 0, 0, []), (30, .aload_n 0, 1, [], 0, 0, []), (31, .getfield 20, 3, [6, 1, 236], 0, 0, []), (34, .iload 6, 2, [], 0, 0, []), (36, .invokevirtual 44, 3, [38, 1, 2, 2, 675, 386, 93, 388, 387], 0, 0, []), (39, .invokestatic 66, 3, [39, 1, 1, 681, 394, 100, 395], 0, 0, []), (42, .iload_n 3, 1, [], 0, 0, []), (43, .if_icmp .ne (34), 3, [77], 0, 0, []), (46, .lload 4, 2, [], 0, 0, []), (48, .aload_n 0, 1, [], 0, 0, []), (49, .getfield 20, 3, [6, 1, 236], 0, 0, []), (52, .iload 6, 2, [], 0, 0, []), (54, .invokevirtual 44, 3, [38, 1, 2, 2, 675, 386, 93, 388, 387], 0, 0, []), (57, .iconst (0), 1, [], 0, 0, []), (58, .invokestatic 111, 3, [165, 3, 2, 733, 734, 100, 735], 0, 0, []), (61, .lstore 7, 2, [], 0, 0, []), (63, .aload_n 0, 1, [], 0, 0, []), (64, .getfield 14, 3, [6, 0, 235], 0, 0, []), (67, .lload 7, 2, [], 0, 0, []), (69, .lload_n 1, 1, [], 0, 0, []), (70, .iconst (1), 1, [], 1, 0, []), (71, .invokestatic 111, 3, [165, 3, 2, 733, 734, 100, 735], 0, 0, []), (74, .invokevirtual 53, 3, [25, 1, 0, 2, 678, 327, 93, 329, 328], 0, 0, []), (77, .iinc 6 (1), 3, [], 1, 0, []), (80, .goto (-62), 3, [18], 0, 0, []), (83, .return_, 1, [], 0, 0, [])]
def wX7_expandAll : List si_row := [(0, .aload_n 0, 1, [], 0, 0, []), (1, .getfield 20, 3, [6, 1, 236], 0, 0, []), (4, .aload_n 0, 1, [], 0, 0, []), (5, .getfield 14, 3, [6, 0, 235], 0, 0, []), (8, .invokevirtual 23, 3, [146, 1, 0, 2, 660, 661, 93, 663, 662], 0, 0, []), (11, .iconst (0), 1, [], 0, 0, []), (12, .istore_n 3, 1, [], 0, 0, []), (13, .iload_n 3, 1, [], 0, 0, []), (14, .aload_n 0, 1, [], 0, 0, []), (15, .getfield 20, 3, [6, 1, 236], 0, 0, []), (18, .invokevirtual 31, 3, [30, 0, 1, 2, 674, 350, 93, 352, 351], 0, 0, []), (21, .if_icmp .ge (40), 3, [61], 0, 0, []), (24, .aload_n 0, 1, [], 0, 0, []), (25, .getfield 20, 3, [6, 1, 236], 0, 0, []), (28, .iload_n 3, 1, [], 0, 0, []), (29, .invokevirtual 44, 3, [38, 1, 2, 2, 675, 386, 93, 388, 387], 0, 0, []), (32, .iload_n 1, 1, [], 0, 0, []), (33, .iload_n 2, 1, [], 0, 0, []), (34, .invokestatic 162, 3, [190, 3, 1, 807, 808, 100, 809], 0, 0, []), (37, .ifCond .eq (18), 3, [55], 0, 0, []), (40, .aload_n 0, 1, [], 0, 0, []), (41, .getfield 14, 3, [6, 0, 235], 0, 0, []), (44, .aload_n 0, 1, [], 0, 0, []), (45, .getfield 20, 3, [6, 1, 236], 0, 0, []), (48, .iload_n 3, 1, [], 0, 0, []), (49, .invokevirtual 44, 3, [38, 1, 2, 2, 675, 386, 93, 388, 387], 0, 0, []), (52, .invokevirtual 143, 3, [179, 1, 0, 2, 785, 786, 93, 788, 787], 0, 0, []), (55, .iinc 3 (1), 3, [], 1, 0, []), (58, .goto (-45), 3, [13], 0, 0, []), (61, .iconst (0), 1, [], 0, 0, []), (62, .istore_n 3, 1, [], 0, 0, []), (63, .iload_n 3, 1, [], 0, 0, []), (64, .aload_n 0, 1, [], 0, 0, []), (65, .getfield 20, 3, [6, 1, 236], 0, 0, []), (68, .invokevirtual 31, 3, [30, 0, 1, 2, 674, 350, 93, 352, 351], 0, 0, []), (71, .if_icmp .ge (37), 3, [108], 0, 0, []), (74, .aload_n 0, 1, [], 0, 0, []), (75, .getfield 20, 3, [6, 1, 236], 0, 0, []), (78, .iload_n 3, 1, [], 0, 0, []), (79, .invokevirtual 44, 3, [38, 1, 2, 2, 675, 386, 93, 388, 387], 0, 0, []), (82, .iload_n 1, 1, [], 0, 0, []), (83, .iload_n 2, 1, [], 0, 0, []), (84, .invokestatic 162, 3, [190, 3, 1, 807, 808, 100, 809], 0, 0, []), (87, .ifCond .eq (15), 3, [102], 0, 0, []), (90, .aload_n 0, 1, [], 0, 0, []), (91, .aload_n 0, 1, [], 0, 0, []), (92, .getfield 20, 3, [6, 1, 236], 0, 0, []), (95, .iload_n 3, 1, [], 0, 0, []), (96, .invokevirtual 44, 3, [38, 1, 2, 2, 675, 386, 93, 388, 387], 0, 0, []), (99, .invokevirtual 165, 3, [191, 1, 0, 6, 810, 812, 98, 813, 29], 0, 0, []), (102, .iinc 3 (1), 3, [], 1, 0, []), (105, .goto (-42), 3, [63], 0, 0, []), (108, .return_, 1, [], 0, 0, [])]
def wX7_isRecursive : List si_row := [(0, .iconst (0), 1, [], 0, 0, []), (1, .istore_n 2, 1, [], 0, 0, []), (2, .iload_n 2, 1, [], 0, 0, []), (3, .aload_n 0, 1, [], 0, 0, []), (4, .getfield 14, 3, [6, 0, 235], 0, 0, []), (7, .invokevirtual 31, 3, [30, 0, 1, 2, 674, 350, 93, 352, 351], 0, 0, []), (10, .if_icmp .ge (27), 3, [37], 0, 0, []), (13, .aload_n 0, 1, [], 0, 0, []), (14, .getfield 14, 3, [6, 0, 235], 0, 0, []), (17, .iload_n 2, 1, [], 0, 0, []), (18, .invokevirtual 44, 3, [38, 1, 2, 2, 675, 386, 93, 388, 387], 0, 0, []), (21, .iload_n 1, 1, [], 0, 0, []), (22, .iload_n 1, 1, [], 0, 0, []), (23, .invokestatic 162, 3, [190, 3, 1, 807, 808, 100, 809], 0, 0, []), (26, .ifCond .eq (5), 3, [31], 0, 0, []), (29, .iconst (1), 1, [], 1, 0, []), (30, .ireturn, 1, [], 0, 0, []), (31, .iinc 2 (1), 3, [], 1, 0, []), (34, .goto (-32), 3, [2], 0, 0, []), (37, .iconst (0), 1, [], 0, 0, []), (38, .ireturn, 1, [], 0, 0, [])]
def wX7_turnRecursion : List si_row := [(0, .aload_n 0, 1, [], 0, 0, []), (1, .getfield 14, 3, [6, 0, 235], 0, 0, []), (4, .iload_n 1, 1, [], 0, 0, []), (5, .invokestatic 108, 3, [23, 1, 2, 732, 324, 100, 325], 0, 0, []), (8, .iload_n 1, 1, [], 0, 0, []), (9, .invokestatic 131, 3, [28, 2, 2, 771, 343, 100, 344], 0, 0, []), (12, .invokevirtual 143, 3, [179, 1, 0, 2, 785, 786, 93, 788, 787], 0, 0, []), (15, .aload_n 0, 1, [], 0, 0, []), (16, .iload_n 1, 1, [], 0, 0, []), (17, .invokevirtual 168, 3, [193, 1, 1, 6, 818, 820, 98, 821, 31], 0, 0, []), (20, .ifCond .ne (4), 3, [24], 0, 0, []), (23, .return_, 1, [], 0, 0, []), (24, .aload_n 0, 1, [], 0, 0, []), (25, .getfield 14, 3, [6, 0, 235], 0, 0, []), (28, .invokevirtual 121, 3, [173, 0, 1, 2, 754, 755, 93, 757, 756], 0, 0, []), (31, .istore_n 2, 1, [], 0, 0, []), (32, .iload_n 2, 1, [], 0, 0, []), (33, .iconst (-1), 1, [], -1, 0, []), (34, .if_icmp .ne (11), 3, [45], 0, 0, []), (37, .aload_n 0, 1, [], 0, 0, []), (38, .getfield 14, 3, [6, 0, 235], 0, 0, []), (41, .invokevirtual 124, 3, [174, 0, 0, 2, 764, 765, 93, 767, 766], 0, 0, []), (44, .return_, 1, [], 0, 0, []), (45, .aload_n 0, 1, [], 0, 0, []), (46, .invokevirtual 41, 3, [148, 0, 0, 6, 669, 671, 98, 672, 20], 0, 0, []), (49, .iconst (0), 1, [], 0, 0, []), (50, .istore_n 3, 1, [], 0, 0, []), (51, .iload_n 3, 1, [], 0, 0, [4, 5]), (52, .aload_n 0, 1, [], 0, 0, []), (53, .getfield 20, 3, [6, 1, 236], 0, 0, []), (56, .invokevirtual 31, 3, [30, 0, 1, 2, 674, 350, 93, 352, 351], 0, 0, []), (59, .if_icmp .ge (88), 3, [147], 0, 0, []), (62, .aload_n 0, 1, [], 0, 0, []), (63, .getfield 20, 3, [6, 1, 236], 0, 0, []), (66, .iload_n 3, 1, [], 0, 0, []), (67, .invokevirtual 44, 3, [38, 1, 2, 2, 675, 386, 93, 388, 387], 0, 0, []), (70, .lstore 4, 2, [], 0, 0, []), (72, .lload 4, 2, [], 0, 0, []), (74, .iload_n 1, 1, [], 0, 0, []), (75, .iload_n 1, 1, [], 0, 0, []), (76, .invokestatic 162, 3, [190, 3, 1, 807, 808, 100, 809], 0, 0, []), (79, .ifCond .eq (31), 3, [110], 0, 0, []), (82, .iload_n 2, 1, [], 0, 0, []), (83, .invokestatic 108, 3, [23, 1, 2, 732, 324, 100, 325], 0, 0, []), (86, .lload 4, 2, [], 0, 0, []), (88, .iconst (1), 1, [], 1, 0, []), (89, .invokestatic 111, 3, [165, 3, 2, 733, 734, 100, 735], 0, 0, []), (92, .lstore 4, 2, [], 0, 0, []), (94, .aload_n 0, 1, [], 0, 0, []), (95, .getfield 14, 3, [6, 0, 235], 0, 0, []), (98, .lload 4, 2, [], 0, 0, []), (100, .iload_n 2, 1, [], 0, 0, []), (101, .invokestatic 131, 3, [28, 2, 2, 771, 343, 100, 344], 0, 0, []), (104, .invokevirtual 53, 3, [25, 1, 0, 2, 678, 327, 93, 329, 328], 0, 0, []), (107, .goto (25), 3, [132], 0, 0, []), (110, .lload 4, 2, [], 0, 0, []), (112, .invokestatic 66, 3, [39, 1, 1, 681, 394, 100, 395], 0, 0, []), (115, .iload_n 1, 1, [], 0, 0, []), (116, .if_icmp .ne (16), 3, [132], 0, 0, []), (119, .aload_n 0, 1, [], 0, 0, []), (120, .getfield 14, 3, [6, 0, 235], 0, 0, []), (123, .lload 4, 2, [], 0, 0, []), (125, .iload_n 2, 1, [], 0, 0, []), (126, .invokestatic 131, 3, [28, 2, 2, 771, 343, 100, 344], 0, 0, []), (129, .invokevirtual 53, 3, [25, 1, 0, 2, 678, 327, 93, 329, 328], 0, 0, []), (132, .aload_n 0, 1, [], 0, 0, []), (133, .getfield 14, 3, [6, 0, 235], 0, 0, []), (136, .lload 4, 2, [], 0, 0, []), (138, .invokevirtual 53, 3, [25, 1, 0, 2, 678, 327, 93, 329, 328], 0, 0, []), (141, .iinc 3 (1), 3, [], 1, 0, []), (144, .goto (-93), 3, [51], 0, 0, []), (147, .return_, 1, [], 0, 0, [])]
def wX7_treatLeft : List si_row := [(0, .iconst (0), 1, [], 0, 0, []), (1, .istore_n 3, 1, [], 0, 0, []), (2, .iload_n 3, 1, [], 0, 0, []), (3, .iload_n 1, 1, [], 0, 0, []), (4, .if_icmp .ge (33), 3, [37], 0, 0, []), (7, .aload_n 0, 1, [], 0, 0, []), (8, .getfield 14, 3, [6, 0, 235], 0, 0, []), (11, .invokevirtual 27, 3, [150, 0, 1, 2, 687, 688, 93, 690, 689], 0, 0, []), (14, .ifCond .ne (23), 3, [37], 0, 0, []), (17, .iload_n 2, 1, [], 0, 0, []), (18, .iload_n 3, 1, [], 0, 0, []), (19, .invokestatic 70, 3, [57, 2, 1, 682, 451, 91, 452], 0, 0, []), (22, .ifCond .eq (9), 3, [31], 0, 0, []), (25, .aload_n 0, 1, [], 0, 0, []), (26, .iload_n 1, 1, [], 0, 0, []), (27, .iload_n 3, 1, [], 0, 0, []), (28, .invokevirtual 155, 3, [192, 2, 0, 6, 803, 805, 98, 806, 28], 0, 0, []), (31, .iinc 3 (1), 3, [], 1, 0, []), (34, .goto (-32), 3, [2], 0, 0, []), (37, .aload_n 0, 1, [], 0, 0, []), (38, .getfield 14, 3, [6, 0, 235], 0, 0, []), (41, .invokevirtual 27, 3, [150, 0, 1, 2, 687, 688, 93, 690, 689], 0, 0, []), (44, .ifCond .ne (8), 3, [52], 0, 0, []), (47, .aload_n 0, 1, [], 0, 0, []), (48, .iload_n 1, 1, [], 0, 0, []), (49, .invokevirtual 158, 3, [194, 1, 0, 6, 814, 816, 98, 817, 30], 0, 0, []), (52, .return_, 1, [], 0, 0, [])]
def wX7_dropLeftRecursion : List si_row := [(0, .aload_n 0, 1, [], 0, 0, []), (1, .getfield 14, 3, [6, 0, 235], 0, 0, []), (4, .invokevirtual 149, 3, [172, 0, 1, 2, 798, 759, 93, 761, 760], 0, 0, []), (7, .istore_n 1, 1, [], 0, 0, []), (8, .iconst (0), 1, [], 0, 0, []), (9, .istore_n 2, 1, [], 0, 0, []), (10, .iload_n 2, 1, [], 0, 0, []), (11, .bipush (16), 2, [], 16, 0, []), (13, .if_icmp .ge (33), 3, [46], 0, 0, []), (16, .aload_n 0, 1, [], 0, 0, []), (17, .getfield 14, 3, [6, 0, 235], 0, 0, []), (20, .invokevirtual 27, 3, [150, 0, 1, 2, 687, 688, 93, 690, 689], 0, 0, []), (23, .ifCond .ne (23), 3, [46], 0, 0, []), (26, .iload_n 1, 1, [], 0, 0, []), (27, .iload_n 2, 1, [], 0, 0, []), (28, .invokestatic 70, 3, [57, 2, 1, 682, 451, 91, 452], 0, 0, []), (31, .ifCond .eq (9), 3, [40], 0, 0, []), (34, .aload_n 0, 1, [], 0, 0, []), (35, .iload_n 2, 1, [], 0, 0, []), (36, .iload_n 1, 1, [], 0, 0, []), (37, .invokevirtual 152, 3, [195, 2, 0, 6, 799, 801, 98, 802, 27], 0, 0, []), (40, .iinc 2 (1), 3, [], 1, 0, []), (43, .goto (-33), 3, [10], 0, 0, []), (46, .return_, 1, [], 0, 0, [])]
def wX8_removeLeftRecursion : List si_row := [(0, .aload_n 0, 1, [], 0, 0, []), (1, .invokevirtual 107, 3, [61, 0, 1, 7, 421, 423, 91, 424, 5], 0, 0, []), (4, .ifCond .eq (6), 3, [10], 0, 0, []), (7, .bipush (-8), 2, [], -8, 0, []), (9, .ireturn, 1, [], 0, 0, []), (10, .aload_n 0, 1, [], 0, 0, []), (11, .getfield 61, 3, [7, 8, 250], 0, 0, []), (14, .aload_n 0, 1, [], 0, 0, []), (15, .getfield 19, 3, [7, 1, 243], 0, 0, []), (18, .invokevirtual 180, 3, [147, 1, 0, 6, 656, 657, 98, 659, 658], 0, 0, []), (21, .aload_n 0, 1, [], 0, 0, []), (22, .getfield 61, 3, [7, 8, 250], 0, 0, []), (25, .invokevirtual 210, 3, [196, 0, 0, 6, 794, 795, 98, 797, 796], 0, 0, []), (28, .aload_n 0, 1, [], 0, 0, []), (29, .getfield 61, 3, [7, 8, 250], 0, 0, []), (32, .aload_n 0, 1, [], 0, 0, []), (33, .getfield 19, 3, [7, 1, 243], 0, 0, []), (36, .invokevirtual 187, 3, [151, 1, 1, 6, 683, 684, 98, 686, 685], 0, 0, []), (39, .ireturn, 1, [], 0, 0, [])]
def wX9_putTold : List si_row := [(0, .iconst (0), 1, [], 0, 0, []), (1, .istore 4, 2, [], 0, 0, []), (3, .iload 4, 2, [], 0, 0, [2]), (5, .aload_n 0, 1, [], 0, 0, []), (6, .getfield 227, 3, [8, 26, 967], 0, 0, []), (9, .if_icmp .ge (68), 3, [77], 0, 0, []), (12, .aload_n 0, 1, [], 0, 0, []), (13, .getfield 53, 3, [8, 25, 966], 0, 0, []), (16, .iload 4, 2, [], 0, 0, []), (18, .laload, 1, [], 0, 0, []), (19, .invokestatic 90, 3, [17, 1, 1, 1066, 1067, 99, 1068], 0, 0, []), (22, .iload_n 3, 1, [], 0, 0, []), (23, .if_icmp .ne (48), 3, [71], 0, 0, []), (26, .aload_n 0, 1, [], 0, 0, []), (27, .iconst (0), 1, [], 0, 0, []), (28, .putfield 114, 3, [8, 14, 955], 0, 0, []), (31, .aload_n 0, 1, [], 0, 0, []), (32, .aload_n 0, 1, [], 0, 0, []), (33, .getfield 53, 3, [8, 25, 966], 0, 0, []), (36, .iload 4, 2, [], 0, 0, []), (38, .laload, 1, [], 0, 0, []), (39, .iconst (0), 1, [], 0, 0, []), (40, .aload_n 0, 1, [], 0, 0, []), (41, .getfield 53, 3, [8, 25, 966], 0, 0, []), (44, .iload 4, 2, [], 0, 0, []), (46, .laload, 1, [], 0, 0, []), (47, .invokestatic 160, 3, [88, 1, 1, 1148, 1149, 99, 1150], 0, 0, []), (50, .invokevirtual 250, 3, [169, 3, 0, 8, 1283, 1285, 99, 1286, 73], 0, 0, []), (53, .aload_n 0, 1, [], 0, 0, []), (54, .lload_n 1, 1, [], 0, 0, []), (55, .iconst (1), 1, [], 1, 0, []), (56, .lload_n 1, 1, [], 0, 0, []), (57, .invokestatic 160, 3, [88, 1, 1, 1148, 1149, 99, 1150], 0, 0, []), (60, .invokevirtual 250, 3, [169, 3, 0, 8, 1283, 1285, 99, 1286, 73], 0, 0, []), (63, .aload_n 0, 1, [], 0, 0, []), (64, .lload_n 1, 1, [], 0, 0, []), (65, .invokestatic 90, 3, [17, 1, 1, 1066, 1067, 99, 1068], 0, 0, []), (68, .invokevirtual 242, 3, [162, 1, 0, 8, 1275, 1277, 99, 1278, 72], 0, 0, []), (71, .iinc 4 (1), 3, [], 1, 0, []), (74, .goto (-71), 3, [3], 0, 0, []), (77, .return_, 1, [], 0, 0, [])]
def wX9_tell : List si_row := [(0, .aload_n 0, 1, [], 0, 0, []), (1, .invokevirtual 94, 3, [13, 0, 0, 8, 1048, 1050, 99, 1051, 41], 0, 0, []), (4, .iconst (0), 1, [], 0, 0, []), (5, .istore_n 3, 1, [], 0, 0, []), (6, .iload_n 3, 1, [], 0, 0, []), (7, .aload_n 0, 1, [], 0, 0, []), (8, .getfield 227, 3, [8, 26, 967], 0, 0, []), (11, .if_icmp .ge (62), 3, [73], 0, 0, []), (14, .aload_n 0, 1, [], 0, 0, []), (15, .getfield 53, 3, [8, 25, 966], 0, 0, []), (18, .iload_n 3, 1, [], 0, 0, []), (19, .laload, 1, [], 0, 0, []), (20, .invokestatic 90, 3, [17, 1, 1, 1066, 1067, 99, 1068], 0, 0, []), (23, .iload_n 1, 1, [], 0, 0, []), (24, .if_icmp .ne (33), 3, [57], 0, 0, []), (27, .aload_n 0, 1, [], 0, 0, []), (28, .getfield 53, 3, [8, 25, 966], 0, 0, []), (31, .iload_n 3, 1, [], 0, 0, []), (32, .laload, 1, [], 0, 0, []), (33, .iconst (0), 1, [], 0, 0, []), (34, .invokestatic 56, 3, [50, 2, 1, 1089, 1090, 99, 1091], 0, 0, []), (37, .iload_n 2, 1, [], 0, 0, []), (38, .iconst (1), 1, [], 1, 0, []), (39, .iadd, 1, [], 0, 0, []), (40, .if_icmp .ne (17), 3, [57], 0, 0, []), (43, .aload_n 0, 1, [], 0, 0, []), (44, .aload_n 0, 1, [], 0, 0, []), (45, .getfield 53, 3, [8, 25, 966], 0, 0, []), (48, .iload_n 3, 1, [], 0, 0, []), (49, .laload, 1, [], 0, 0, []), (50, .iload_n 2, 1, [], 0, 0, []), (51, .invokevirtual 273, 3, [198, 2, 0, 8, 1326, 1328, 99, 1329, 81], 0, 0, []), (54, .goto (13), 3, [67], 0, 0, []), (57, .aload_n 0, 1, [], 0, 0, []), (58, .aload_n 0, 1, [], 0, 0, []), (59, .getfield 53, 3, [8, 25, 966], 0, 0, []), (62, .iload_n 3, 1, [], 0, 0, []), (63, .laload, 1, [], 0, 0, []), (64, .invokevirtual 86, 3, [16, 1, 0, 8, 1062, 1064, 99, 1065, 43], 0, 0, []), (67, .iinc 3 (1), 3, [], 1, 0, []), (70, .goto (-64), 3, [6], 0, 0, []), (73, .aload_n 0, 1, [], 0, 0, []), (74, .invokevirtual 236, 3, [154, 0, 0, 8, 1259, 1261, 99, 1262, 69], 0, 0, []), (77, .return_, 1, [], 0, 0, [])]
def wX9_beginsWithItself : List si_row := [(0, .lload_n 1, 1, [], 0, 0, []), (1, .iconst (0), 1, [], 0, 0, []), (2, .invokestatic 56, 3, [50, 2, 1, 1089, 1090, 99, 1091], 0, 0, []), (5, .lload_n 1, 1, [], 0, 0, []), (6, .invokestatic 90, 3, [17, 1, 1, 1066, 1067, 99, 1068], 0, 0, []), (9, .iconst (1), 1, [], 1, 0, []), (10, .iadd, 1, [], 0, 0, []), (11, .if_icmp .ne (7), 3, [18], 0, 0, []), (14, .iconst (1), 1, [], 1, 0, []), (15, .goto (4), 3, [19], 0, 0, []), (18, .iconst (0), 1, [], 0, 0, []), (19, .ireturn, 1, [], 0, 0, [])]
def wX9_putTail : List si_row := [(0, .lload_n 1, 1, [], 0, 0, []), (1, .invokestatic 160, 3, [88, 1, 1, 1148, 1149, 99, 1150], 0, 0, []), (4, .iconst (1), 1, [], 1, 0, []), (5, .if_icmp .le (50), 3, [55], 0, 0, []), (8, .aload_n 0, 1, [], 0, 0, []), (9, .iconst (0), 1, [], 0, 0, []), (10, .putfield 114, 3, [8, 14, 955], 0, 0, []), (13, .aload_n 0, 1, [], 0, 0, []), (14, .lload_n 1, 1, [], 0, 0, []), (15, .iconst (1), 1, [], 1, 0, []), (16, .lload_n 1, 1, [], 0, 0, []), (17, .invokestatic 160, 3, [88, 1, 1, 1148, 1149, 99, 1150], 0, 0, []), (20, .invokevirtual 250, 3, [169, 3, 0, 8, 1283, 1285, 99, 1286, 73], 0, 0, []), (23, .aload_n 0, 1, [], 0, 0, []), (24, .iload_n 3, 1, [], 0, 0, []), (25, .invokevirtual 242, 3, [162, 1, 0, 8, 1275, 1277, 99, 1278, 72], 0, 0, []), (28, .aload_n 0, 1, [], 0, 0, []), (29, .getfield 23, 3, [8, 13, 954], 0, 0, []), (32, .aload_n 0, 1, [], 0, 0, []), (33, .getfield 114, 3, [8, 14, 955], 0, 0, []), (36, .iload_n 3, 1, [], 0, 0, []), (37, .iconst (1), 1, [], 1, 0, []), (38, .iadd, 1, [], 0, 0, []), (39, .iastore, 1, [], 0, 0, []), (40, .aload_n 0, 1, [], 0, 0, []), (41, .dup, 1, [], 0, 0, []), (42, .getfield 114, 3, [8, 14, 955], 0, 0, []), (45, .iconst (1), 1, [], 1, 0, []), (46, .iadd, 1, [], 0, 0, []), (47, .putfield 114, 3, [8, 14, 955], 0, 0, []), (50, .aload_n 0, 1, [], 0, 0, []), (51, .iload_n 3, 1, [], 0, 0, []), (52, .invokevirtual 242, 3, [162, 1, 0, 8, 1275, 1277, 99, 1278, 72], 0, 0, []), (55, .return_, 1, [], 0, 0, [])]
def wX9_unwind : List si_row := [(0, .iconst (0), 1, [], 0, 0, []), (1, .istore_n 2, 1, [], 0, 0, []), (2, .iconst (0), 1, [], 0, 0, []), (3, .istore_n 3, 1, [], 0, 0, []), (4, .iload_n 3, 1, [], 0, 0, [4]), (5, .aload_n 0, 1, [], 0, 0, []), (6, .getfield 227, 3, [8, 26, 967], 0, 0, []), (9, .if_icmp .ge (58), 3, [67], 0, 0, []), (12, .iload_n 2, 1, [], 0, 0, []), (13, .ifCond .ne (42), 3, [55], 0, 0, []), (16, .aload_n 0, 1, [], 0, 0, []), (17, .getfield 53, 3, [8, 25, 966], 0, 0, []), (20, .iload_n 3, 1, [], 0, 0, []), (21, .laload, 1, [], 0, 0, []), (22, .invokestatic 90, 3, [17, 1, 1, 1066, 1067, 99, 1068], 0, 0, []), (25, .iload_n 1, 1, [], 0, 0, []), (26, .if_icmp .ne (33), 3, [59], 0, 0, []), (29, .aload_n 0, 1, [], 0, 0, []), (30, .aload_n 0, 1, [], 0, 0, []), (31, .getfield 53, 3, [8, 25, 966], 0, 0, []), (34, .iload_n 3, 1, [], 0, 0, []), (35, .laload, 1, [], 0, 0, []), (36, .invokevirtual 277, 3, [200, 1, 1, 8, 1334, 1336, 99, 1337, 83], 0, 0, []), (39, .ifCond .eq (20), 3, [59], 0, 0, []), (42, .aload_n 0, 1, [], 0, 0, []), (43, .getfield 53, 3, [8, 25, 966], 0, 0, []), (46, .iload_n 3, 1, [], 0, 0, []), (47, .laload, 1, [], 0, 0, []), (48, .invokestatic 160, 3, [88, 1, 1, 1148, 1149, 99, 1150], 0, 0, []), (51, .iconst (1), 1, [], 1, 0, []), (52, .if_icmp .le (7), 3, [59], 0, 0, []), (55, .iconst (1), 1, [], 1, 0, []), (56, .goto (4), 3, [60], 0, 0, []), (59, .iconst (0), 1, [], 0, 0, []), (60, .istore_n 2, 1, [], 0, 0, []), (61, .iinc 3 (1), 3, [], 1, 0, []), (64, .goto (-60), 3, [4], 0, 0, []), (67, .iload_n 2, 1, [], 0, 0, []), (68, .ifCond .eq (10), 3, [78], 0, 0, []), (71, .aload_n 0, 1, [], 0, 0, []), (72, .invokevirtual 256, 3, [185, 0, 1, 8, 1306, 1308, 99, 1309, 77], 0, 0, []), (75, .goto (4), 3, [79], 0, 0, []), (78, .iconst (-1), 1, [], -1, 0, []), (79, .istore_n 3, 1, [], 0, 0, []), (80, .aload_n 0, 1, [], 0, 0, []), (81, .getfield 230, 3, [8, 27, 968], 0, 0, []), (84, .ifCond .eq (4), 3, [88], 0, 0, []), (87, .return_, 1, [], 0, 0, []), (88, .aload_n 0, 1, [], 0, 0, []), (89, .invokevirtual 94, 3, [13, 0, 0, 8, 1048, 1050, 99, 1051, 41], 0, 0, []), (92, .iconst (0), 1, [], 0, 0, []), (93, .istore 4, 2, [], 0, 0, []), (95, .iload 4, 2, [], 0, 0, []), (97, .aload_n 0, 1, [], 0, 0, []), (98, .getfield 227, 3, [8, 26, 967], 0, 0, []), (101, .if_icmp .ge (135), 3, [236], 0, 0, []), (104, .aload_n 0, 1, [], 0, 0, []), (105, .getfield 53, 3, [8, 25, 966], 0, 0, []), (108, .iload 4, 2, [], 0, 0, []), (110, .laload, 1, [], 0, 0, []), (111, .invokestatic 90, 3, [17, 1, 1, 1066, 1067, 99, 1068], 0, 0, []), (114, .iload_n 1, 1, [], 0, 0, []), (115, .if_icmp .ne (32), 3, [147], 0, 0, []), (118, .aload_n 0, 1, [], 0, 0, []), (119, .aload_n 0, 1, [], 0, 0, []), (120, .getfield 53, 3, [8, 25, 966], 0, 0, []), (123, .iload 4, 2, [], 0, 0, []), (125, .laload, 1, [], 0, 0, []), (126, .invokevirtual 277, 3, [200, 1, 1, 8, 1334, 1336, 99, 1337, 83], 0, 0, []), (129, .ifCond .eq (18), 3, [147], 0, 0, []), (132, .aload_n 0, 1, [], 0, 0, []), (133, .aload_n 0, 1, [], 0, 0, []), (134, .getfield 53, 3, [8, 25, 966], 0, 0, []), (137, .iload 4, 2, [], 0, 0, []), (139, .laload, 1, [], 0, 0, []), (140, .iload_n 3, 1, [], 0, 0, []), (141, .invokevirtual 280, 3, [201, 2, 0, 8, 1338, 1340, 99, 1341, 84], 0, 0, []), (144, .goto (86), 3, [230], 0, 0, []), (147, .aload_n 0, 1, [], 0, 0, []), (148, .aload_n 0, 1, [], 0, 0, []), (149, .getfield 53, 3, [8, 25, 966], 0, 0, []), (152, .iload 4, 2, [], 0, 0, []), (154, .laload, 1, [], 0, 0, []), (155, .invokevirtual 86, 3, [16, 1, 0, 8, 1062, 1064, 99, 1065, 43], 0, 0, []), (158, .aload_n 0, 1, [], 0, 0, []), (159, .getfield 53, 3, [8, 25, 966], 0, 0, []), (162, .iload 4, 2, [], 0, 0, []), (164, .laload, 1, [], 0, 0, []), (165, .invokestatic 90, 3, [17, 1, 1, 1066, 1067, 99, 1068], 0, 0, []), (168, .iload_n 1, 1, [], 0, 0, []), (169, .if_icmp .ne (61), 3, [230], 0, 0, []), (172, .iload_n 2, 1, [], 0, 0, []), (173, .ifCond .eq (57), 3, [230], 0, 0, []), (176, .aload_n 0, 1, [], 0, 0, []), (177, .iconst (0), 1, [], 0, 0, []), (178, .putfield 114, 3, [8, 14, 955], 0, 0, []), (181, .aload_n 0, 1, [], 0, 0, []), (182, .aload_n 0, 1, [], 0, 0, []), (183, .getfield 53, 3, [8, 25, 966], 0, 0, []), (186, .iload 4, 2, [], 0, 0, []), (188, .laload, 1, [], 0, 0, []), (189, .iconst (0), 1, [], 0, 0, []), (190, .aload_n 0, 1, [], 0, 0, []), (191, .getfield 53, 3, [8, 25, 966], 0, 0, []), (194, .iload 4, 2, [], 0, 0, []), (196, .laload, 1, [], 0, 0, []), (197, .invokestatic 160, 3, [88, 1, 1, 1148, 1149, 99, 1150], 0, 0, []), (200, .invokevirtual 250, 3, [169, 3, 0, 8, 1283, 1285, 99, 1286, 73], 0, 0, []), (203, .aload_n 0, 1, [], 0, 0, []), (204, .getfield 23, 3, [8, 13, 954], 0, 0, []), (207, .aload_n 0, 1, [], 0, 0, []), (208, .getfield 114, 3, [8, 14, 955], 0, 0, []), (211, .iload_n 3, 1, [], 0, 0, []), (212, .iconst (1), 1, [], 1, 0, []), (213, .iadd, 1, [], 0, 0, []), (214, .iastore, 1, [], 0, 0, []), (215, .aload_n 0, 1, [], 0, 0, []), (216, .dup, 1, [], 0, 0, []), (217, .getfield 114, 3, [8, 14, 955], 0, 0, []), (220, .iconst (1), 1, [], 1, 0, []), (221, .iadd, 1, [], 0, 0, []), (222, .putfield 114, 3, [8, 14, 955], 0, 0, []), (225, .aload_n 0, 1, [], 0, 0, []), (226, .iload_n 1, 1, [], 0, 0, []), (227, .invokevirtual 242, 3, [162, 1, 0, 8, 1275, 1277, 99, 1278, 72], 0, 0, []), (230, .iinc 4 (1), 3, [], 1, 0, []), (233, .goto (-138), 3, [95], 0, 0, []), (236, .aload_n 0, 1, [], 0, 0, []), (237, .invokevirtual 236, 3, [154, 0, 0, 8, 1259, 1261, 99, 1262, 69], 0, 0, []), (240, .return_, 1, [], 0, 0, [])]
def wX9_unwindAll : List si_row := [(0, .iconst (0), 1, [], 0, 0, []), (1, .istore_n 1, 1, [], 0, 0, []), (2, .iconst (0), 1, [], 0, 0, []), (3, .istore_n 2, 1, [], 0, 0, []), (4, .iload_n 2, 1, [], 0, 0, [3]), (5, .aload_n 0, 1, [], 0, 0, []), (6, .getfield 227, 3, [8, 26, 967], 0, 0, []), (9, .if_icmp .ge (23), 3, [32], 0, 0, []), (12, .iload_n 1, 1, [], 0, 0, []), (13, .iconst (1), 1, [], 1, 0, []), (14, .aload_n 0, 1, [], 0, 0, []), (15, .getfield 53, 3, [8, 25, 966], 0, 0, []), (18, .iload_n 2, 1, [], 0, 0, []), (19, .laload, 1, [], 0, 0, []), (20, .invokestatic 90, 3, [17, 1, 1, 1066, 1067, 99, 1068], 0, 0, []), (23, .ishl, 1, [], 0, 0, []), (24, .ior, 1, [], 0, 0, []), (25, .istore_n 1, 1, [], 0, 0, []), (26, .iinc 2 (1), 3, [], 1, 0, []), (29, .goto (-25), 3, [4], 0, 0, []), (32, .iconst (0), 1, [], 0, 0, []), (33, .istore_n 2, 1, [], 0, 0, []), (34, .iload_n 2, 1, [], 0, 0, [3]), (35, .bipush (16), 2, [], 16, 0, []), (37, .if_icmp .ge (72), 3, [109], 0, 0, []), (40, .aload_n 0, 1, [], 0, 0, []), (41, .getfield 230, 3, [8, 27, 968], 0, 0, []), (44, .ifCond .ne (65), 3, [109], 0, 0, []), (47, .iload_n 1, 1, [], 0, 0, []), (48, .iload_n 2, 1, [], 0, 0, []), (49, .ishr, 1, [], 0, 0, []), (50, .iconst (1), 1, [], 1, 0, []), (51, .iand, 1, [], 0, 0, []), (52, .iconst (1), 1, [], 1, 0, []), (53, .if_icmp .ne (50), 3, [103], 0, 0, []), (56, .iconst (0), 1, [], 0, 0, []), (57, .istore_n 3, 1, [], 0, 0, []), (58, .iload_n 3, 1, [], 0, 0, []), (59, .iload_n 2, 1, [], 0, 0, []), (60, .if_icmp .ge (31), 3, [91], 0, 0, []), (63, .aload_n 0, 1, [], 0, 0, []), (64, .getfield 230, 3, [8, 27, 968], 0, 0, []), (67, .ifCond .ne (24), 3, [91], 0, 0, []), (70, .iload_n 1, 1, [], 0, 0, []), (71, .iload_n 3, 1, [], 0, 0, []), (72, .ishr, 1, [], 0, 0, []), (73, .iconst (1), 1, [], 1, 0, []), (74, .iand, 1, [], 0, 0, []), (75, .iconst (1), 1, [], 1, 0, []), (76, .if_icmp .ne (9), 3, [85], 0, 0, []), (79, .aload_n 0, 1, [], 0, 0, []), (80, .iload_n 2, 1, [], 0, 0, []), (81, .iload_n 3, 1, [], 0, 0, []), (82, .invokevirtual 283, 3, [199, 2, 0, 8, 1322, 1324, 99, 1325, 80], 0, 0, []), (85, .iinc 3 (1), 3, [], 1, 0, []), (88, .goto (-30), 3, [58], 0, 0, []), (91, .aload_n 0, 1, [], 0, 0, []), (92, .getfield 230, 3, [8, 27, 968], 0, 0, []), (95, .ifCond .ne (8), 3, [103], 0, 0, []), (98, .aload_n 0, 1, [], 0, 0, []), (99, .iload_n 2, 1, [], 0, 0, []), (100, .invokevirtual 286, 3, [202, 1, 0, 8, 1330, 1332, 99, 1333, 82], 0, 0, []), (103, .iinc 2 (1), 3, [], 1, 0, []), (106, .goto (-72), 3, [34], 0, 0, []), (109, .return_, 1, [], 0, 0, [])]
def wX9_removeLeftRecursion : List si_row := [(0, .aload_n 0, 1, [], 0, 0, []), (1, .invokevirtual 148, 3, [74, 0, 1, 8, 1101, 1103, 99, 1104, 48], 0, 0, []), (4, .ifCond .ne (10), 3, [14], 0, 0, []), (7, .aload_n 0, 1, [], 0, 0, []), (8, .invokevirtual 151, 3, [80, 0, 1, 8, 1108, 1110, 99, 1111, 49], 0, 0, []), (11, .ifCond .eq (6), 3, [17], 0, 0, []), (14, .bipush (-8), 2, [], -8, 0, []), (16, .ireturn, 1, [], 0, 0, []), (17, .aload_n 0, 1, [], 0, 0, []), (18, .invokevirtual 233, 3, [153, 0, 0, 8, 1255, 1257, 99, 1258, 68], 0, 0, []), (21, .aload_n 0, 1, [], 0, 0, []), (22, .invokevirtual 289, 3, [203, 0, 0, 8, 1318, 1320, 99, 1321, 79], 0, 0, []), (25, .aload_n 0, 1, [], 0, 0, []), (26, .invokevirtual 239, 3, [155, 0, 1, 8, 1263, 1265, 99, 1266, 70], 0, 0, []), (29, .ireturn, 1, [], 0, 0, [])]
def wX7_sharedLength : List si_row := [(0, .lload_n 0, 1, [], 0, 0, []), (1, .invokestatic 66, 3, [39, 1, 1, 681, 394, 100, 395], 0, 0, []), (4, .lload_n 2, 1, [], 0, 0, []), (5, .invokestatic 66, 3, [39, 1, 1, 681, 394, 100, 395], 0, 0, []), (8, .if_icmp .eq (5), 3, [13], 0, 0, []), (11, .iconst (0), 1, [], 0, 0, []), (12, .ireturn, 1, [], 0, 0, []), (13, .lload_n 0, 1, [], 0, 0, []), (14, .invokestatic 81, 3, [27, 1, 1, 704, 346, 100, 347], 0, 0, []), (17, .lload_n 2, 1, [], 0, 0, []), (18, .invokestatic 81, 3, [27, 1, 1, 704, 346, 100, 347], 0, 0, []), (21, .invokestatic 189, 3, [837, 370, 102, 371, 0], 0, 0, []), (24, .istore 4, 2, [], 0, 0, []), (26, .iconst (0), 1, [], 0, 0, []), (27, .istore 5, 2, [], 0, 0, []), (29, .iload 5, 2, [], 0, 0, [1, 3]), (31, .iload 4, 2, [], 0, 0, []), (33, .if_icmp .ge (24), 3, [57], 0, 0, []), (36, .lload_n 0, 1, [], 0, 0, []), (37, .iload 5, 2, [], 0, 0, []), (39, .invokestatic 84, 3, [40, 2, 1, 705, 402, 100, 403], 0, 0, []), (42, .lload_n 2, 1, [], 0, 0, []), (43, .iload 5, 2, [], 0, 0, []), (45, .invokestatic 84, 3, [40, 2, 1, 705, 402, 100, 403], 0, 0, []), (48, .if_icmp .ne (9), 3, [57], 0, 0, []), (51, .iinc 5 (1), 3, [], 1, 0, []), (54, .goto (-25), 3, [29], 0, 0, []), (57, .iload 5, 2, [], 0, 0, []), (59, .ireturn, 1, [], 0, 0, [])]
def wX7_firstShared : List si_row := [(0, .iconst (0), 1, [], 0, 0, []), (1, .istore_n 1, 1, [], 0, 0, []), (2, .iload_n 1, 1, [], 0, 0, []), (3, .iconst (1), 1, [], 1, 0, []), (4, .iadd, 1, [], 0, 0, []), (5, .aload_n 0, 1, [], 0, 0, []), (6, .getfield 14, 3, [6, 0, 235], 0, 0, []), (9, .invokevirtual 31, 3, [30, 0, 1, 2, 674, 350, 93, 352, 351], 0, 0, []), (12, .if_icmp .ge (35), 3, [47], 0, 0, []), (15, .aload_n 0, 1, [], 0, 0, []), (16, .getfield 14, 3, [6, 0, 235], 0, 0, []), (19, .iload_n 1, 1, [], 0, 0, []), (20, .invokevirtual 44, 3, [38, 1, 2, 2, 675, 386, 93, 388, 387], 0, 0, []), (23, .aload_n 0, 1, [], 0, 0, []), (24, .getfield 14, 3, [6, 0, 235], 0, 0, []), (27, .iload_n 1, 1, [], 0, 0, []), (28, .iconst (1), 1, [], 1, 0, []), (29, .iadd, 1, [], 0, 0, []), (30, .invokevirtual 44, 3, [38, 1, 2, 2, 675, 386, 93, 388, 387], 0, 0, []), (33, .invokestatic 185, 3, [205, 2, 1, 834, 835, 98, 836], 0, 0, []), (36, .ifCond .le (5), 3, [41], 0, 0, []), (39, .iload_n 1, 1, [], 0, 0, []), (40, .ireturn, 1, [], 0, 0, []), (41, .iinc 1 (1), 3, [], 1, 0, []), (44, .goto (-42), 3, [2], 0, 0, []), (47, .aload_n 0, 1, [], 0, 0, []), (48, .getfield 14, 3, [6, 0, 235], 0, 0, []), (51, .invokevirtual 31, 3, [30, 0, 1, 2, 674, 350, 93, 352, 351], 0, 0, []), (54, .ireturn, 1, [], 0, 0, [])]
def wX7_factor : List si_row := [(0, .aload_n 0, 1, [], 0, 0, []), (1, .getfield 14, 3, [6, 0, 235], 0, 0, []), (4, .invokevirtual 121, 3, [173, 0, 1, 2, 754, 755, 93, 757, 756], 0, 0, []), (7, .istore_n 2, 1, [], 0, 0, []), (8, .iload_n 2, 1, [], 0, 0, []), (9, .iconst (-1), 1, [], -1, 0, []), (10, .if_icmp .ne (11), 3, [21], 0, 0, []), (13, .aload_n 0, 1, [], 0, 0, []), (14, .getfield 14, 3, [6, 0, 235], 0, 0, []), (17, .invokevirtual 124, 3, [174, 0, 0, 2, 764, 765, 93, 767, 766], 0, 0, []), (20, .return_, 1, [], 0, 0, []), (21, .aload_n 0, 1, [], 0, 0, []), (22, .getfield 20, 3, [6, 1, 236], 0, 0, []), (25, .aload_n 0, 1, [], 0, 0, []), (26, .getfield 14, 3, [6, 0, 235], 0, 0, []), (29, .invokevirtual 23, 3, [146, 1, 0, 2, 660, 661, 93, 663, 662], 0, 0, []), (32, .aload_n 0, 1, [], 0, 0, []), (33, .getfield 20, 3, [6, 1, 236], 0, 0, []), (36, .iload_n 1, 1, [], 0, 0, []), (37, .invokevirtual 44, 3, [38, 1, 2, 2, 675, 386, 93, 388, 387], 0, 0, []), (40, .lstore_n 3, 1, [], 0, 0, []), (41, .bipush (8), 2, [], 8, 0, []), (43, .istore 5, 2, [], 0, 0, []), (45, .iload_n 1, 1, [], 0, 0, []), (46, .istore 6, 2, [], 0, 0, []), (48, .iload 6, 2, [], 0, 0, [4, 7]), (50, .aload_n 0, 1, [], 0, 0, []), (51, .getfield 20, 3, [6, 1, 236], 0, 0, []), (54, .invokevirtual 31, 3, [30, 0, 1, 2, 674, 350, 93, 352, 351], 0, 0, []), (57, .if_icmp .ge (52), 3, [109], 0, 0, []), (60, .lload_n 3, 1, [], 0, 0, []), (61, .aload_n 0, 1, [], 0, 0, []), (62, .getfield 20, 3, [6, 1, 236], 0, 0, []), (65, .iload 6, 2, [], 0, 0, []), (67, .invokevirtual 44, 3, [38, 1, 2, 2, 675, 386, 93, 388, 387], 0, 0, []), (70, .invokestatic 185, 3, [205, 2, 1, 834, 835, 98, 836], 0, 0, []), (73, .istore 7, 2, [], 0, 0, []), (75, .iload 7, 2, [], 0, 0, []), (77, .ifCond .ne (6), 3, [83], 0, 0, []), (80, .goto (29), 3, [109], 0, 0, []), (83, .iload 7, 2, [], 0, 0, []), (85, .istore 5, 2, [], 0, 0, []), (87, .aload_n 0, 1, [], 0, 0, []), (88, .getfield 14, 3, [6, 0, 235], 0, 0, []), (91, .aload_n 0, 1, [], 0, 0, []), (92, .getfield 20, 3, [6, 1, 236], 0, 0, []), (95, .iload 6, 2, [], 0, 0, []), (97, .invokevirtual 44, 3, [38, 1, 2, 2, 675, 386, 93, 388, 387], 0, 0, []), (100, .invokevirtual 143, 3, [179, 1, 0, 2, 785, 786, 93, 788, 787], 0, 0, []), (103, .iinc 6 (1), 3, [], 1, 0, []), (106, .goto (-58), 3, [48], 0, 0, []), (109, .aload_n 0, 1, [], 0, 0, []), (110, .getfield 14, 3, [6, 0, 235], 0, 0, []), (113, .lload_n 3, 1, [], 0, 0, []), (114, .iload 5, 2, [], 0, 0, []), (116, .invokestatic 146, 3, [26, 2, 2, 789, 339, 100, 340], 0, 0, []), (119, .iload_n 2, 1, [], 0, 0, []), (120, .invokestatic 131, 3, [28, 2, 2, 771, 343, 100, 344], 0, 0, []), (123, .invokevirtual 53, 3, [25, 1, 0, 2, 678, 327, 93, 329, 328], 0, 0, []), (126, .iload_n 1, 1, [], 0, 0, []), (127, .istore 6, 2, [], 0, 0, []), (129, .iload 6, 2, [], 0, 0, [1, 4, 7]), (131, .aload_n 0, 1, [], 0, 0, []), (132, .getfield 20, 3, [6, 1, 236], 0, 0, []), (135, .invokevirtual 31, 3, [30, 0, 1, 2, 674, 350, 93, 352, 351], 0, 0, []), (138, .if_icmp .ge (50), 3, [188], 0, 0, []), (141, .lload_n 3, 1, [], 0, 0, []), (142, .aload_n 0, 1, [], 0, 0, []), (143, .getfield 20, 3, [6, 1, 236], 0, 0, []), (146, .iload 6, 2, [], 0, 0, []), (148, .invokevirtual 44, 3, [38, 1, 2, 2, 675, 386, 93, 388, 387], 0, 0, []), (151, .invokestatic 185, 3, [205, 2, 1, 834, 835, 98, 836], 0, 0, []), (154, .ifCond .le (34), 3, [188], 0, 0, []), (157, .aload_n 0, 1, [], 0, 0, []), (158, .getfield 14, 3, [6, 0, 235], 0, 0, []), (161, .iload_n 2, 1, [], 0, 0, []), (162, .invokestatic 108, 3, [23, 1, 2, 732, 324, 100, 325], 0, 0, []), (165, .aload_n 0, 1, [], 0, 0, []), (166, .getfield 20, 3, [6, 1, 236], 0, 0, []), (169, .iload 6, 2, [], 0, 0, []), (171, .invokevirtual 44, 3, [38, 1, 2, 2, 675, 386, 93, 388, 387], 0, 0, []), (174, .iload 5, 2, [], 0, 0, []), (176, .invokestatic 111, 3, [165, 3, 2, 733, 734, 100, 735], 0, 0, []), (179, .invokevirtual 53, 3, [25, 1, 0, 2, 678, 327, 93, 329, 328], 0, 0, []), (182, .iinc 6 (1), 3, [], 1, 0, []), (185, .goto (-56), 3, [129], 0, 0, []), (188, .return_, 1, [], 0, 0, [])]
def wX7_factorPrefixes : List si_row := [(0, .iconst (0), 1, [], 0, 0, []), (1, .istore_n 1, 1, [], 0, 0, []), (2, .iload_n 1, 1, [], 0, 0, [2]), (3, .bipush (16), 2, [], 16, 0, []), (5, .if_icmp .gt (41), 3, [46], 0, 0, []), (8, .aload_n 0, 1, [], 0, 0, []), (9, .getfield 14, 3, [6, 0, 235], 0, 0, []), (12, .invokevirtual 27, 3, [150, 0, 1, 2, 687, 688, 93, 690, 689], 0, 0, []), (15, .ifCond .ne (31), 3, [46], 0, 0, []), (18, .aload_n 0, 1, [], 0, 0, []), (19, .invokevirtual 179, 3, [206, 0, 1, 6, 830, 832, 98, 833, 32], 0, 0, []), (22, .istore_n 2, 1, [], 0, 0, []), (23, .iload_n 2, 1, [], 0, 0, []), (24, .aload_n 0, 1, [], 0, 0, []), (25, .getfield 14, 3, [6, 0, 235], 0, 0, []), (28, .invokevirtual 31, 3, [30, 0, 1, 2, 674, 350, 93, 352, 351], 0, 0, []), (31, .if_icmp .ne (4), 3, [35], 0, 0, []), (34, .return_, 1, [], 0, 0, []), (35, .aload_n 0, 1, [], 0, 0, []), (36, .iload_n 2, 1, [], 0, 0, []), (37, .invokevirtual 182, 3, [207, 1, 0, 6, 838, 840, 98, 841, 33], 0, 0, []), (40, .iinc 1 (1), 3, [], 1, 0, []), (43, .goto (-41), 3, [2], 0, 0, []), (46, .return_, 1, [], 0, 0, [])]
def wX8_leftFactor : List si_row := [(0, .aload_n 0, 1, [], 0, 0, []), (1, .getfield 61, 3, [7, 8, 250], 0, 0, []), (4, .aload_n 0, 1, [], 0, 0, []), (5, .getfield 19, 3, [7, 1, 243], 0, 0, []), (8, .invokevirtual 180, 3, [147, 1, 0, 6, 656, 657, 98, 659, 658], 0, 0, []), (11, .aload_n 0, 1, [], 0, 0, []), (12, .getfield 61, 3, [7, 8, 250], 0, 0, []), (15, .invokevirtual 213, 3, [208, 0, 0, 6, 826, 827, 98, 829, 828], 0, 0, []), (18, .aload_n 0, 1, [], 0, 0, []), (19, .getfield 61, 3, [7, 8, 250], 0, 0, []), (22, .aload_n 0, 1, [], 0, 0, []), (23, .getfield 19, 3, [7, 1, 243], 0, 0, []), (26, .invokevirtual 187, 3, [151, 1, 1, 6, 683, 684, 98, 686, 685], 0, 0, []), (29, .ireturn, 1, [], 0, 0, [])]
def wX9_factor : List si_row := [(0, .iconst (0), 1, [], 0, 0, []), (1, .istore_n 1, 1, [], 0, 0, []), (2, .iload_n 1, 1, [], 0, 0, [2, 3, 4, 5, 6, 7]), (3, .iconst (1), 1, [], 1, 0, []), (4, .iadd, 1, [], 0, 0, []), (5, .aload_n 0, 1, [], 0, 0, []), (6, .getfield 227, 3, [8, 26, 967], 0, 0, []), (9, .if_icmp .ge (70), 3, [79], 0, 0, []), (12, .aload_n 0, 1, [], 0, 0, []), (13, .getfield 53, 3, [8, 25, 966], 0, 0, []), (16, .iload_n 1, 1, [], 0, 0, []), (17, .laload, 1, [], 0, 0, []), (18, .invokestatic 90, 3, [17, 1, 1, 1066, 1067, 99, 1068], 0, 0, []), (21, .aload_n 0, 1, [], 0, 0, []), (22, .getfield 53, 3, [8, 25, 966], 0, 0, []), (25, .iload_n 1, 1, [], 0, 0, []), (26, .iconst (1), 1, [], 1, 0, []), (27, .iadd, 1, [], 0, 0, []), (28, .laload, 1, [], 0, 0, []), (29, .invokestatic 90, 3, [17, 1, 1, 1066, 1067, 99, 1068], 0, 0, []), (32, .if_icmp .ne (41), 3, [73], 0, 0, []), (35, .aload_n 0, 1, [], 0, 0, []), (36, .getfield 53, 3, [8, 25, 966], 0, 0, []), (39, .iload_n 1, 1, [], 0, 0, []), (40, .laload, 1, [], 0, 0, []), (41, .iconst (0), 1, [], 0, 0, []), (42, .invokestatic 56, 3, [50, 2, 1, 1089, 1090, 99, 1091], 0, 0, []), (45, .ifCond .le (28), 3, [73], 0, 0, []), (48, .aload_n 0, 1, [], 0, 0, []), (49, .getfield 53, 3, [8, 25, 966], 0, 0, []), (52, .iload_n 1, 1, [], 0, 0, []), (53, .laload, 1, [], 0, 0, []), (54, .iconst (0), 1, [], 0, 0, []), (55, .invokestatic 56, 3, [50, 2, 1, 1089, 1090, 99, 1091], 0, 0, []), (58, .aload_n 0, 1, [], 0, 0, []), (59, .getfield 53, 3, [8, 25, 966], 0, 0, []), (62, .iload_n 1, 1, [], 0, 0, []), (63, .iconst (1), 1, [], 1, 0, []), (64, .iadd, 1, [], 0, 0, []), (65, .laload, 1, [], 0, 0, []), (66, .iconst (0), 1, [], 0, 0, []), (67, .invokestatic 56, 3, [50, 2, 1, 1089, 1090, 99, 1091], 0, 0, []), (70, .if_icmp .eq (9), 3, [79], 0, 0, []), (73, .iinc 1 (1), 3, [], 1, 0, []), (76, .goto (-74), 3, [2], 0, 0, []), (79, .iload_n 1, 1, [], 0, 0, []), (80, .iconst (1), 1, [], 1, 0, []), (81, .iadd, 1, [], 0, 0, []), (82, .aload_n 0, 1, [], 0, 0, []), (83, .getfield 227, 3, [8, 26, 967], 0, 0, []), (86, .if_icmp .ge (10), 3, [96], 0, 0, []), (89, .aload_n 0, 1, [], 0, 0, []), (90, .getfield 230, 3, [8, 27, 968], 0, 0, []), (93, .ifCond .eq (5), 3, [98], 0, 0, []), (96, .iconst (0), 1, [], 0, 0, []), (97, .ireturn, 1, [], 0, 0, []), (98, .aload_n 0, 1, [], 0, 0, []), (99, .getfield 53, 3, [8, 25, 966], 0, 0, []), (102, .iload_n 1, 1, [], 0, 0, []), (103, .laload, 1, [], 0, 0, []), (104, .invokestatic 90, 3, [17, 1, 1, 1066, 1067, 99, 1068], 0, 0, []), (107, .istore_n 2, 1, [], 0, 0, []), (108, .aload_n 0, 1, [], 0, 0, []), (109, .getfield 53, 3, [8, 25, 966], 0, 0, []), (112, .iload_n 1, 1, [], 0, 0, []), (113, .laload, 1, [], 0, 0, []), (114, .iconst (0), 1, [], 0, 0, []), (115, .invokestatic 56, 3, [50, 2, 1, 1089, 1090, 99, 1091], 0, 0, []), (118, .istore_n 3, 1, [], 0, 0, []), (119, .iload_n 1, 1, [], 0, 0, []), (120, .istore 4, 2, [], 0, 0, []), (122, .bipush (8), 2, [], 8, 0, []), (124, .istore 5, 2, [], 0, 0, []), (126, .iload 4, 2, [], 0, 0, [6, 7]), (128, .aload_n 0, 1, [], 0, 0, []), (129, .getfield 227, 3, [8, 26, 967], 0, 0, []), (132, .if_icmp .ge (99), 3, [231], 0, 0, []), (135, .aload_n 0, 1, [], 0, 0, []), (136, .getfield 53, 3, [8, 25, 966], 0, 0, []), (139, .iload 4, 2, [], 0, 0, []), (141, .laload, 1, [], 0, 0, []), (142, .invokestatic 90, 3, [17, 1, 1, 1066, 1067, 99, 1068], 0, 0, []), (145, .iload_n 2, 1, [], 0, 0, []), (146, .if_icmp .ne (85), 3, [231], 0, 0, []), (149, .aload_n 0, 1, [], 0, 0, []), (150, .getfield 53, 3, [8, 25, 966], 0, 0, []), (153, .iload 4, 2, [], 0, 0, []), (155, .laload, 1, [], 0, 0, []), (156, .iconst (0), 1, [], 0, 0, []), (157, .invokestatic 56, 3, [50, 2, 1, 1089, 1090, 99, 1091], 0, 0, []), (160, .iload_n 3, 1, [], 0, 0, []), (161, .if_icmp .ne (70), 3, [231], 0, 0, []), (164, .iconst (0), 1, [], 0, 0, []), (165, .istore 6, 2, [], 0, 0, []), (167, .iload 6, 2, [], 0, 0, [7]), (169, .iload 5, 2, [], 0, 0, []), (171, .if_icmp .ge (50), 3, [221], 0, 0, []), (174, .aload_n 0, 1, [], 0, 0, []), (175, .getfield 53, 3, [8, 25, 966], 0, 0, []), (178, .iload 4, 2, [], 0, 0, []), (180, .laload, 1, [], 0, 0, []), (181, .iload 6, 2, [], 0, 0, []), (183, .invokestatic 56, 3, [50, 2, 1, 1089, 1090, 99, 1091], 0, 0, []), (186, .ifCond .le (35), 3, [221], 0, 0, []), (189, .aload_n 0, 1, [], 0, 0, []), (190, .getfield 53, 3, [8, 25, 966], 0, 0, []), (193, .iload 4, 2, [], 0, 0, []), (195, .laload, 1, [], 0, 0, []), (196, .iload 6, 2, [], 0, 0, []), (198, .invokestatic 56, 3, [50, 2, 1, 1089, 1090, 99, 1091], 0, 0, []), (201, .aload_n 0, 1, [], 0, 0, []), (202, .getfield 53, 3, [8, 25, 966], 0, 0, []), (205, .iload_n 1, 1, [], 0, 0, []), (206, .laload, 1, [], 0, 0, []), (207, .iload 6, 2, [], 0, 0, []), (209, .invokestatic 56, 3, [50, 2, 1, 1089, 1090, 99, 1091], 0, 0, []), (212, .if_icmp .ne (9), 3, [221], 0, 0, []), (215, .iinc 6 (1), 3, [], 1, 0, []), (218, .goto (-51), 3, [167], 0, 0, []), (221, .iload 6, 2, [], 0, 0, []), (223, .istore 5, 2, [], 0, 0, []), (225, .iinc 4 (1), 3, [], 1, 0, []), (228, .goto (-102), 3, [126], 0, 0, []), (231, .aload_n 0, 1, [], 0, 0, []), (232, .invokevirtual 256, 3, [185, 0, 1, 8, 1306, 1308, 99, 1309, 77], 0, 0, []), (235, .istore 6, 2, [], 0, 0, []), (237, .aload_n 0, 1, [], 0, 0, []), (238, .getfield 230, 3, [8, 27, 968], 0, 0, []), (241, .ifCond .eq (5), 3, [246], 0, 0, []), (244, .iconst (0), 1, [], 0, 0, []), (245, .ireturn, 1, [], 0, 0, []), (246, .aload_n 0, 1, [], 0, 0, []), (247, .invokevirtual 94, 3, [13, 0, 0, 8, 1048, 1050, 99, 1051, 41], 0, 0, []), (250, .iconst (0), 1, [], 0, 0, []), (251, .istore 7, 2, [], 0, 0, []), (253, .iload 7, 2, [], 0, 0, [3]), (255, .aload_n 0, 1, [], 0, 0, []), (256, .getfield 227, 3, [8, 26, 967], 0, 0, []), (259, .if_icmp .ge (70), 3, [329], 0, 0, []), (262, .iload 7, 2, [], 0, 0, []), (264, .iload_n 1, 1, [], 0, 0, []), (265, .iload 4, 2, [], 0, 0, []), (267, .iconst (1), 1, [], 1, 0, []), (268, .isub, 1, [], 0, 0, []), (269, .invokestatic 60, 3, [3, 3, 1, 1033, 1034, 99, 1035], 0, 0, []), (272, .ifCond .eq (40), 3, [312], 0, 0, []), (275, .aload_n 0, 1, [], 0, 0, []), (276, .iconst (0), 1, [], 0, 0, []), (277, .putfield 114, 3, [8, 14, 955], 0, 0, []), (280, .aload_n 0, 1, [], 0, 0, []), (281, .aload_n 0, 1, [], 0, 0, []), (282, .getfield 53, 3, [8, 25, 966], 0, 0, []), (285, .iload 7, 2, [], 0, 0, []), (287, .laload, 1, [], 0, 0, []), (288, .iload 5, 2, [], 0, 0, []), (290, .aload_n 0, 1, [], 0, 0, []), (291, .getfield 53, 3, [8, 25, 966], 0, 0, []), (294, .iload 7, 2, [], 0, 0, []), (296, .laload, 1, [], 0, 0, []), (297, .invokestatic 160, 3, [88, 1, 1, 1148, 1149, 99, 1150], 0, 0, []), (300, .invokevirtual 250, 3, [169, 3, 0, 8, 1283, 1285, 99, 1286, 73], 0, 0, []), (303, .aload_n 0, 1, [], 0, 0, []), (304, .iload 6, 2, [], 0, 0, []), (306, .invokevirtual 242, 3, [162, 1, 0, 8, 1275, 1277, 99, 1278, 72], 0, 0, []), (309, .goto (14), 3, [323], 0, 0, []), (312, .aload_n 0, 1, [], 0, 0, []), (313, .aload_n 0, 1, [], 0, 0, []), (314, .getfield 53, 3, [8, 25, 966], 0, 0, []), (317, .iload 7, 2, [], 0, 0, []), (319, .laload, 1, [], 0, 0, []), (320, .invokevirtual 86, 3, [16, 1, 0, 8, 1062, 1064, 99, 1065, 43], 0, 0, []), (323, .iinc 7 (1), 3, [], 1, 0, []), (326, .goto (-73), 3, [253], 0, 0, []), (329, .aload_n 0, 1, [], 0, 0, []), (330, .iconst (0), 1, [], 0, 0, []), (331, .putfield 114, 3, [8, 14, 955], 0, 0, []), (334, .aload_n 0, 1, [], 0, 0, []), (335, .aload_n 0, 1, [], 0, 0, []), (336, .getfield 53, 3, [8, 25, 966], 0, 0, []), (339, .iload_n 1, 1, [], 0, 0, []), (340, .laload, 1, [], 0, 0, []), (341, .iconst (0), 1, [], 0, 0, []), (342, .iload 5, 2, [], 0, 0, []), (344, .invokevirtual 250, 3, [169, 3, 0, 8, 1283, 1285, 99, 1286, 73], 0, 0, []), (347, .aload_n 0, 1, [], 0, 0, []), (348, .getfield 23, 3, [8, 13, 954], 0, 0, []), (351, .aload_n 0, 1, [], 0, 0, []), (352, .getfield 114, 3, [8, 14, 955], 0, 0, []), (355, .iload 6, 2, [], 0, 0, []), (357, .iconst (1), 1, [], 1, 0, []), (358, .iadd, 1, [], 0, 0, []), (359, .iastore, 1, [], 0, 0, []), (360, .aload_n 0, 1, [], 0, 0, []), (361, .dup, 1, [], 0, 0, []), (362, .getfield 114, 3, [8, 14, 955], 0, 0, []), (365, .iconst (1), 1, [], 1, 0, []), (366, .iadd, 1, [], 0, 0, []), (367, .putfield 114, 3, [8, 14, 955], 0, 0, []), (370, .aload_n 0, 1, [], 0, 0, []), (371, .iload_n 2, 1, [], 0, 0, []), (372, .invokevirtual 242, 3, [162, 1, 0, 8, 1275, 1277, 99, 1278, 72], 0, 0, []), (375, .aload_n 0, 1, [], 0, 0, []), (376, .invokevirtual 236, 3, [154, 0, 0, 8, 1259, 1261, 99, 1262, 69], 0, 0, []), (379, .iconst (1), 1, [], 1, 0, []), (380, .ireturn, 1, [], 0, 0, [])]
def wX9_leftFactor : List si_row := [(0, .aload_n 0, 1, [], 0, 0, []), (1, .invokevirtual 233, 3, [153, 0, 0, 8, 1255, 1257, 99, 1258, 68], 0, 0, []), (4, .iconst (1), 1, [], 1, 0, []), (5, .istore_n 1, 1, [], 0, 0, []), (6, .iload_n 1, 1, [], 0, 0, []), (7, .ifCond .eq (11), 3, [18], 0, 0, []), (10, .aload_n 0, 1, [], 0, 0, []), (11, .invokevirtual 292, 3, [210, 0, 1, 8, 1346, 1348, 99, 1349, 85], 0, 0, []), (14, .istore_n 1, 1, [], 0, 0, []), (15, .goto (-9), 3, [6], 0, 0, []), (18, .aload_n 0, 1, [], 0, 0, []), (19, .invokevirtual 239, 3, [155, 0, 1, 8, 1263, 1265, 99, 1266, 70], 0, 0, []), (22, .ireturn, 1, [], 0, 0, [])]
def wX7_firstWithNonterminal : List si_row := [(0, .iconst (0), 1, [], 0, 0, []), (1, .istore_n 1, 1, [], 0, 0, []), (2, .iload_n 1, 1, [], 0, 0, []), (3, .aload_n 0, 1, [], 0, 0, []), (4, .getfield 14, 3, [6, 0, 235], 0, 0, []), (7, .invokevirtual 31, 3, [30, 0, 1, 2, 674, 350, 93, 352, 351], 0, 0, []), (10, .if_icmp .ge (36), 3, [46], 0, 0, []), (13, .aload_n 0, 1, [], 0, 0, []), (14, .getfield 14, 3, [6, 0, 235], 0, 0, []), (17, .iload_n 1, 1, [], 0, 0, []), (18, .invokevirtual 44, 3, [38, 1, 2, 2, 675, 386, 93, 388, 387], 0, 0, []), (21, .iconst (0), 1, [], 0, 0, []), (22, .invokestatic 84, 3, [40, 2, 1, 705, 402, 100, 403], 0, 0, []), (25, .invokestatic 176, 3, [9, 1, 1, 855, 305, 91, 306], 0, 0, []), (28, .ifCond .eq (12), 3, [40], 0, 0, []), (31, .aload_n 0, 1, [], 0, 0, []), (32, .getfield 14, 3, [6, 0, 235], 0, 0, []), (35, .iload_n 1, 1, [], 0, 0, []), (36, .invokevirtual 44, 3, [38, 1, 2, 2, 675, 386, 93, 388, 387], 0, 0, []), (39, .lreturn, 1, [], 0, 0, []), (40, .iinc 1 (1), 3, [], 1, 0, []), (43, .goto (-41), 3, [2], 0, 0, []), (46, .ldc2_w 138, 3, [780], 0, -1, []), (49, .lreturn, 1, [], 0, 0, [])]
def wX7_expandLeftEnds : List si_row := [(0, .iconst (0), 1, [], 0, 0, []), (1, .istore_n 1, 1, [], 0, 0, []), (2, .iload_n 1, 1, [], 0, 0, [2, 3]), (3, .ldc 172, 2, [850], 1000000, 0, []), (5, .if_icmp .ge (57), 3, [62], 0, 0, []), (8, .aload_n 0, 1, [], 0, 0, []), (9, .getfield 14, 3, [6, 0, 235], 0, 0, []), (12, .invokevirtual 27, 3, [150, 0, 1, 2, 687, 688, 93, 690, 689], 0, 0, []), (15, .ifCond .ne (47), 3, [62], 0, 0, []), (18, .aload_n 0, 1, [], 0, 0, []), (19, .invokevirtual 173, 3, [212, 0, 2, 6, 851, 853, 98, 854, 34], 0, 0, []), (22, .lstore_n 2, 1, [], 0, 0, []), (23, .lload_n 2, 1, [], 0, 0, []), (24, .ldc2_w 138, 3, [780], 0, -1, []), (27, .lcmp, 1, [], 0, 0, []), (28, .ifCond .ne (4), 3, [32], 0, 0, []), (31, .return_, 1, [], 0, 0, []), (32, .aload_n 0, 1, [], 0, 0, []), (33, .getfield 20, 3, [6, 1, 236], 0, 0, []), (36, .aload_n 0, 1, [], 0, 0, []), (37, .getfield 14, 3, [6, 0, 235], 0, 0, []), (40, .invokevirtual 23, 3, [146, 1, 0, 2, 660, 661, 93, 663, 662], 0, 0, []), (43, .aload_n 0, 1, [], 0, 0, []), (44, .getfield 14, 3, [6, 0, 235], 0, 0, []), (47, .lload_n 2, 1, [], 0, 0, []), (48, .invokevirtual 143, 3, [179, 1, 0, 2, 785, 786, 93, 788, 787], 0, 0, []), (51, .aload_n 0, 1, [], 0, 0, []), (52, .lload_n 2, 1, [], 0, 0, []), (53, .invokevirtual 165, 3, [191, 1, 0, 6, 810, 812, 98, 813, 29], 0, 0, []), (56, .iinc 1 (1), 3, [], 1, 0, []), (59, .goto (-57), 3, [2], 0, 0, []), (62, .aload_n 0, 1, [], 0, 0, []), (63, .getfield 14, 3, [6, 0, 235], 0, 0, []), (66, .invokevirtual 124, 3, [174, 0, 0, 2, 764, 765, 93, 767, 766], 0, 0, []), (69, .return_, 1, [], 0, 0, [])]
def wX8_toGreibach : List si_row := [(0, .aload_n 0, 1, [], 0, 0, []), (1, .invokevirtual 107, 3, [61, 0, 1, 7, 421, 423, 91, 424, 5], 0, 0, []), (4, .ifCond .eq (6), 3, [10], 0, 0, []), (7, .bipush (-8), 2, [], -8, 0, []), (9, .ireturn, 1, [], 0, 0, []), (10, .aload_n 0, 1, [], 0, 0, []), (11, .getfield 61, 3, [7, 8, 250], 0, 0, []), (14, .aload_n 0, 1, [], 0, 0, []), (15, .getfield 19, 3, [7, 1, 243], 0, 0, []), (18, .invokevirtual 180, 3, [147, 1, 0, 6, 656, 657, 98, 659, 658], 0, 0, []), (21, .aload_n 0, 1, [], 0, 0, []), (22, .getfield 61, 3, [7, 8, 250], 0, 0, []), (25, .invokevirtual 210, 3, [196, 0, 0, 6, 794, 795, 98, 797, 796], 0, 0, []), (28, .aload_n 0, 1, [], 0, 0, []), (29, .getfield 61, 3, [7, 8, 250], 0, 0, []), (32, .invokevirtual 216, 3, [213, 0, 0, 6, 846, 847, 98, 849, 848], 0, 0, []), (35, .aload_n 0, 1, [], 0, 0, []), (36, .getfield 61, 3, [7, 8, 250], 0, 0, []), (39, .iconst (1), 1, [], 1, 0, []), (40, .invokevirtual 203, 3, [177, 1, 0, 6, 742, 743, 98, 745, 744], 0, 0, []), (43, .aload_n 0, 1, [], 0, 0, []), (44, .getfield 61, 3, [7, 8, 250], 0, 0, []), (47, .aload_n 0, 1, [], 0, 0, []), (48, .getfield 19, 3, [7, 1, 243], 0, 0, []), (51, .invokevirtual 187, 3, [151, 1, 1, 6, 683, 684, 98, 686, 685], 0, 0, []), (54, .ireturn, 1, [], 0, 0, [])]
def wX9_tellFirst : List si_row := [(0, .iconst (0), 1, [], 0, 0, []), (1, .istore_n 1, 1, [], 0, 0, []), (2, .iload_n 1, 1, [], 0, 0, [2]), (3, .aload_n 0, 1, [], 0, 0, []), (4, .getfield 227, 3, [8, 26, 967], 0, 0, []), (7, .if_icmp .ge (25), 3, [32], 0, 0, []), (10, .aload_n 0, 1, [], 0, 0, []), (11, .getfield 53, 3, [8, 25, 966], 0, 0, []), (14, .iload_n 1, 1, [], 0, 0, []), (15, .laload, 1, [], 0, 0, []), (16, .iconst (0), 1, [], 0, 0, []), (17, .invokestatic 56, 3, [50, 2, 1, 1089, 1090, 99, 1091], 0, 0, []), (20, .invokestatic 64, 3, [15, 1, 1, 1059, 1060, 99, 1061], 0, 0, []), (23, .ifCond .ne (9), 3, [32], 0, 0, []), (26, .iinc 1 (1), 3, [], 1, 0, []), (29, .goto (-27), 3, [2], 0, 0, []), (32, .iload_n 1, 1, [], 0, 0, []), (33, .aload_n 0, 1, [], 0, 0, []), (34, .getfield 227, 3, [8, 26, 967], 0, 0, []), (37, .if_icmp .eq (10), 3, [47], 0, 0, []), (40, .aload_n 0, 1, [], 0, 0, []), (41, .getfield 230, 3, [8, 27, 968], 0, 0, []), (44, .ifCond .eq (5), 3, [49], 0, 0, []), (47, .iconst (0), 1, [], 0, 0, []), (48, .ireturn, 1, [], 0, 0, []), (49, .aload_n 0, 1, [], 0, 0, []), (50, .invokevirtual 94, 3, [13, 0, 0, 8, 1048, 1050, 99, 1051, 41], 0, 0, []), (53, .iconst (0), 1, [], 0, 0, []), (54, .istore_n 2, 1, [], 0, 0, []), (55, .iload_n 2, 1, [], 0, 0, []), (56, .aload_n 0, 1, [], 0, 0, []), (57, .getfield 227, 3, [8, 26, 967], 0, 0, []), (60, .if_icmp .ge (24), 3, [84], 0, 0, []), (63, .iload_n 2, 1, [], 0, 0, []), (64, .iload_n 1, 1, [], 0, 0, []), (65, .if_icmp .eq (13), 3, [78], 0, 0, []), (68, .aload_n 0, 1, [], 0, 0, []), (69, .aload_n 0, 1, [], 0, 0, []), (70, .getfield 53, 3, [8, 25, 966], 0, 0, []), (73, .iload_n 2, 1, [], 0, 0, []), (74, .laload, 1, [], 0, 0, []), (75, .invokevirtual 86, 3, [16, 1, 0, 8, 1062, 1064, 99, 1065, 43], 0, 0, []), (78, .iinc 2 (1), 3, [], 1, 0, []), (81, .goto (-26), 3, [55], 0, 0, []), (84, .aload_n 0, 1, [], 0, 0, []), (85, .aload_n 0, 1, [], 0, 0, []), (86, .getfield 53, 3, [8, 25, 966], 0, 0, []), (89, .iload_n 1, 1, [], 0, 0, []), (90, .laload, 1, [], 0, 0, []), (91, .aload_n 0, 1, [], 0, 0, []), (92, .getfield 53, 3, [8, 25, 966], 0, 0, []), (95, .iload_n 1, 1, [], 0, 0, []), (96, .laload, 1, [], 0, 0, []), (97, .iconst (0), 1, [], 0, 0, []), (98, .invokestatic 56, 3, [50, 2, 1, 1089, 1090, 99, 1091], 0, 0, []), (101, .iconst (1), 1, [], 1, 0, []), (102, .isub, 1, [], 0, 0, []), (103, .invokevirtual 273, 3, [198, 2, 0, 8, 1326, 1328, 99, 1329, 81], 0, 0, []), (106, .aload_n 0, 1, [], 0, 0, []), (107, .invokevirtual 236, 3, [154, 0, 0, 8, 1259, 1261, 99, 1262, 69], 0, 0, []), (110, .iconst (1), 1, [], 1, 0, []), (111, .ireturn, 1, [], 0, 0, [])]
def wX9_toGreibach : List si_row := [(0, .aload_n 0, 1, [], 0, 0, []), (1, .invokevirtual 148, 3, [74, 0, 1, 8, 1101, 1103, 99, 1104, 48], 0, 0, []), (4, .ifCond .ne (10), 3, [14], 0, 0, []), (7, .aload_n 0, 1, [], 0, 0, []), (8, .invokevirtual 151, 3, [80, 0, 1, 8, 1108, 1110, 99, 1111, 49], 0, 0, []), (11, .ifCond .eq (6), 3, [17], 0, 0, []), (14, .bipush (-8), 2, [], -8, 0, []), (16, .ireturn, 1, [], 0, 0, []), (17, .aload_n 0, 1, [], 0, 0, []), (18, .invokevirtual 233, 3, [153, 0, 0, 8, 1255, 1257, 99, 1258, 68], 0, 0, []), (21, .aload_n 0, 1, [], 0, 0, []), (22, .invokevirtual 289, 3, [203, 0, 0, 8, 1318, 1320, 99, 1321, 79], 0, 0, []), (25, .aload_n 0, 1, [], 0, 0, []), (26, .getfield 230, 3, [8, 27, 968], 0, 0, []), (29, .ifCond .ne (7), 3, [36], 0, 0, []), (32, .iconst (1), 1, [], 1, 0, []), (33, .goto (4), 3, [37], 0, 0, []), (36, .iconst (0), 1, [], 0, 0, []), (37, .istore_n 1, 1, [], 0, 0, []), (38, .iload_n 1, 1, [], 0, 0, []), (39, .ifCond .eq (11), 3, [50], 0, 0, []), (42, .aload_n 0, 1, [], 0, 0, []), (43, .invokevirtual 295, 3, [215, 0, 1, 8, 1354, 1356, 99, 1357, 86], 0, 0, []), (46, .istore_n 1, 1, [], 0, 0, []), (47, .goto (-9), 3, [38], 0, 0, []), (50, .aload_n 0, 1, [], 0, 0, []), (51, .iconst (0), 1, [], 0, 0, []), (52, .invokevirtual 266, 3, [187, 1, 0, 8, 1295, 1297, 99, 1298, 75], 0, 0, []), (55, .aload_n 0, 1, [], 0, 0, []), (56, .invokevirtual 239, 3, [155, 0, 1, 8, 1263, 1265, 99, 1266, 70], 0, 0, []), (59, .ireturn, 1, [], 0, 0, [])]
def wX8_save : List si_row := [(0, .aload_n 0, 1, [], 0, 0, []), (1, .getfield 23, 3, [7, 2, 244], 0, 0, []), (4, .aload_n 0, 1, [], 0, 0, []), (5, .getfield 19, 3, [7, 1, 243], 0, 0, []), (8, .invokevirtual 219, 3, [146, 1, 0, 2, 860, 661, 93, 663, 662], 0, 0, []), (11, .aload_n 0, 1, [], 0, 0, []), (12, .iconst (1), 1, [], 1, 0, []), (13, .putfield 26, 3, [7, 3, 245], 0, 0, []), (16, .aload_n 0, 1, [], 0, 0, []), (17, .getfield 23, 3, [7, 2, 244], 0, 0, []), (20, .invokevirtual 87, 3, [30, 0, 1, 2, 349, 350, 93, 352, 351], 0, 0, []), (23, .ireturn, 1, [], 0, 0, [])]
def wX9_save : List si_row := [(0, .aload_n 0, 1, [], 0, 0, []), (1, .iconst (1), 1, [], 1, 0, []), (2, .putfield 298, 3, [8, 4, 945], 0, 0, []), (5, .aload_n 0, 1, [], 0, 0, []), (6, .aload_n 0, 1, [], 0, 0, []), (7, .getfield 107, 3, [8, 1, 942], 0, 0, []), (10, .putfield 301, 3, [8, 3, 944], 0, 0, []), (13, .iconst (0), 1, [], 0, 0, []), (14, .istore_n 1, 1, [], 0, 0, []), (15, .iload_n 1, 1, [], 0, 0, []), (16, .aload_n 0, 1, [], 0, 0, []), (17, .getfield 107, 3, [8, 1, 942], 0, 0, []), (20, .if_icmp .ge (21), 3, [41], 0, 0, []), (23, .aload_n 0, 1, [], 0, 0, []), (24, .getfield 13, 3, [8, 2, 943], 0, 0, []), (27, .iload_n 1, 1, [], 0, 0, []), (28, .aload_n 0, 1, [], 0, 0, []), (29, .getfield 7, 3, [8, 0, 941], 0, 0, []), (32, .iload_n 1, 1, [], 0, 0, []), (33, .laload, 1, [], 0, 0, []), (34, .lastore, 1, [], 0, 0, []), (35, .iinc 1 (1), 3, [], 1, 0, []), (38, .goto (-23), 3, [15], 0, 0, []), (41, .aload_n 0, 1, [], 0, 0, []), (42, .getfield 107, 3, [8, 1, 942], 0, 0, []), (45, .ireturn, 1, [], 0, 0, [])]
def wX8_restore : List si_row := [(0, .aload_n 0, 1, [], 0, 0, []), (1, .getfield 26, 3, [7, 3, 245], 0, 0, []), (4, .ifCond .ne (6), 3, [10], 0, 0, []), (7, .bipush (-9), 2, [], -9, 0, []), (9, .ireturn, 1, [], 0, 0, []), (10, .aload_n 0, 1, [], 0, 0, []), (11, .getfield 19, 3, [7, 1, 243], 0, 0, []), (14, .aload_n 0, 1, [], 0, 0, []), (15, .getfield 23, 3, [7, 2, 244], 0, 0, []), (18, .invokevirtual 219, 3, [146, 1, 0, 2, 860, 661, 93, 663, 662], 0, 0, []), (21, .aload_n 0, 1, [], 0, 0, []), (22, .getfield 19, 3, [7, 1, 243], 0, 0, []), (25, .invokevirtual 87, 3, [30, 0, 1, 2, 349, 350, 93, 352, 351], 0, 0, []), (28, .ireturn, 1, [], 0, 0, [])]
def wX9_restore : List si_row := [(0, .aload_n 0, 1, [], 0, 0, []), (1, .getfield 298, 3, [8, 4, 945], 0, 0, []), (4, .ifCond .ne (6), 3, [10], 0, 0, []), (7, .bipush (-9), 2, [], -9, 0, []), (9, .ireturn, 1, [], 0, 0, []), (10, .aload_n 0, 1, [], 0, 0, []), (11, .aload_n 0, 1, [], 0, 0, []), (12, .getfield 301, 3, [8, 3, 944], 0, 0, []), (15, .putfield 107, 3, [8, 1, 942], 0, 0, []), (18, .iconst (0), 1, [], 0, 0, []), (19, .istore_n 1, 1, [], 0, 0, []), (20, .iload_n 1, 1, [], 0, 0, []), (21, .aload_n 0, 1, [], 0, 0, []), (22, .getfield 107, 3, [8, 1, 942], 0, 0, []), (25, .if_icmp .ge (21), 3, [46], 0, 0, []), (28, .aload_n 0, 1, [], 0, 0, []), (29, .getfield 7, 3, [8, 0, 941], 0, 0, []), (32, .iload_n 1, 1, [], 0, 0, []), (33, .aload_n 0, 1, [], 0, 0, []), (34, .getfield 13, 3, [8, 2, 943], 0, 0, []), (37, .iload_n 1, 1, [], 0, 0, []), (38, .laload, 1, [], 0, 0, []), (39, .lastore, 1, [], 0, 0, []), (40, .iinc 1 (1), 3, [], 1, 0, []), (43, .goto (-23), 3, [20], 0, 0, []), (46, .aload_n 0, 1, [], 0, 0, []), (47, .getfield 107, 3, [8, 1, 942], 0, 0, []), (50, .ireturn, 1, [], 0, 0, [])]
def wX6_pairs : List si_row := [(0, .lconst 0, 1, [], 0, 0, []), (1, .lstore 4, 2, [], 0, 0, []), (3, .iconst (0), 1, [], 0, 0, []), (4, .istore 6, 2, [], 0, 0, []), (6, .iload 6, 2, [], 0, 0, [1, 3, 5]), (8, .bipush (8), 2, [], 8, 0, []), (10, .if_icmp .ge (32), 3, [42], 0, 0, []), (13, .lload_n 0, 1, [], 0, 0, []), (14, .iload 6, 2, [], 0, 0, []), (16, .lushr, 1, [], 0, 0, []), (17, .lconst 1, 1, [], 0, 1, []), (18, .land, 1, [], 0, 0, []), (19, .lconst 0, 1, [], 0, 0, []), (20, .lcmp, 1, [], 0, 0, []), (21, .ifCond .eq (15), 3, [36], 0, 0, []), (24, .lload 4, 2, [], 0, 0, []), (26, .lload_n 2, 1, [], 0, 0, []), (27, .bipush (8), 2, [], 8, 0, []), (29, .iload 6, 2, [], 0, 0, []), (31, .imul, 1, [], 0, 0, []), (32, .lshl, 1, [], 0, 0, []), (33, .lor, 1, [], 0, 0, []), (34, .lstore 4, 2, [], 0, 0, []), (36, .iinc 6 (1), 3, [], 1, 0, []), (39, .goto (-33), 3, [6], 0, 0, []), (42, .lload 4, 2, [], 0, 0, []), (44, .lreturn, 1, [], 0, 0, [])]
def wX6_readOn : List si_row := [(0, .aload_n 0, 1, [], 0, 0, []), (1, .getfield 25, 3, [5, 4, 212], 0, 0, []), (4, .lload_n 3, 1, [], 0, 0, []), (5, .invokestatic 75, 3, [221, 2, 2, 887, 888, 97, 889], 0, 0, []), (8, .lstore 7, 2, [], 0, 0, []), (10, .lload 7, 2, [], 0, 0, []), (12, .aload_n 0, 1, [], 0, 0, []), (13, .getfield 21, 3, [5, 3, 211], 0, 0, []), (16, .lconst 0, 1, [], 0, 0, []), (17, .lcmp, 1, [], 0, 0, []), (18, .ifCond .eq (8), 3, [26], 0, 0, []), (21, .lload 5, 2, [], 0, 0, []), (23, .goto (4), 3, [27], 0, 0, []), (26, .lconst 0, 1, [], 0, 0, []), (27, .lor, 1, [], 0, 0, []), (28, .lstore 7, 2, [], 0, 0, []), (30, .lload 7, 2, [], 0, 0, []), (32, .lload_n 1, 1, [], 0, 0, []), (33, .lconst 0, 1, [], 0, 0, []), (34, .lcmp, 1, [], 0, 0, []), (35, .ifCond .eq (10), 3, [45], 0, 0, []), (38, .aload_n 0, 1, [], 0, 0, []), (39, .getfield 28, 3, [5, 5, 213], 0, 0, []), (42, .goto (4), 3, [46], 0, 0, []), (45, .lconst 0, 1, [], 0, 0, []), (46, .lor, 1, [], 0, 0, []), (47, .lstore 7, 2, [], 0, 0, []), (49, .aload_n 0, 1, [], 0, 0, []), (50, .getfield 21, 3, [5, 3, 211], 0, 0, []), (53, .lconst 0, 1, [], 0, 0, []), (54, .lcmp, 1, [], 0, 0, []), (55, .ifCond .eq (7), 3, [62], 0, 0, []), (58, .lload_n 3, 1, [], 0, 0, []), (59, .goto (4), 3, [63], 0, 0, []), (62, .lconst 0, 1, [], 0, 0, []), (63, .lstore 9, 2, [], 0, 0, []), (65, .lload 9, 2, [], 0, 0, []), (67, .lload_n 1, 1, [], 0, 0, []), (68, .lconst 0, 1, [], 0, 0, []), (69, .lcmp, 1, [], 0, 0, []), (70, .ifCond .eq (10), 3, [80], 0, 0, []), (73, .aload_n 0, 1, [], 0, 0, []), (74, .getfield 25, 3, [5, 4, 212], 0, 0, []), (77, .goto (4), 3, [81], 0, 0, []), (80, .lconst 0, 1, [], 0, 0, []), (81, .lor, 1, [], 0, 0, []), (82, .lstore 9, 2, [], 0, 0, []), (84, .aload_n 0, 1, [], 0, 0, []), (85, .dup, 1, [], 0, 0, []), (86, .getfield 21, 3, [5, 3, 211], 0, 0, []), (89, .lload_n 1, 1, [], 0, 0, []), (90, .land, 1, [], 0, 0, []), (91, .putfield 21, 3, [5, 3, 211], 0, 0, []), (94, .aload_n 0, 1, [], 0, 0, []), (95, .lload 9, 2, [], 0, 0, []), (97, .putfield 25, 3, [5, 4, 212], 0, 0, []), (100, .aload_n 0, 1, [], 0, 0, []), (101, .lload 7, 2, [], 0, 0, []), (103, .putfield 28, 3, [5, 5, 213], 0, 0, []), (106, .return_, 1, [], 0, 0, [])]
def wX6_readRight : List si_row := [(0, .aload_n 0, 1, [], 0, 0, []), (1, .lconst 1, 1, [], 0, 1, []), (2, .putfield 21, 3, [5, 3, 211], 0, 0, []), (5, .aload_n 0, 1, [], 0, 0, []), (6, .lconst 0, 1, [], 0, 0, []), (7, .putfield 25, 3, [5, 4, 212], 0, 0, []), (10, .aload_n 0, 1, [], 0, 0, []), (11, .lconst 0, 1, [], 0, 0, []), (12, .putfield 28, 3, [5, 5, 213], 0, 0, []), (15, .lload_n 1, 1, [], 0, 0, []), (16, .invokestatic 61, 3, [27, 1, 1, 880, 346, 100, 347], 0, 0, []), (19, .istore_n 3, 1, [], 0, 0, []), (20, .iconst (0), 1, [], 0, 0, []), (21, .istore 4, 2, [], 0, 0, []), (23, .iload 4, 2, [], 0, 0, [2, 5]), (25, .iload_n 3, 1, [], 0, 0, []), (26, .if_icmp .ge (66), 3, [92], 0, 0, []), (29, .lload_n 1, 1, [], 0, 0, []), (30, .iload 4, 2, [], 0, 0, []), (32, .invokestatic 64, 3, [40, 2, 1, 881, 402, 100, 403], 0, 0, []), (35, .istore 5, 2, [], 0, 0, []), (37, .iload 5, 2, [], 0, 0, []), (39, .invokestatic 68, 3, [9, 1, 1, 882, 305, 91, 306], 0, 0, []), (42, .ifCond .eq (31), 3, [73], 0, 0, []), (45, .aload_n 0, 1, [], 0, 0, []), (46, .aload_n 0, 1, [], 0, 0, []), (47, .getfield 9, 3, [5, 0, 208], 0, 0, []), (50, .iload 5, 2, [], 0, 0, []), (52, .laload, 1, [], 0, 0, []), (53, .aload_n 0, 1, [], 0, 0, []), (54, .getfield 15, 3, [5, 1, 209], 0, 0, []), (57, .iload 5, 2, [], 0, 0, []), (59, .laload, 1, [], 0, 0, []), (60, .aload_n 0, 1, [], 0, 0, []), (61, .getfield 18, 3, [5, 2, 210], 0, 0, []), (64, .iload 5, 2, [], 0, 0, []), (66, .laload, 1, [], 0, 0, []), (67, .invokevirtual 71, 3, [222, 3, 0, 5, 883, 885, 97, 886, 36], 0, 0, []), (70, .goto (16), 3, [86], 0, 0, []), (73, .aload_n 0, 1, [], 0, 0, []), (74, .lconst 0, 1, [], 0, 0, []), (75, .lconst 1, 1, [], 0, 1, []), (76, .iload 5, 2, [], 0, 0, []), (78, .bipush (16), 2, [], 16, 0, []), (80, .isub, 1, [], 0, 0, []), (81, .lshl, 1, [], 0, 0, []), (82, .lconst 0, 1, [], 0, 0, []), (83, .invokevirtual 71, 3, [222, 3, 0, 5, 883, 885, 97, 886, 36], 0, 0, []), (86, .iinc 4 (1), 3, [], 1, 0, []), (89, .goto (-66), 3, [23], 0, 0, []), (92, .return_, 1, [], 0, 0, [])]
def wX6_keepRead : List si_row := [(0, .iload_n 1, 1, [], 0, 0, []), (1, .invokestatic 68, 3, [9, 1, 1, 882, 305, 91, 306], 0, 0, []), (4, .ifCond .ne (5), 3, [9], 0, 0, []), (7, .iconst (0), 1, [], 0, 0, []), (8, .ireturn, 1, [], 0, 0, []), (9, .aload_n 0, 1, [], 0, 0, []), (10, .getfield 21, 3, [5, 3, 211], 0, 0, []), (13, .aload_n 0, 1, [], 0, 0, []), (14, .getfield 9, 3, [5, 0, 208], 0, 0, []), (17, .iload_n 1, 1, [], 0, 0, []), (18, .laload, 1, [], 0, 0, []), (19, .ldc2_w 79, 3, [895], 0, -1, []), (22, .lxor, 1, [], 0, 0, []), (23, .land, 1, [], 0, 0, []), (24, .aload_n 0, 1, [], 0, 0, []), (25, .getfield 25, 3, [5, 4, 212], 0, 0, []), (28, .aload_n 0, 1, [], 0, 0, []), (29, .getfield 15, 3, [5, 1, 209], 0, 0, []), (32, .iload_n 1, 1, [], 0, 0, []), (33, .laload, 1, [], 0, 0, []), (34, .ldc2_w 79, 3, [895], 0, -1, []), (37, .lxor, 1, [], 0, 0, []), (38, .land, 1, [], 0, 0, []), (39, .lor, 1, [], 0, 0, []), (40, .aload_n 0, 1, [], 0, 0, []), (41, .getfield 28, 3, [5, 5, 213], 0, 0, []), (44, .aload_n 0, 1, [], 0, 0, []), (45, .getfield 18, 3, [5, 2, 210], 0, 0, []), (48, .iload_n 1, 1, [], 0, 0, []), (49, .laload, 1, [], 0, 0, []), (50, .ldc2_w 79, 3, [895], 0, -1, []), (53, .lxor, 1, [], 0, 0, []), (54, .land, 1, [], 0, 0, []), (55, .lor, 1, [], 0, 0, []), (56, .lstore_n 2, 1, [], 0, 0, []), (57, .aload_n 0, 1, [], 0, 0, []), (58, .getfield 9, 3, [5, 0, 208], 0, 0, []), (61, .iload_n 1, 1, [], 0, 0, []), (62, .dup2, 1, [], 0, 0, []), (63, .laload, 1, [], 0, 0, []), (64, .aload_n 0, 1, [], 0, 0, []), (65, .getfield 21, 3, [5, 3, 211], 0, 0, []), (68, .lor, 1, [], 0, 0, []), (69, .lastore, 1, [], 0, 0, []), (70, .aload_n 0, 1, [], 0, 0, []), (71, .getfield 15, 3, [5, 1, 209], 0, 0, []), (74, .iload_n 1, 1, [], 0, 0, []), (75, .dup2, 1, [], 0, 0, []), (76, .laload, 1, [], 0, 0, []), (77, .aload_n 0, 1, [], 0, 0, []), (78, .getfield 25, 3, [5, 4, 212], 0, 0, []), (81, .lor, 1, [], 0, 0, []), (82, .lastore, 1, [], 0, 0, []), (83, .aload_n 0, 1, [], 0, 0, []), (84, .getfield 18, 3, [5, 2, 210], 0, 0, []), (87, .iload_n 1, 1, [], 0, 0, []), (88, .dup2, 1, [], 0, 0, []), (89, .laload, 1, [], 0, 0, []), (90, .aload_n 0, 1, [], 0, 0, []), (91, .getfield 28, 3, [5, 5, 213], 0, 0, []), (94, .lor, 1, [], 0, 0, []), (95, .lastore, 1, [], 0, 0, []), (96, .lload_n 2, 1, [], 0, 0, []), (97, .lconst 0, 1, [], 0, 0, []), (98, .lcmp, 1, [], 0, 0, []), (99, .ifCond .eq (7), 3, [106], 0, 0, []), (102, .iconst (1), 1, [], 1, 0, []), (103, .goto (4), 3, [107], 0, 0, []), (106, .iconst (0), 1, [], 0, 0, []), (107, .ireturn, 1, [], 0, 0, [])]
def wX6_study : List si_row := [(0, .aload_n 0, 1, [], 0, 0, []), (1, .getfield 9, 3, [5, 0, 208], 0, 0, []), (4, .lconst 0, 1, [], 0, 0, []), (5, .invokestatic 31, 3, [62, 2, 0, 873, 463, 103, 464], 0, 0, []), (8, .aload_n 0, 1, [], 0, 0, []), (9, .getfield 15, 3, [5, 1, 209], 0, 0, []), (12, .lconst 0, 1, [], 0, 0, []), (13, .invokestatic 31, 3, [62, 2, 0, 873, 463, 103, 464], 0, 0, []), (16, .aload_n 0, 1, [], 0, 0, []), (17, .getfield 18, 3, [5, 2, 210], 0, 0, []), (20, .lconst 0, 1, [], 0, 0, []), (21, .invokestatic 31, 3, [62, 2, 0, 873, 463, 103, 464], 0, 0, []), (24, .iconst (1), 1, [], 1, 0, []), (25, .istore_n 2, 1, [], 0, 0, []), (26, .iconst (0), 1, [], 0, 0, []), (27, .istore_n 3, 1, [], 0, 0, []), (28, .iload_n 2, 1, [], 0, 0, [4]), (29, .ifCond .eq (62), 3, [91], 0, 0, []), (32, .iload_n 3, 1, [], 0, 0, []), (33, .sipush (1169), 3, [], 1169, 0, []), (36, .if_icmp .ge (55), 3, [91], 0, 0, []), (39, .iconst (0), 1, [], 0, 0, []), (40, .istore_n 2, 1, [], 0, 0, []), (41, .iconst (0), 1, [], 0, 0, []), (42, .istore 4, 2, [], 0, 0, []), (44, .iload 4, 2, [], 0, 0, []), (46, .aload_n 1, 1, [], 0, 0, []), (47, .invokevirtual 37, 3, [30, 0, 1, 2, 874, 350, 93, 352, 351], 0, 0, []), (50, .if_icmp .ge (35), 3, [85], 0, 0, []), (53, .aload_n 0, 1, [], 0, 0, []), (54, .aload_n 1, 1, [], 0, 0, []), (55, .iload 4, 2, [], 0, 0, []), (57, .invokevirtual 43, 3, [38, 1, 2, 2, 875, 386, 93, 388, 387], 0, 0, []), (60, .invokevirtual 47, 3, [223, 1, 0, 5, 876, 878, 97, 879, 35], 0, 0, []), (63, .iload_n 2, 1, [], 0, 0, []), (64, .aload_n 0, 1, [], 0, 0, []), (65, .aload_n 1, 1, [], 0, 0, []), (66, .iload 4, 2, [], 0, 0, []), (68, .invokevirtual 43, 3, [38, 1, 2, 2, 875, 386, 93, 388, 387], 0, 0, []), (71, .invokestatic 51, 3, [39, 1, 1, 890, 394, 100, 395], 0, 0, []), (74, .invokevirtual 57, 3, [224, 1, 1, 5, 891, 893, 97, 894, 37], 0, 0, []), (77, .ior, 1, [], 0, 0, []), (78, .istore_n 2, 1, [], 0, 0, []), (79, .iinc 4 (1), 3, [], 1, 0, []), (82, .goto (-38), 3, [44], 0, 0, []), (85, .iinc 3 (1), 3, [], 1, 0, []), (88, .goto (-60), 3, [28], 0, 0, []), (91, .return_, 1, [], 0, 0, [])]
def wX6_ofLength : List si_row := [(0, .iload_n 1, 1, [], 0, 0, []), (1, .ifCond .ne (10), 3, [11], 0, 0, []), (4, .aload_n 0, 1, [], 0, 0, []), (5, .getfield 9, 3, [5, 0, 208], 0, 0, []), (8, .iconst (0), 1, [], 0, 0, []), (9, .laload, 1, [], 0, 0, []), (10, .lreturn, 1, [], 0, 0, []), (11, .iload_n 1, 1, [], 0, 0, []), (12, .iconst (1), 1, [], 1, 0, []), (13, .if_icmp .ne (12), 3, [25], 0, 0, []), (16, .aload_n 0, 1, [], 0, 0, []), (17, .getfield 15, 3, [5, 1, 209], 0, 0, []), (20, .iconst (0), 1, [], 0, 0, []), (21, .laload, 1, [], 0, 0, []), (22, .goto (9), 3, [31], 0, 0, []), (25, .aload_n 0, 1, [], 0, 0, []), (26, .getfield 18, 3, [5, 2, 210], 0, 0, []), (29, .iconst (0), 1, [], 0, 0, []), (30, .laload, 1, [], 0, 0, []), (31, .lreturn, 1, [], 0, 0, [])]
def wJ13_bitCount_95d88 : List si_row := [(0, .lload_n 0, 1, [], 0, 0, []), (1, .lload_n 0, 1, [], 0, 0, []), (2, .iconst (1), 1, [], 1, 0, []), (3, .lushr, 1, [], 0, 0, []), (4, .ldc2_w 314, 3, [903], 0, 6148914691236517205, []), (7, .land, 1, [], 0, 0, []), (8, .lsub, 1, [], 0, 0, []), (9, .lstore_n 0, 1, [], 0, 0, []), (10, .lload_n 0, 1, [], 0, 0, []), (11, .ldc2_w 316, 3, [904], 0, 3689348814741910323, []), (14, .land, 1, [], 0, 0, []), (15, .lload_n 0, 1, [], 0, 0, []), (16, .iconst (2), 1, [], 2, 0, []), (17, .lushr, 1, [], 0, 0, []), (18, .ldc2_w 316, 3, [904], 0, 3689348814741910323, []), (21, .land, 1, [], 0, 0, []), (22, .ladd, 1, [], 0, 0, []), (23, .lstore_n 0, 1, [], 0, 0, []), (24, .lload_n 0, 1, [], 0, 0, []), (25, .lload_n 0, 1, [], 0, 0, []), (26, .iconst (4), 1, [], 4, 0, []), (27, .lushr, 1, [], 0, 0, []), (28, .ladd, 1, [], 0, 0, []), (29, .ldc2_w 318, 3, [905], 0, 1085102592571150095, []), (32, .land, 1, [], 0, 0, []), (33, .lstore_n 0, 1, [], 0, 0, []), (34, .lload_n 0, 1, [], 0, 0, []), (35, .lload_n 0, 1, [], 0, 0, []), (36, .bipush (8), 2, [], 8, 0, []), (38, .lushr, 1, [], 0, 0, []), (39, .ladd, 1, [], 0, 0, []), (40, .lstore_n 0, 1, [], 0, 0, []), (41, .lload_n 0, 1, [], 0, 0, []), (42, .lload_n 0, 1, [], 0, 0, []), (43, .bipush (16), 2, [], 16, 0, []), (45, .lushr, 1, [], 0, 0, []), (46, .ladd, 1, [], 0, 0, []), (47, .lstore_n 0, 1, [], 0, 0, []), (48, .lload_n 0, 1, [], 0, 0, []), (49, .lload_n 0, 1, [], 0, 0, []), (50, .bipush (32), 2, [], 32, 0, []), (52, .lushr, 1, [], 0, 0, []), (53, .ladd, 1, [], 0, 0, []), (54, .lstore_n 0, 1, [], 0, 0, []), (55, .lload_n 0, 1, [], 0, 0, []), (56, .l2i, 1, [], 0, 0, []), (57, .bipush (127), 2, [], 127, 0, []), (59, .iand, 1, [], 0, 0, []), (60, .ireturn, 1, [], 0, 0, [])]
def wX8_countWords : List si_row := [(0, .iload_n 1, 1, [], 0, 0, []), (1, .ifCond .lt (8), 3, [9], 0, 0, []), (4, .iload_n 1, 1, [], 0, 0, []), (5, .iconst (2), 1, [], 2, 0, []), (6, .if_icmp .le (6), 3, [12], 0, 0, []), (9, .bipush (-6), 2, [], -6, 0, []), (11, .ireturn, 1, [], 0, 0, []), (12, .aload_n 0, 1, [], 0, 0, []), (13, .getfield 54, 3, [7, 7, 249], 0, 0, []), (16, .aload_n 0, 1, [], 0, 0, []), (17, .getfield 19, 3, [7, 1, 243], 0, 0, []), (20, .invokevirtual 222, 3, [225, 1, 0, 5, 869, 870, 97, 872, 871], 0, 0, []), (23, .aload_n 0, 1, [], 0, 0, []), (24, .getfield 54, 3, [7, 7, 249], 0, 0, []), (27, .iload_n 1, 1, [], 0, 0, []), (28, .invokevirtual 223, 3, [226, 1, 2, 5, 896, 897, 97, 899, 898], 0, 0, []), (31, .invokestatic 226, 3, [227, 1, 1, 900, 901, 105, 902], 0, 0, []), (34, .ireturn, 1, [], 0, 0, [])]
def wX9_wordsOf : List si_row := [(0, .iload_n 0, 1, [], 0, 0, []), (1, .ifCond .ne (7), 3, [8], 0, 0, []), (4, .iconst (1), 1, [], 1, 0, []), (5, .goto (15), 3, [20], 0, 0, []), (8, .iload_n 0, 1, [], 0, 0, []), (9, .iconst (1), 1, [], 1, 0, []), (10, .if_icmp .ne (8), 3, [18], 0, 0, []), (13, .bipush (8), 2, [], 8, 0, []), (15, .goto (5), 3, [20], 0, 0, []), (18, .bipush (64), 2, [], 64, 0, []), (20, .ireturn, 1, [], 0, 0, [])]
def wX9_layWord : List si_row := [(0, .aload_n 0, 1, [], 0, 0, []), (1, .iload_n 1, 1, [], 0, 0, []), (2, .putfield 117, 3, [8, 16, 957], 0, 0, []), (5, .iload_n 2, 1, [], 0, 0, []), (6, .istore_n 3, 1, [], 0, 0, []), (7, .iconst (0), 1, [], 0, 0, []), (8, .istore 4, 2, [], 0, 0, []), (10, .iload 4, 2, [], 0, 0, [2]), (12, .iload_n 1, 1, [], 0, 0, []), (13, .if_icmp .ge (28), 3, [41], 0, 0, []), (16, .aload_n 0, 1, [], 0, 0, []), (17, .getfield 26, 3, [8, 15, 956], 0, 0, []), (20, .iload 4, 2, [], 0, 0, []), (22, .bipush (17), 2, [], 17, 0, []), (24, .iload_n 3, 1, [], 0, 0, []), (25, .bipush (8), 2, [], 8, 0, []), (27, .irem, 1, [], 0, 0, []), (28, .iadd, 1, [], 0, 0, []), (29, .iastore, 1, [], 0, 0, []), (30, .iload_n 3, 1, [], 0, 0, []), (31, .bipush (8), 2, [], 8, 0, []), (33, .idiv, 1, [], 0, 0, []), (34, .istore_n 3, 1, [], 0, 0, []), (35, .iinc 4 (1), 3, [], 1, 0, []), (38, .goto (-28), 3, [10], 0, 0, []), (41, .iload_n 1, 1, [], 0, 0, []), (42, .ireturn, 1, [], 0, 0, [])]
def wX9_countNow : List si_row := [(0, .iconst (0), 1, [], 0, 0, []), (1, .istore_n 3, 1, [], 0, 0, []), (2, .iconst (0), 1, [], 0, 0, []), (3, .istore 4, 2, [], 0, 0, []), (5, .iload 4, 2, [], 0, 0, [5, 6, 7]), (7, .iload_n 1, 1, [], 0, 0, []), (8, .invokestatic 304, 3, [229, 1, 1, 1374, 1375, 99, 1376], 0, 0, []), (11, .if_icmp .ge (73), 3, [84], 0, 0, []), (14, .aload_n 0, 1, [], 0, 0, []), (15, .iload_n 1, 1, [], 0, 0, []), (16, .iload 4, 2, [], 0, 0, []), (18, .invokevirtual 307, 3, [230, 2, 1, 8, 1377, 1379, 99, 1380, 88], 0, 0, []), (21, .istore 5, 2, [], 0, 0, []), (23, .aload_n 0, 1, [], 0, 0, []), (24, .aload_n 0, 1, [], 0, 0, []), (25, .getfield 7, 3, [8, 0, 941], 0, 0, []), (28, .aload_n 0, 1, [], 0, 0, []), (29, .getfield 107, 3, [8, 1, 942], 0, 0, []), (32, .invokevirtual 131, 3, [52, 2, 1, 8, 1085, 1087, 99, 1088, 46], 0, 0, []), (35, .istore 6, 2, [], 0, 0, []), (37, .iload_n 2, 1, [], 0, 0, []), (38, .ifCond .eq (22), 3, [60], 0, 0, []), (41, .aload_n 0, 1, [], 0, 0, []), (42, .aload_n 0, 1, [], 0, 0, []), (43, .getfield 13, 3, [8, 2, 943], 0, 0, []), (46, .aload_n 0, 1, [], 0, 0, []), (47, .getfield 301, 3, [8, 3, 944], 0, 0, []), (50, .invokevirtual 131, 3, [52, 2, 1, 8, 1085, 1087, 99, 1088, 46], 0, 0, []), (53, .ifCond .eq (7), 3, [60], 0, 0, []), (56, .iconst (1), 1, [], 1, 0, []), (57, .goto (4), 3, [61], 0, 0, []), (60, .iconst (0), 1, [], 0, 0, []), (61, .istore 7, 2, [], 0, 0, []), (63, .iload_n 3, 1, [], 0, 0, []), (64, .iload 6, 2, [], 0, 0, []), (66, .iload 7, 2, [], 0, 0, []), (68, .if_icmp .eq (7), 3, [75], 0, 0, []), (71, .iconst (1), 1, [], 1, 0, []), (72, .goto (4), 3, [76], 0, 0, []), (75, .iconst (0), 1, [], 0, 0, []), (76, .iadd, 1, [], 0, 0, []), (77, .istore_n 3, 1, [], 0, 0, []), (78, .iinc 4 (1), 3, [], 1, 0, []), (81, .goto (-76), 3, [5], 0, 0, []), (84, .iload_n 3, 1, [], 0, 0, []), (85, .ireturn, 1, [], 0, 0, [])]
def wX9_countWords : List si_row := [(0, .iload_n 1, 1, [], 0, 0, []), (1, .iconst (0), 1, [], 0, 0, []), (2, .iconst (2), 1, [], 2, 0, []), (3, .invokestatic 60, 3, [3, 3, 1, 1033, 1034, 99, 1035], 0, 0, []), (6, .ifCond .eq (12), 3, [18], 0, 0, []), (9, .aload_n 0, 1, [], 0, 0, []), (10, .iload_n 1, 1, [], 0, 0, []), (11, .iconst (0), 1, [], 0, 0, []), (12, .invokevirtual 310, 3, [231, 2, 1, 8, 1370, 1372, 99, 1373, 87], 0, 0, []), (15, .goto (5), 3, [20], 0, 0, []), (18, .bipush (-6), 2, [], -6, 0, []), (20, .ireturn, 1, [], 0, 0, [])]
def wX8_countDifferences : List si_row := [(0, .iload_n 1, 1, [], 0, 0, []), (1, .ifCond .lt (8), 3, [9], 0, 0, []), (4, .iload_n 1, 1, [], 0, 0, []), (5, .iconst (2), 1, [], 2, 0, []), (6, .if_icmp .le (6), 3, [12], 0, 0, []), (9, .bipush (-6), 2, [], -6, 0, []), (11, .ireturn, 1, [], 0, 0, []), (12, .aload_n 0, 1, [], 0, 0, []), (13, .getfield 26, 3, [7, 3, 245], 0, 0, []), (16, .ifCond .ne (6), 3, [22], 0, 0, []), (19, .bipush (-9), 2, [], -9, 0, []), (21, .ireturn, 1, [], 0, 0, []), (22, .aload_n 0, 1, [], 0, 0, []), (23, .getfield 54, 3, [7, 7, 249], 0, 0, []), (26, .aload_n 0, 1, [], 0, 0, []), (27, .getfield 19, 3, [7, 1, 243], 0, 0, []), (30, .invokevirtual 222, 3, [225, 1, 0, 5, 869, 870, 97, 872, 871], 0, 0, []), (33, .aload_n 0, 1, [], 0, 0, []), (34, .getfield 54, 3, [7, 7, 249], 0, 0, []), (37, .iload_n 1, 1, [], 0, 0, []), (38, .invokevirtual 223, 3, [226, 1, 2, 5, 896, 897, 97, 899, 898], 0, 0, []), (41, .lstore_n 2, 1, [], 0, 0, []), (42, .aload_n 0, 1, [], 0, 0, []), (43, .getfield 54, 3, [7, 7, 249], 0, 0, []), (46, .aload_n 0, 1, [], 0, 0, []), (47, .getfield 23, 3, [7, 2, 244], 0, 0, []), (50, .invokevirtual 222, 3, [225, 1, 0, 5, 869, 870, 97, 872, 871], 0, 0, []), (53, .lload_n 2, 1, [], 0, 0, []), (54, .aload_n 0, 1, [], 0, 0, []), (55, .getfield 54, 3, [7, 7, 249], 0, 0, []), (58, .iload_n 1, 1, [], 0, 0, []), (59, .invokevirtual 223, 3, [226, 1, 2, 5, 896, 897, 97, 899, 898], 0, 0, []), (62, .lxor, 1, [], 0, 0, []), (63, .invokestatic 226, 3, [227, 1, 1, 900, 901, 105, 902], 0, 0, []), (66, .ireturn, 1, [], 0, 0, [])]
def wX9_countDifferences : List si_row := [(0, .iload_n 1, 1, [], 0, 0, []), (1, .iconst (0), 1, [], 0, 0, []), (2, .iconst (2), 1, [], 2, 0, []), (3, .invokestatic 60, 3, [3, 3, 1, 1033, 1034, 99, 1035], 0, 0, []), (6, .ifCond .ne (6), 3, [12], 0, 0, []), (9, .bipush (-6), 2, [], -6, 0, []), (11, .ireturn, 1, [], 0, 0, []), (12, .aload_n 0, 1, [], 0, 0, []), (13, .getfield 298, 3, [8, 4, 945], 0, 0, []), (16, .ifCond .eq (12), 3, [28], 0, 0, []), (19, .aload_n 0, 1, [], 0, 0, []), (20, .iload_n 1, 1, [], 0, 0, []), (21, .iconst (1), 1, [], 1, 0, []), (22, .invokevirtual 310, 3, [231, 2, 1, 8, 1370, 1372, 99, 1373, 87], 0, 0, []), (25, .goto (5), 3, [30], 0, 0, []), (28, .bipush (-9), 2, [], -9, 0, []), (30, .ireturn, 1, [], 0, 0, [])]
def wX8_mixed : List si_row := [(0, .ldc2_w 267, 3, [922], 0, 31, []), (3, .lload_n 0, 1, [], 0, 0, []), (4, .lmul, 1, [], 0, 0, []), (5, .lload_n 2, 1, [], 0, 0, []), (6, .ladd, 1, [], 0, 0, []), (7, .lreturn, 1, [], 0, 0, [])]
def wX8_hashOfProductions : List si_row := [(0, .lload_n 1, 1, [], 0, 0, []), (1, .aload_n 0, 1, [], 0, 0, []), (2, .getfield 19, 3, [7, 1, 243], 0, 0, []), (5, .invokevirtual 87, 3, [30, 0, 1, 2, 349, 350, 93, 352, 351], 0, 0, []), (8, .i2l, 1, [], 0, 0, []), (9, .invokestatic 240, 3, [235, 2, 2, 919, 920, 91, 921], 0, 0, []), (12, .lstore_n 3, 1, [], 0, 0, []), (13, .iconst (0), 1, [], 0, 0, []), (14, .istore 5, 2, [], 0, 0, []), (16, .iload 5, 2, [], 0, 0, [1, 2, 4, 6, 7, 8, 9]), (18, .aload_n 0, 1, [], 0, 0, []), (19, .getfield 19, 3, [7, 1, 243], 0, 0, []), (22, .invokevirtual 87, 3, [30, 0, 1, 2, 349, 350, 93, 352, 351], 0, 0, []), (25, .if_icmp .ge (81), 3, [106], 0, 0, []), (28, .aload_n 0, 1, [], 0, 0, []), (29, .getfield 19, 3, [7, 1, 243], 0, 0, []), (32, .iload 5, 2, [], 0, 0, []), (34, .invokevirtual 116, 3, [38, 1, 2, 2, 508, 386, 93, 388, 387], 0, 0, []), (37, .lstore 6, 2, [], 0, 0, []), (39, .lload 6, 2, [], 0, 0, []), (41, .invokestatic 120, 3, [27, 1, 1, 509, 346, 100, 347], 0, 0, []), (44, .istore 8, 2, [], 0, 0, []), (46, .lload_n 3, 1, [], 0, 0, []), (47, .iload 8, 2, [], 0, 0, []), (49, .i2l, 1, [], 0, 0, []), (50, .invokestatic 240, 3, [235, 2, 2, 919, 920, 91, 921], 0, 0, []), (53, .lstore_n 3, 1, [], 0, 0, []), (54, .lload_n 3, 1, [], 0, 0, []), (55, .lload 6, 2, [], 0, 0, []), (57, .invokestatic 125, 3, [39, 1, 1, 510, 394, 100, 395], 0, 0, []), (60, .invokestatic 132, 3, [86, 1, 1, 512, 513, 91, 514], 0, 0, []), (63, .i2l, 1, [], 0, 0, []), (64, .invokestatic 240, 3, [235, 2, 2, 919, 920, 91, 921], 0, 0, []), (67, .lstore_n 3, 1, [], 0, 0, []), (68, .iconst (0), 1, [], 0, 0, []), (69, .istore 9, 2, [], 0, 0, []), (71, .iload 9, 2, [], 0, 0, [1, 2, 4, 7]), (73, .iload 8, 2, [], 0, 0, []), (75, .if_icmp .ge (25), 3, [100], 0, 0, []), (78, .lload_n 3, 1, [], 0, 0, []), (79, .lload 6, 2, [], 0, 0, []), (81, .iload 9, 2, [], 0, 0, []), (83, .invokestatic 128, 3, [40, 2, 1, 511, 402, 100, 403], 0, 0, []), (86, .invokestatic 132, 3, [86, 1, 1, 512, 513, 91, 514], 0, 0, []), (89, .i2l, 1, [], 0, 0, []), (90, .invokestatic 240, 3, [235, 2, 2, 919, 920, 91, 921], 0, 0, []), (93, .lstore_n 3, 1, [], 0, 0, []), (94, .iinc 9 (1), 3, [], 1, 0, []), (97, .goto (-26), 3, [71], 0, 0, []), (100, .iinc 5 (1), 3, [], 1, 0, []), (103, .goto (-87), 3, [16], 0, 0, []), (106, .lload_n 3, 1, [], 0, 0, []), (107, .lreturn, 1, [], 0, 0, [])]
def wX8_hashOfProperties : List si_row := [(0, .lload_n 1, 1, [], 0, 0, []), (1, .aload_n 0, 1, [], 0, 0, []), (2, .invokevirtual 249, 3, [94, 0, 1, 7, 927, 517, 91, 519, 518], 0, 0, []), (5, .i2l, 1, [], 0, 0, []), (6, .invokestatic 240, 3, [235, 2, 2, 919, 920, 91, 921], 0, 0, []), (9, .lstore_n 3, 1, [], 0, 0, []), (10, .lload_n 3, 1, [], 0, 0, []), (11, .aload_n 0, 1, [], 0, 0, []), (12, .invokevirtual 252, 3, [100, 0, 1, 7, 928, 534, 91, 536, 535], 0, 0, []), (15, .i2l, 1, [], 0, 0, []), (16, .invokestatic 240, 3, [235, 2, 2, 919, 920, 91, 921], 0, 0, []), (19, .lstore_n 3, 1, [], 0, 0, []), (20, .lload_n 3, 1, [], 0, 0, []), (21, .aload_n 0, 1, [], 0, 0, []), (22, .invokevirtual 255, 3, [105, 0, 1, 7, 929, 543, 91, 545, 544], 0, 0, []), (25, .i2l, 1, [], 0, 0, []), (26, .invokestatic 240, 3, [235, 2, 2, 919, 920, 91, 921], 0, 0, []), (29, .lstore_n 3, 1, [], 0, 0, []), (30, .lload_n 3, 1, [], 0, 0, []), (31, .aload_n 0, 1, [], 0, 0, []), (32, .invokevirtual 258, 3, [110, 0, 1, 7, 930, 557, 91, 559, 558], 0, 0, []), (35, .i2l, 1, [], 0, 0, []), (36, .invokestatic 240, 3, [235, 2, 2, 919, 920, 91, 921], 0, 0, []), (39, .lstore_n 3, 1, [], 0, 0, []), (40, .iconst (0), 1, [], 0, 0, []), (41, .istore 5, 2, [], 0, 0, []), (43, .iload 5, 2, [], 0, 0, [1, 2, 4]), (45, .iconst (1), 1, [], 1, 0, []), (46, .if_icmp .gt (39), 3, [85], 0, 0, []), (49, .lload_n 3, 1, [], 0, 0, []), (50, .aload_n 0, 1, [], 0, 0, []), (51, .getfield 40, 3, [7, 5, 247], 0, 0, []), (54, .iload 5, 2, [], 0, 0, []), (56, .invokevirtual 164, 3, [124, 1, 1, 0, 618, 619, 95, 621, 620], 0, 0, []), (59, .i2l, 1, [], 0, 0, []), (60, .invokestatic 240, 3, [235, 2, 2, 919, 920, 91, 921], 0, 0, []), (63, .lstore_n 3, 1, [], 0, 0, []), (64, .lload_n 3, 1, [], 0, 0, []), (65, .aload_n 0, 1, [], 0, 0, []), (66, .getfield 40, 3, [7, 5, 247], 0, 0, []), (69, .iload 5, 2, [], 0, 0, []), (71, .invokevirtual 167, 3, [119, 1, 1, 0, 626, 615, 95, 617, 616], 0, 0, []), (74, .i2l, 1, [], 0, 0, []), (75, .invokestatic 240, 3, [235, 2, 2, 919, 920, 91, 921], 0, 0, []), (78, .lstore_n 3, 1, [], 0, 0, []), (79, .iinc 5 (1), 3, [], 1, 0, []), (82, .goto (-39), 3, [43], 0, 0, []), (85, .lload_n 3, 1, [], 0, 0, []), (86, .aload_n 0, 1, [], 0, 0, []), (87, .getfield 40, 3, [7, 5, 247], 0, 0, []), (90, .aload_n 0, 1, [], 0, 0, []), (91, .getfield 19, 3, [7, 1, 243], 0, 0, []), (94, .invokevirtual 170, 3, [134, 1, 1, 0, 631, 632, 95, 634, 633], 0, 0, []), (97, .invokestatic 101, 3, [46, 1, 1, 413, 414, 91, 415], 0, 0, []), (100, .i2l, 1, [], 0, 0, []), (101, .invokestatic 240, 3, [235, 2, 2, 919, 920, 91, 921], 0, 0, []), (104, .lstore_n 3, 1, [], 0, 0, []), (105, .lload_n 3, 1, [], 0, 0, []), (106, .aload_n 0, 1, [], 0, 0, []), (107, .invokevirtual 261, 3, [139, 0, 1, 7, 931, 636, 91, 638, 637], 0, 0, []), (110, .i2l, 1, [], 0, 0, []), (111, .invokestatic 240, 3, [235, 2, 2, 919, 920, 91, 921], 0, 0, []), (114, .lstore_n 3, 1, [], 0, 0, []), (115, .lload_n 3, 1, [], 0, 0, []), (116, .aload_n 0, 1, [], 0, 0, []), (117, .invokevirtual 264, 3, [143, 0, 1, 7, 932, 646, 91, 648, 647], 0, 0, []), (120, .i2l, 1, [], 0, 0, []), (121, .invokestatic 240, 3, [235, 2, 2, 919, 920, 91, 921], 0, 0, []), (124, .lreturn, 1, [], 0, 0, [])]
def wX8_digest : List si_row := [(0, .aload_n 0, 1, [], 0, 0, []), (1, .getfield 40, 3, [7, 5, 247], 0, 0, []), (4, .aload_n 0, 1, [], 0, 0, []), (5, .getfield 19, 3, [7, 1, 243], 0, 0, []), (8, .invokevirtual 161, 3, [123, 1, 0, 0, 576, 577, 95, 579, 578], 0, 0, []), (11, .aload_n 0, 1, [], 0, 0, []), (12, .aload_n 0, 1, [], 0, 0, []), (13, .ldc2_w 231, 3, [914], 0, 1811, []), (16, .invokevirtual 233, 3, [236, 1, 2, 7, 915, 917, 91, 918, 38], 0, 0, []), (19, .invokevirtual 237, 3, [237, 1, 2, 7, 923, 925, 91, 926, 39], 0, 0, []), (22, .lstore_n 1, 1, [], 0, 0, []), (23, .aload_n 0, 1, [], 0, 0, []), (24, .getfield 54, 3, [7, 7, 249], 0, 0, []), (27, .aload_n 0, 1, [], 0, 0, []), (28, .getfield 19, 3, [7, 1, 243], 0, 0, []), (31, .invokevirtual 222, 3, [225, 1, 0, 5, 869, 870, 97, 872, 871], 0, 0, []), (34, .iconst (0), 1, [], 0, 0, []), (35, .istore_n 3, 1, [], 0, 0, []), (36, .iload_n 3, 1, [], 0, 0, [2]), (37, .iconst (2), 1, [], 2, 0, []), (38, .if_icmp .gt (26), 3, [64], 0, 0, []), (41, .lload_n 1, 1, [], 0, 0, []), (42, .aload_n 0, 1, [], 0, 0, []), (43, .getfield 54, 3, [7, 7, 249], 0, 0, []), (46, .iload_n 3, 1, [], 0, 0, []), (47, .invokevirtual 223, 3, [226, 1, 2, 5, 896, 897, 97, 899, 898], 0, 0, []), (50, .invokestatic 226, 3, [227, 1, 1, 900, 901, 105, 902], 0, 0, []), (53, .i2l, 1, [], 0, 0, []), (54, .invokestatic 240, 3, [235, 2, 2, 919, 920, 91, 921], 0, 0, []), (57, .lstore_n 1, 1, [], 0, 0, []), (58, .iinc 3 (1), 3, [], 1, 0, []), (61, .goto (-25), 3, [36], 0, 0, []), (64, .lload_n 1, 1, [], 0, 0, []), (65, .aload_n 0, 1, [], 0, 0, []), (66, .getfield 26, 3, [7, 3, 245], 0, 0, []), (69, .ifCond .eq (14), 3, [83], 0, 0, []), (72, .aload_n 0, 1, [], 0, 0, []), (73, .getfield 23, 3, [7, 2, 244], 0, 0, []), (76, .invokevirtual 87, 3, [30, 0, 1, 2, 349, 350, 93, 352, 351], 0, 0, []), (79, .i2l, 1, [], 0, 0, []), (80, .goto (6), 3, [86], 0, 0, []), (83, .ldc2_w 244, 3, [933], 0, -9, []), (86, .invokestatic 240, 3, [235, 2, 2, 919, 920, 91, 921], 0, 0, []), (89, .lstore_n 1, 1, [], 0, 0, []), (90, .lload_n 1, 1, [], 0, 0, []), (91, .aload_n 0, 1, [], 0, 0, []), (92, .getfield 12, 3, [7, 0, 242], 0, 0, []), (95, .invokevirtual 69, 3, [1, 0, 1, 3, 278, 279, 92, 281, 280], 0, 0, []), (98, .i2l, 1, [], 0, 0, []), (99, .invokestatic 240, 3, [235, 2, 2, 919, 920, 91, 921], 0, 0, []), (102, .lstore_n 1, 1, [], 0, 0, []), (103, .iconst (0), 1, [], 0, 0, []), (104, .istore_n 3, 1, [], 0, 0, []), (105, .iload_n 3, 1, [], 0, 0, [2]), (106, .aload_n 0, 1, [], 0, 0, []), (107, .getfield 12, 3, [7, 0, 242], 0, 0, []), (110, .invokevirtual 69, 3, [1, 0, 1, 3, 278, 279, 92, 281, 280], 0, 0, []), (113, .if_icmp .ge (23), 3, [136], 0, 0, []), (116, .lload_n 1, 1, [], 0, 0, []), (117, .aload_n 0, 1, [], 0, 0, []), (118, .getfield 12, 3, [7, 0, 242], 0, 0, []), (121, .iload_n 3, 1, [], 0, 0, []), (122, .invokevirtual 246, 3, [35, 1, 1, 3, 934, 373, 92, 375, 374], 0, 0, []), (125, .i2l, 1, [], 0, 0, []), (126, .invokestatic 240, 3, [235, 2, 2, 919, 920, 91, 921], 0, 0, []), (129, .lstore_n 1, 1, [], 0, 0, []), (130, .iinc 3 (1), 3, [], 1, 0, []), (133, .goto (-28), 3, [105], 0, 0, []), (136, .lload_n 1, 1, [], 0, 0, []), (137, .lreturn, 1, [], 0, 0, [])]
def wX9_mix : List si_row := [(0, .aload_n 0, 1, [], 0, 0, []), (1, .ldc2_w 314, 3, [1394], 0, 31, []), (4, .aload_n 0, 1, [], 0, 0, []), (5, .getfield 316, 3, [8, 28, 969], 0, 0, []), (8, .lmul, 1, [], 0, 0, []), (9, .lload_n 1, 1, [], 0, 0, []), (10, .ladd, 1, [], 0, 0, []), (11, .putfield 316, 3, [8, 28, 969], 0, 0, []), (14, .return_, 1, [], 0, 0, [])]
def wX9_digest : List si_row := [(0, .aload_n 0, 1, [], 0, 0, []), (1, .ldc2_w 319, 3, [1389], 0, 1811, []), (4, .putfield 316, 3, [8, 28, 969], 0, 0, []), (7, .aload_n 0, 1, [], 0, 0, []), (8, .aload_n 0, 1, [], 0, 0, []), (9, .getfield 107, 3, [8, 1, 942], 0, 0, []), (12, .i2l, 1, [], 0, 0, []), (13, .invokevirtual 321, 3, [239, 1, 0, 8, 1390, 1392, 99, 1393, 89], 0, 0, []), (16, .iconst (0), 1, [], 0, 0, []), (17, .istore_n 1, 1, [], 0, 0, []), (18, .iload_n 1, 1, [], 0, 0, [2]), (19, .aload_n 0, 1, [], 0, 0, []), (20, .getfield 107, 3, [8, 1, 942], 0, 0, []), (23, .if_icmp .ge (79), 3, [102], 0, 0, []), (26, .aload_n 0, 1, [], 0, 0, []), (27, .aload_n 0, 1, [], 0, 0, []), (28, .getfield 7, 3, [8, 0, 941], 0, 0, []), (31, .iload_n 1, 1, [], 0, 0, []), (32, .laload, 1, [], 0, 0, []), (33, .invokestatic 160, 3, [88, 1, 1, 1148, 1149, 99, 1150], 0, 0, []), (36, .i2l, 1, [], 0, 0, []), (37, .invokevirtual 321, 3, [239, 1, 0, 8, 1390, 1392, 99, 1393, 89], 0, 0, []), (40, .aload_n 0, 1, [], 0, 0, []), (41, .bipush (65), 2, [], 65, 0, []), (43, .aload_n 0, 1, [], 0, 0, []), (44, .getfield 7, 3, [8, 0, 941], 0, 0, []), (47, .iload_n 1, 1, [], 0, 0, []), (48, .laload, 1, [], 0, 0, []), (49, .invokestatic 90, 3, [17, 1, 1, 1066, 1067, 99, 1068], 0, 0, []), (52, .iadd, 1, [], 0, 0, []), (53, .i2l, 1, [], 0, 0, []), (54, .invokevirtual 321, 3, [239, 1, 0, 8, 1390, 1392, 99, 1393, 89], 0, 0, []), (57, .iconst (0), 1, [], 0, 0, []), (58, .istore_n 2, 1, [], 0, 0, []), (59, .aload_n 0, 1, [], 0, 0, []), (60, .getfield 7, 3, [8, 0, 941], 0, 0, []), (63, .iload_n 1, 1, [], 0, 0, []), (64, .laload, 1, [], 0, 0, []), (65, .iload_n 2, 1, [], 0, 0, []), (66, .invokestatic 56, 3, [50, 2, 1, 1089, 1090, 99, 1091], 0, 0, []), (69, .ifCond .le (27), 3, [96], 0, 0, []), (72, .aload_n 0, 1, [], 0, 0, []), (73, .aload_n 0, 1, [], 0, 0, []), (74, .getfield 7, 3, [8, 0, 941], 0, 0, []), (77, .iload_n 1, 1, [], 0, 0, []), (78, .laload, 1, [], 0, 0, []), (79, .iload_n 2, 1, [], 0, 0, []), (80, .invokestatic 56, 3, [50, 2, 1, 1089, 1090, 99, 1091], 0, 0, []), (83, .invokestatic 163, 3, [89, 1, 1, 1151, 1152, 99, 1153], 0, 0, []), (86, .i2l, 1, [], 0, 0, []), (87, .invokevirtual 321, 3, [239, 1, 0, 8, 1390, 1392, 99, 1393, 89], 0, 0, []), (90, .iinc 2 (1), 3, [], 1, 0, []), (93, .goto (-34), 3, [59], 0, 0, []), (96, .iinc 1 (1), 3, [], 1, 0, []), (99, .goto (-81), 3, [18], 0, 0, []), (102, .aload_n 0, 1, [], 0, 0, []), (103, .aload_n 0, 1, [], 0, 0, []), (104, .invokevirtual 174, 3, [97, 0, 1, 8, 1158, 1160, 99, 1161, 56], 0, 0, []), (107, .i2l, 1, [], 0, 0, []), (108, .invokevirtual 321, 3, [239, 1, 0, 8, 1390, 1392, 99, 1393, 89], 0, 0, []), (111, .aload_n 0, 1, [], 0, 0, []), (112, .aload_n 0, 1, [], 0, 0, []), (113, .invokevirtual 177, 3, [101, 0, 1, 8, 1173, 1175, 99, 1176, 58], 0, 0, []), (116, .i2l, 1, [], 0, 0, []), (117, .invokevirtual 321, 3, [239, 1, 0, 8, 1390, 1392, 99, 1393, 89], 0, 0, []), (120, .aload_n 0, 1, [], 0, 0, []), (121, .aload_n 0, 1, [], 0, 0, []), (122, .getfield 7, 3, [8, 0, 941], 0, 0, []), (125, .aload_n 0, 1, [], 0, 0, []), (126, .getfield 107, 3, [8, 1, 942], 0, 0, []), (129, .invokestatic 180, 3, [106, 2, 1, 1181, 1182, 99, 1183], 0, 0, []), (132, .i2l, 1, [], 0, 0, []), (133, .invokevirtual 321, 3, [239, 1, 0, 8, 1390, 1392, 99, 1393, 89], 0, 0, []), (136, .aload_n 0, 1, [], 0, 0, []), (137, .aload_n 0, 1, [], 0, 0, []), (138, .invokevirtual 196, 3, [111, 0, 1, 8, 1188, 1190, 99, 1191, 59], 0, 0, []), (141, .i2l, 1, [], 0, 0, []), (142, .invokevirtual 321, 3, [239, 1, 0, 8, 1390, 1392, 99, 1393, 89], 0, 0, []), (145, .iconst (0), 1, [], 0, 0, []), (146, .istore_n 1, 1, [], 0, 0, []), (147, .iload_n 1, 1, [], 0, 0, [2]), (148, .iconst (2), 1, [], 2, 0, []), (149, .if_icmp .ge (29), 3, [178], 0, 0, []), (152, .aload_n 0, 1, [], 0, 0, []), (153, .aload_n 0, 1, [], 0, 0, []), (154, .iload_n 1, 1, [], 0, 0, []), (155, .invokevirtual 212, 3, [128, 1, 1, 8, 1203, 1205, 99, 1206, 60], 0, 0, []), (158, .i2l, 1, [], 0, 0, []), (159, .invokevirtual 321, 3, [239, 1, 0, 8, 1390, 1392, 99, 1393, 89], 0, 0, []), (162, .aload_n 0, 1, [], 0, 0, []), (163, .aload_n 0, 1, [], 0, 0, []), (164, .iload_n 1, 1, [], 0, 0, []), (165, .invokevirtual 215, 3, [132, 1, 1, 8, 1219, 1221, 99, 1222, 63], 0, 0, []), (168, .i2l, 1, [], 0, 0, []), (169, .invokevirtual 321, 3, [239, 1, 0, 8, 1390, 1392, 99, 1393, 89], 0, 0, []), (172, .iinc 1 (1), 3, [], 1, 0, []), (175, .goto (-28), 3, [147], 0, 0, []), (178, .aload_n 0, 1, [], 0, 0, []), (179, .aload_n 0, 1, [], 0, 0, []), (180, .invokevirtual 218, 3, [136, 0, 1, 8, 1231, 1233, 99, 1234, 65], 0, 0, []), (183, .ifCond .eq (7), 3, [190], 0, 0, []), (186, .lconst 1, 1, [], 0, 1, []), (187, .goto (4), 3, [191], 0, 0, []), (190, .lconst 0, 1, [], 0, 0, []), (191, .invokevirtual 321, 3, [239, 1, 0, 8, 1390, 1392, 99, 1393, 89], 0, 0, []), (194, .aload_n 0, 1, [], 0, 0, []), (195, .aload_n 0, 1, [], 0, 0, []), (196, .invokevirtual 221, 3, [140, 0, 1, 8, 1239, 1241, 99, 1242, 66], 0, 0, []), (199, .ifCond .eq (7), 3, [206], 0, 0, []), (202, .lconst 1, 1, [], 0, 1, []), (203, .goto (4), 3, [207], 0, 0, []), (206, .lconst 0, 1, [], 0, 0, []), (207, .invokevirtual 321, 3, [239, 1, 0, 8, 1390, 1392, 99, 1393, 89], 0, 0, []), (210, .aload_n 0, 1, [], 0, 0, []), (211, .aload_n 0, 1, [], 0, 0, []), (212, .invokevirtual 224, 3, [144, 0, 1, 8, 1247, 1249, 99, 1250, 67], 0, 0, []), (215, .ifCond .eq (7), 3, [222], 0, 0, []), (218, .lconst 1, 1, [], 0, 1, []), (219, .goto (4), 3, [223], 0, 0, []), (222, .lconst 0, 1, [], 0, 0, []), (223, .invokevirtual 321, 3, [239, 1, 0, 8, 1390, 1392, 99, 1393, 89], 0, 0, []), (226, .iconst (0), 1, [], 0, 0, []), (227, .istore_n 1, 1, [], 0, 0, []), (228, .iload_n 1, 1, [], 0, 0, [2]), (229, .iconst (3), 1, [], 3, 0, []), (230, .if_icmp .ge (20), 3, [250], 0, 0, []), (233, .aload_n 0, 1, [], 0, 0, []), (234, .aload_n 0, 1, [], 0, 0, []), (235, .iload_n 1, 1, [], 0, 0, []), (236, .iconst (0), 1, [], 0, 0, []), (237, .invokevirtual 310, 3, [231, 2, 1, 8, 1370, 1372, 99, 1373, 87], 0, 0, []), (240, .i2l, 1, [], 0, 0, []), (241, .invokevirtual 321, 3, [239, 1, 0, 8, 1390, 1392, 99, 1393, 89], 0, 0, []), (244, .iinc 1 (1), 3, [], 1, 0, []), (247, .goto (-19), 3, [228], 0, 0, []), (250, .aload_n 0, 1, [], 0, 0, []), (251, .aload_n 0, 1, [], 0, 0, []), (252, .getfield 298, 3, [8, 4, 945], 0, 0, []), (255, .ifCond .eq (11), 3, [266], 0, 0, []), (258, .aload_n 0, 1, [], 0, 0, []), (259, .getfield 301, 3, [8, 3, 944], 0, 0, []), (262, .i2l, 1, [], 0, 0, []), (263, .goto (6), 3, [269], 0, 0, []), (266, .ldc2_w 324, 3, [1395], 0, -9, []), (269, .invokevirtual 321, 3, [239, 1, 0, 8, 1390, 1392, 99, 1393, 89], 0, 0, []), (272, .aload_n 0, 1, [], 0, 0, []), (273, .aload_n 0, 1, [], 0, 0, []), (274, .getfield 68, 3, [8, 5, 946], 0, 0, []), (277, .i2l, 1, [], 0, 0, []), (278, .invokevirtual 321, 3, [239, 1, 0, 8, 1390, 1392, 99, 1393, 89], 0, 0, []), (281, .iconst (0), 1, [], 0, 0, []), (282, .istore_n 1, 1, [], 0, 0, []), (283, .iload_n 1, 1, [], 0, 0, [2]), (284, .aload_n 0, 1, [], 0, 0, []), (285, .getfield 68, 3, [8, 5, 946], 0, 0, []), (288, .if_icmp .ge (20), 3, [308], 0, 0, []), (291, .aload_n 0, 1, [], 0, 0, []), (292, .aload_n 0, 1, [], 0, 0, []), (293, .getfield 16, 3, [8, 6, 947], 0, 0, []), (296, .iload_n 1, 1, [], 0, 0, []), (297, .iaload, 1, [], 0, 0, []), (298, .i2l, 1, [], 0, 0, []), (299, .invokevirtual 321, 3, [239, 1, 0, 8, 1390, 1392, 99, 1393, 89], 0, 0, []), (302, .iinc 1 (1), 3, [], 1, 0, []), (305, .goto (-22), 3, [283], 0, 0, []), (308, .aload_n 0, 1, [], 0, 0, []), (309, .getfield 316, 3, [8, 28, 969], 0, 0, []), (312, .lreturn, 1, [], 0, 0, [])]
def iX3_put : si_mi := (yX3_put, cX3_put, 2, (some .boolean), 0, 0, wX3_put)
def iX3_length : si_mi := (yX3_length, cX3_length, 1, (some .int), 0, 0, wX3_length)
def iX8_append : si_mi := (yX8_append, cX8_append, 2, (some .int), 1, 21, wX8_append)
def iX9_within : si_mi := (yX9_within, cX9_within, 3, (some .boolean), 0, 0, wX9_within)
def iX9_append : si_mi := (yX9_append, cX9_append, 2, (some .int), 1, 22, wX9_append)
def iX3_clear : si_mi := (yX3_clear, cX3_clear, 1, none, 0, 0, wX3_clear)
def iX8_clearInput : si_mi := (yX8_clearInput, cX8_clearInput, 2, (some .int), 1, 20, wX8_clearInput)
def iX9_clearInput : si_mi := (yX9_clearInput, cX9_clearInput, 2, (some .int), 0, 0, wX9_clearInput)
def iX8_symbolOf : si_mi := (yX8_symbolOf, cX8_symbolOf, 1, (some .int), 0, 0, wX8_symbolOf)
def iX8_isNonterminal : si_mi := (yX8_isNonterminal, cX8_isNonterminal, 1, (some .boolean), 0, 0, wX8_isNonterminal)
def iX3_stateAfter : si_mi := (yX3_stateAfter, cX3_stateAfter, 3, (some .int), 1, 20, wX3_stateAfter)
def iX3_errorPlace : si_mi := (yX3_errorPlace, cX3_errorPlace, 3, (some .int), 2, 42, wX3_errorPlace)
def iX8_firstError : si_mi := (yX8_firstError, cX8_firstError, 1, (some .int), 3, 64, wX8_firstError)
def iX9_begin : si_mi := (yX9_begin, cX9_begin, 1, none, 0, 0, wX9_begin)
def iX9_symbolOf : si_mi := (yX9_symbolOf, cX9_symbolOf, 1, (some .int), 1, 22, wX9_symbolOf)
def iX9_isNonterminal : si_mi := (yX9_isNonterminal, cX9_isNonterminal, 1, (some .boolean), 1, 22, wX9_isNonterminal)
def iX9_put : si_mi := (yX9_put, cX9_put, 5, none, 0, 0, wX9_put)
def iX9_left : si_mi := (yX9_left, cX9_left, 2, (some .int), 0, 0, wX9_left)
def iX9_takes : si_mi := (yX9_takes, cX9_takes, 3, (some .boolean), 2, 42, wX9_takes)
def iX9_rightLength : si_mi := (yX9_rightLength, cX9_rightLength, 2, (some .int), 3, 64, wX9_rightLength)
def iX9_firstError : si_mi := (yX9_firstError, cX9_firstError, 1, (some .int), 4, 85, wX9_firstError)
def iX3_isGrammar : si_mi := (yX3_isGrammar, cX3_isGrammar, 3, (some .boolean), 2, 42, wX3_isGrammar)
def iX2_clear : si_mi := (yX2_clear, cX2_clear, 1, none, 0, 0, wX2_clear)
def iX5_withoutRight : si_mi := (yX5_withoutRight, cX5_withoutRight, 1, (some .long), 0, 0, wX5_withoutRight)
def iX2_placeOf : si_mi := (yX2_placeOf, cX2_placeOf, 4, (some .int), 0, 0, wX2_placeOf)
def iX2_add : si_mi := (yX2_add, cX2_add, 4, none, 1, 26, wX2_add)
def iX5_cut : si_mi := (yX5_cut, cX5_cut, 5, (some .long), 0, 0, wX5_cut)
def iX5_length : si_mi := (yX5_length, cX5_length, 3, (some .int), 0, 0, wX5_length)
def iX5_extended : si_mi := (yX5_extended, cX5_extended, 4, (some .long), 1, 22, wX5_extended)
def iX3_readInto : si_mi := (yX3_readInto, cX3_readInto, 7, none, 2, 49, wX3_readInto)
def iX2_count : si_mi := (yX2_count, cX2_count, 1, (some .int), 0, 0, wX2_count)
def iX8_load : si_mi := (yX8_load, cX8_load, 1, (some .int), 3, 75, wX8_load)
def iX9_load : si_mi := (yX9_load, cX9_load, 2, (some .int), 4, 85, wX9_load)
def iX8_isTerminal : si_mi := (yX8_isTerminal, cX8_isTerminal, 1, (some .boolean), 0, 0, wX8_isTerminal)
def iX3_isWord : si_mi := (yX3_isWord, cX3_isWord, 2, (some .boolean), 1, 20, wX3_isWord)
def iX3_codeAt : si_mi := (yX3_codeAt, cX3_codeAt, 2, (some .int), 0, 0, wX3_codeAt)
def iX4_read : si_mi := (yX4_read, cX4_read, 3, none, 1, 21, wX4_read)
def iJ7_fill_53178 : si_mi := (yJ7_fill_53178, cJ7_fill_53178, 4, none, 0, 0, wJ7_fill_53178)
def iX2_at : si_mi := (yX2_at, cX2_at, 2, (some .long), 0, 0, wX2_at)
def iX5_left : si_mi := (yX5_left, cX5_left, 2, (some .int), 0, 0, wX5_left)
def iX5_symbolAt : si_mi := (yX5_symbolAt, cX5_symbolAt, 3, (some .int), 0, 0, wX5_symbolAt)
def iX4_stands : si_mi := (yX4_stands, cX4_stands, 3, (some .boolean), 0, 0, wX4_stands)
def iX4_endsFrom : si_mi := (yX4_endsFrom, cX4_endsFrom, 5, (some .int), 1, 22, wX4_endsFrom)
def iX4_endsOf : si_mi := (yX4_endsOf, cX4_endsOf, 7, (some .int), 2, 46, wX4_endsOf)
def iX4_addEnds : si_mi := (yX4_addEnds, cX4_addEnds, 7, (some .boolean), 3, 72, wX4_addEnds)
def iX4_derives : si_mi := (yX4_derives, cX4_derives, 5, (some .boolean), 4, 98, wX4_derives)
def iX8_bit : si_mi := (yX8_bit, cX8_bit, 1, (some .int), 0, 0, wX8_bit)
def iX8_accepts : si_mi := (yX8_accepts, cX8_accepts, 1, (some .int), 5, 122, wX8_accepts)
def iX9_isWord : si_mi := (yX9_isWord, cX9_isWord, 3, (some .boolean), 1, 22, wX9_isWord)
def iX9_takeWord : si_mi := (yX9_takeWord, cX9_takeWord, 2, none, 2, 42, wX9_takeWord)
def iX9_at : si_mi := (yX9_at, cX9_at, 3, (some .int), 0, 0, wX9_at)
def iX9_goOver : si_mi := (yX9_goOver, cX9_goOver, 5, (some .int), 2, 42, wX9_goOver)
def iX9_derives : si_mi := (yX9_derives, cX9_derives, 8, (some .boolean), 3, 66, wX9_derives)
def iX9_accepts : si_mi := (yX9_accepts, cX9_accepts, 1, (some .int), 4, 93, wX9_accepts)
def iX2_hasEmpty : si_mi := (yX2_hasEmpty, cX2_hasEmpty, 2, (some .boolean), 1, 22, wX2_hasEmpty)
def iX5_isUnit : si_mi := (yX5_isUnit, cX5_isUnit, 2, (some .boolean), 1, 22, wX5_isUnit)
def iX5_rightSet : si_mi := (yX5_rightSet, cX5_rightSet, 5, (some .int), 1, 22, wX5_rightSet)
def iX8_isIn : si_mi := (yX8_isIn, cX8_isIn, 2, (some .boolean), 0, 0, wX8_isIn)
def iX1_close : si_mi := (yX1_close, cX1_close, 3, none, 1, 21, wX1_close)
def iX1_followUnits : si_mi := (yX1_followUnits, cX1_followUnits, 5, none, 2, 46, wX1_followUnits)
def iX1_loops : si_mi := (yX1_loops, cX1_loops, 3, (some .int), 0, 0, wX1_loops)
def iX8_isEndless : si_mi := (yX8_isEndless, cX8_isEndless, 1, (some .boolean), 3, 70, wX8_isEndless)
def iJ7_fill_d0a16 : si_mi := (yJ7_fill_d0a16, cJ7_fill_d0a16, 5, none, 0, 0, wJ7_fill_d0a16)
def iX2_hasUnit : si_mi := (yX2_hasUnit, cX2_hasUnit, 2, (some .boolean), 2, 43, wX2_hasUnit)
def iX4_treesAt : si_mi := (yX4_treesAt, cX4_treesAt, 4, (some .long), 0, 0, wX4_treesAt)
def iX4_treesOfSymbol : si_mi := (yX4_treesOfSymbol, cX4_treesOfSymbol, 4, (some .long), 1, 23, wX4_treesOfSymbol)
def iX4_takeSymbol : si_mi := (yX4_takeSymbol, cX4_takeSymbol, 8, none, 2, 46, wX4_takeSymbol)
def iX4_waysThrough : si_mi := (yX4_waysThrough, cX4_waysThrough, 7, (some .long), 3, 73, wX4_waysThrough)
def iX4_countPlain : si_mi := (yX4_countPlain, cX4_countPlain, 7, none, 4, 99, wX4_countPlain)
def iX4_spreadUnits : si_mi := (yX4_spreadUnits, cX4_spreadUnits, 7, none, 2, 43, wX4_spreadUnits)
def iX4_keepTotals : si_mi := (yX4_keepTotals, cX4_keepTotals, 4, none, 0, 0, wX4_keepTotals)
def iX4_treesOf : si_mi := (yX4_treesOf, cX4_treesOf, 5, (some .long), 5, 125, wX4_treesOf)
def iX8_countTrees : si_mi := (yX8_countTrees, cX8_countTrees, 1, (some .long), 6, 149, wX8_countTrees)
def iX9_isEmpty : si_mi := (yX9_isEmpty, cX9_isEmpty, 2, (some .boolean), 1, 22, wX9_isEmpty)
def iX9_hasEmpty : si_mi := (yX9_hasEmpty, cX9_hasEmpty, 3, (some .boolean), 2, 43, wX9_hasEmpty)
def iX9_clearLeads : si_mi := (yX9_clearLeads, cX9_clearLeads, 2, none, 0, 0, wX9_clearLeads)
def iX9_isUnit : si_mi := (yX9_isUnit, cX9_isUnit, 2, (some .boolean), 2, 42, wX9_isUnit)
def iX9_closeLeads : si_mi := (yX9_closeLeads, cX9_closeLeads, 3, none, 0, 0, wX9_closeLeads)
def iX9_layUnits : si_mi := (yX9_layUnits, cX9_layUnits, 2, none, 3, 63, wX9_layUnits)
def iX9_loops : si_mi := (yX9_loops, cX9_loops, 3, (some .int), 0, 0, wX9_loops)
def iX9_hasUnitCycle : si_mi := (yX9_hasUnitCycle, cX9_hasUnitCycle, 1, (some .boolean), 4, 84, wX9_hasUnitCycle)
def iX9_waysOf : si_mi := (yX9_waysOf, cX9_waysOf, 11, (some .long), 2, 42, wX9_waysOf)
def iX9_countStretch : si_mi := (yX9_countStretch, cX9_countStretch, 8, none, 3, 72, wX9_countStretch)
def iX9_countTrees : si_mi := (yX9_countTrees, cX9_countTrees, 3, (some .long), 5, 104, wX9_countTrees)
def iX8_productionCount : si_mi := (yX8_productionCount, cX8_productionCount, 1, (some .int), 1, 20, wX8_productionCount)
def iX9_productionCount : si_mi := (yX9_productionCount, cX9_productionCount, 1, (some .int), 0, 0, wX9_productionCount)
def iX8_codeOf : si_mi := (yX8_codeOf, cX8_codeOf, 1, (some .int), 1, 20, wX8_codeOf)
def iX8_symbol : si_mi := (yX8_symbol, cX8_symbol, 5, (some .int), 2, 40, wX8_symbol)
def iX9_size : si_mi := (yX9_size, cX9_size, 3, (some .int), 1, 22, wX9_size)
def iX9_codeOf : si_mi := (yX9_codeOf, cX9_codeOf, 1, (some .int), 2, 42, wX9_codeOf)
def iX9_symbol : si_mi := (yX9_symbol, cX9_symbol, 3, (some .int), 3, 62, wX9_symbol)
def iX5_staysIn : si_mi := (yX5_staysIn, cX5_staysIn, 6, (some .boolean), 1, 22, wX5_staysIn)
def iX2_derivable : si_mi := (yX2_derivable, cX2_derivable, 7, (some .int), 2, 47, wX2_derivable)
def iX2_nullable : si_mi := (yX2_nullable, cX2_nullable, 1, (some .int), 3, 73, wX2_nullable)
def iX8_nullableSet : si_mi := (yX8_nullableSet, cX8_nullableSet, 1, (some .int), 4, 93, wX8_nullableSet)
def iX9_allIn : si_mi := (yX9_allIn, cX9_allIn, 8, (some .boolean), 2, 42, wX9_allIn)
def iX9_closedUnder : si_mi := (yX9_closedUnder, cX9_closedUnder, 5, (some .int), 3, 69, wX9_closedUnder)
def iX9_nullables : si_mi := (yX9_nullables, cX9_nullables, 1, (some .int), 4, 93, wX9_nullables)
def iX9_nullableSet : si_mi := (yX9_nullableSet, cX9_nullableSet, 1, (some .int), 5, 113, wX9_nullableSet)
def iX2_productive : si_mi := (yX2_productive, cX2_productive, 1, (some .int), 3, 73, wX2_productive)
def iX8_productiveSet : si_mi := (yX8_productiveSet, cX8_productiveSet, 1, (some .int), 4, 93, wX8_productiveSet)
def iX9_productives : si_mi := (yX9_productives, cX9_productives, 1, (some .int), 4, 93, wX9_productives)
def iX9_productiveSet : si_mi := (yX9_productiveSet, cX9_productiveSet, 1, (some .int), 5, 113, wX9_productiveSet)
def iX1_followOccurrences : si_mi := (yX1_followOccurrences, cX1_followOccurrences, 5, none, 2, 46, wX1_followOccurrences)
def iX1_reachFrom : si_mi := (yX1_reachFrom, cX1_reachFrom, 2, (some .int), 1, 20, wX1_reachFrom)
def iX8_reachableSet : si_mi := (yX8_reachableSet, cX8_reachableSet, 1, (some .int), 3, 70, wX8_reachableSet)
def iX9_reached : si_mi := (yX9_reached, cX9_reached, 7, (some .int), 2, 42, wX9_reached)
def iX9_reachableSet : si_mi := (yX9_reachableSet, cX9_reachableSet, 1, (some .int), 3, 68, wX9_reachableSet)
def iX1_leftEnds : si_mi := (yX1_leftEnds, cX1_leftEnds, 7, (some .int), 1, 22, wX1_leftEnds)
def iX1_followLeftEnds : si_mi := (yX1_followLeftEnds, cX1_followLeftEnds, 6, none, 2, 48, wX1_followLeftEnds)
def iX8_leftRecursiveSet : si_mi := (yX8_leftRecursiveSet, cX8_leftRecursiveSet, 1, (some .int), 4, 93, wX8_leftRecursiveSet)
def iX9_recursives : si_mi := (yX9_recursives, cX9_recursives, 6, (some .int), 5, 113, wX9_recursives)
def iX9_leftRecursiveSet : si_mi := (yX9_leftRecursiveSet, cX9_leftRecursiveSet, 1, (some .int), 6, 138, wX9_leftRecursiveSet)
def iX8_unitReach : si_mi := (yX8_unitReach, cX8_unitReach, 2, (some .int), 3, 70, wX8_unitReach)
def iX9_isIndex : si_mi := (yX9_isIndex, cX9_isIndex, 1, (some .boolean), 1, 22, wX9_isIndex)
def iX9_unitReach : si_mi := (yX9_unitReach, cX9_unitReach, 2, (some .int), 4, 84, wX9_unitReach)
def iX0_beginnings : si_mi := (yX0_beginnings, cX0_beginnings, 8, (some .int), 1, 22, wX0_beginnings)
def iX0_grow : si_mi := (yX0_grow, cX0_grow, 4, (some .boolean), 0, 0, wX0_grow)
def iX0_findFirsts : si_mi := (yX0_findFirsts, cX0_findFirsts, 7, none, 2, 49, wX0_findFirsts)
def iX0_followOf : si_mi := (yX0_followOf, cX0_followOf, 2, (some .int), 1, 20, wX0_followOf)
def iX0_comingAfter : si_mi := (yX0_comingAfter, cX0_comingAfter, 5, (some .int), 2, 49, wX0_comingAfter)
def iX0_passFollows : si_mi := (yX0_passFollows, cX0_passFollows, 7, (some .boolean), 3, 73, wX0_passFollows)
def iX0_findFollows : si_mi := (yX0_findFollows, cX0_findFollows, 5, none, 4, 99, wX0_findFollows)
def iX0_study : si_mi := (yX0_study, cX0_study, 2, none, 5, 123, wX0_study)
def iX0_firstOf : si_mi := (yX0_firstOf, cX0_firstOf, 2, (some .int), 1, 20, wX0_firstOf)
def iX8_firstSet : si_mi := (yX8_firstSet, cX8_firstSet, 2, (some .int), 6, 144, wX8_firstSet)
def iX9_firstOf : si_mi := (yX9_firstOf, cX9_firstOf, 9, (some .int), 2, 42, wX9_firstOf)
def iX9_layFirsts : si_mi := (yX9_layFirsts, cX9_layFirsts, 4, none, 5, 113, wX9_layFirsts)
def iX9_firstNow : si_mi := (yX9_firstNow, cX9_firstNow, 2, (some .int), 6, 136, wX9_firstNow)
def iX9_firstSet : si_mi := (yX9_firstSet, cX9_firstSet, 2, (some .int), 7, 157, wX9_firstSet)
def iX8_followSet : si_mi := (yX8_followSet, cX8_followSet, 2, (some .int), 6, 144, wX8_followSet)
def iX9_layFollows : si_mi := (yX9_layFollows, cX9_layFollows, 6, none, 6, 136, wX9_layFollows)
def iX9_followNow : si_mi := (yX9_followNow, cX9_followNow, 2, (some .int), 7, 161, wX9_followNow)
def iX9_followSet : si_mi := (yX9_followSet, cX9_followSet, 2, (some .int), 8, 182, wX9_followSet)
def iX0_hasDistinctLookaheads : si_mi := (yX0_hasDistinctLookaheads, cX0_hasDistinctLookaheads, 8, (some .boolean), 3, 73, wX0_hasDistinctLookaheads)
def iX8_isLl1 : si_mi := (yX8_isLl1, cX8_isLl1, 1, (some .int), 6, 144, wX8_isLl1)
def iX9_isPredictive : si_mi := (yX9_isPredictive, cX9_isPredictive, 6, (some .boolean), 7, 161, wX9_isPredictive)
def iX9_isLl1 : si_mi := (yX9_isLl1, cX9_isLl1, 1, (some .int), 8, 186, wX9_isLl1)
def iX5_fitsChomsky : si_mi := (yX5_fitsChomsky, cX5_fitsChomsky, 3, (some .boolean), 2, 47, wX5_fitsChomsky)
def iX8_isChomsky : si_mi := (yX8_isChomsky, cX8_isChomsky, 2, (some .int), 3, 69, wX8_isChomsky)
def iX9_isInChomsky : si_mi := (yX9_isInChomsky, cX9_isInChomsky, 6, (some .boolean), 2, 44, wX9_isInChomsky)
def iX9_isChomsky : si_mi := (yX9_isChomsky, cX9_isChomsky, 1, (some .int), 3, 69, wX9_isChomsky)
def iX5_fitsGreibach : si_mi := (yX5_fitsGreibach, cX5_fitsGreibach, 2, (some .boolean), 2, 47, wX5_fitsGreibach)
def iX8_isGreibach : si_mi := (yX8_isGreibach, cX8_isGreibach, 2, (some .int), 3, 68, wX8_isGreibach)
def iX9_isInGreibach : si_mi := (yX9_isInGreibach, cX9_isInGreibach, 4, (some .boolean), 2, 42, wX9_isInGreibach)
def iX9_isGreibach : si_mi := (yX9_isGreibach, cX9_isGreibach, 1, (some .int), 3, 65, wX9_isGreibach)
def iX2_copyFrom : si_mi := (yX2_copyFrom, cX2_copyFrom, 2, none, 1, 26, wX2_copyFrom)
def iX7_begin : si_mi := (yX7_begin, cX7_begin, 2, none, 2, 47, wX7_begin)
def iX7_beginStep : si_mi := (yX7_beginStep, cX7_beginStep, 1, none, 2, 47, wX7_beginStep)
def iX7_dropUseless : si_mi := (yX7_dropUseless, cX7_dropUseless, 7, none, 4, 93, wX7_dropUseless)
def iX2_isTooLarge : si_mi := (yX2_isTooLarge, cX2_isTooLarge, 1, (some .boolean), 0, 0, wX2_isTooLarge)
def iX7_finish : si_mi := (yX7_finish, cX7_finish, 2, (some .int), 2, 47, wX7_finish)
def iX8_removeUseless : si_mi := (yX8_removeUseless, cX8_removeUseless, 2, (some .int), 5, 119, wX8_removeUseless)
def iX9_start : si_mi := (yX9_start, cX9_start, 2, none, 0, 0, wX9_start)
def iX9_step : si_mi := (yX9_step, cX9_step, 2, none, 0, 0, wX9_step)
def iX9_finish : si_mi := (yX9_finish, cX9_finish, 2, (some .int), 0, 0, wX9_finish)
def iX9_removeUseless : si_mi := (yX9_removeUseless, cX9_removeUseless, 5, (some .int), 5, 113, wX9_removeUseless)
def iJ6_bitCount_0f7a4 : si_mi := (yJ6_bitCount_0f7a4, cJ6_bitCount_0f7a4, 1, (some .int), 0, 0, wJ6_bitCount_0f7a4)
def iX5_thinned : si_mi := (yX5_thinned, cX5_thinned, 7, (some .long), 2, 45, wX5_thinned)
def iX7_addThinned : si_mi := (yX7_addThinned, cX7_addThinned, 7, none, 3, 71, wX7_addThinned)
def iX7_dropEmpty : si_mi := (yX7_dropEmpty, cX7_dropEmpty, 3, none, 4, 97, wX7_dropEmpty)
def iX8_removeEmpty : si_mi := (yX8_removeEmpty, cX8_removeEmpty, 1, (some .int), 5, 119, wX8_removeEmpty)
def iX9_putRow : si_mi := (yX9_putRow, cX9_putRow, 5, none, 1, 24, wX9_putRow)
def iX9_putWithout : si_mi := (yX9_putWithout, cX9_putWithout, 10, none, 2, 48, wX9_putWithout)
def iX9_removeEmpty : si_mi := (yX9_removeEmpty, cX9_removeEmpty, 6, (some .int), 5, 113, wX9_removeEmpty)
def iX5_joined : si_mi := (yX5_joined, cX5_joined, 8, (some .long), 1, 22, wX5_joined)
def iX7_addLent : si_mi := (yX7_addLent, cX7_addLent, 6, none, 2, 49, wX7_addLent)
def iX7_dropUnits : si_mi := (yX7_dropUnits, cX7_dropUnits, 3, none, 3, 74, wX7_dropUnits)
def iX8_removeUnits : si_mi := (yX8_removeUnits, cX8_removeUnits, 1, (some .int), 4, 96, wX8_removeUnits)
def iX9_addRow : si_mi := (yX9_addRow, cX9_addRow, 6, none, 1, 22, wX9_addRow)
def iX9_removeUnits : si_mi := (yX9_removeUnits, cX9_removeUnits, 4, (some .int), 4, 84, wX9_removeUnits)
def iX7_occursInLong : si_mi := (yX7_occursInLong, cX7_occursInLong, 8, (some .boolean), 1, 22, wX7_occursInLong)
def iX2_leftSides : si_mi := (yX2_leftSides, cX2_leftSides, 3, (some .int), 1, 21, wX2_leftSides)
def iX2_freeNonterminal : si_mi := (yX2_freeNonterminal, cX2_freeNonterminal, 3, (some .int), 2, 46, wX2_freeNonterminal)
def iX2_refuse : si_mi := (yX2_refuse, cX2_refuse, 1, none, 0, 0, wX2_refuse)
def iX5_renamed : si_mi := (yX5_renamed, cX5_renamed, 10, (some .long), 2, 45, wX5_renamed)
def iX7_nameTerminal : si_mi := (yX7_nameTerminal, cX7_nameTerminal, 8, none, 3, 74, wX7_nameTerminal)
def iX7_nameTerminals : si_mi := (yX7_nameTerminals, cX7_nameTerminals, 3, none, 4, 101, wX7_nameTerminals)
def iX7_firstLong : si_mi := (yX7_firstLong, cX7_firstLong, 2, (some .long), 1, 22, wX7_firstLong)
def iX2_remove : si_mi := (yX2_remove, cX2_remove, 4, none, 1, 26, wX2_remove)
def iX7_split : si_mi := (yX7_split, cX7_split, 4, none, 3, 68, wX7_split)
def iX7_splitLong : si_mi := (yX7_splitLong, cX7_splitLong, 4, none, 4, 91, wX7_splitLong)
def iX8_toChomsky : si_mi := (yX8_toChomsky, cX8_toChomsky, 1, (some .int), 5, 123, wX8_toChomsky)
def iX9_hasUnit : si_mi := (yX9_hasUnit, cX9_hasUnit, 3, (some .boolean), 3, 63, wX9_hasUnit)
def iX9_mayNotStay : si_mi := (yX9_mayNotStay, cX9_mayNotStay, 5, (some .boolean), 2, 44, wX9_mayNotStay)
def iX9_freeOne : si_mi := (yX9_freeOne, cX9_freeOne, 4, (some .int), 2, 42, wX9_freeOne)
def iX9_veil : si_mi := (yX9_veil, cX9_veil, 7, none, 3, 68, wX9_veil)
def iX9_veilAll : si_mi := (yX9_veilAll, cX9_veilAll, 3, none, 4, 94, wX9_veilAll)
def iX9_cut : si_mi := (yX9_cut, cX9_cut, 4, (some .boolean), 3, 65, wX9_cut)
def iX9_toChomsky : si_mi := (yX9_toChomsky, cX9_toChomsky, 2, (some .int), 5, 116, wX9_toChomsky)
def iX5_begins : si_mi := (yX5_begins, cX5_begins, 4, (some .boolean), 1, 22, wX5_begins)
def iX7_addExpansions : si_mi := (yX7_addExpansions, cX7_addExpansions, 9, none, 2, 49, wX7_addExpansions)
def iX7_expandAll : si_mi := (yX7_expandAll, cX7_expandAll, 4, none, 3, 77, wX7_expandAll)
def iX7_isRecursive : si_mi := (yX7_isRecursive, cX7_isRecursive, 3, (some .boolean), 2, 45, wX7_isRecursive)
def iX7_turnRecursion : si_mi := (yX7_turnRecursion, cX7_turnRecursion, 6, none, 3, 68, wX7_turnRecursion)
def iX7_treatLeft : si_mi := (yX7_treatLeft, cX7_treatLeft, 4, none, 4, 100, wX7_treatLeft)
def iX7_dropLeftRecursion : si_mi := (yX7_dropLeftRecursion, cX7_dropLeftRecursion, 3, none, 5, 123, wX7_dropLeftRecursion)
def iX8_removeLeftRecursion : si_mi := (yX8_removeLeftRecursion, cX8_removeLeftRecursion, 1, (some .int), 6, 145, wX8_removeLeftRecursion)
def iX9_putTold : si_mi := (yX9_putTold, cX9_putTold, 5, none, 2, 48, wX9_putTold)
def iX9_tell : si_mi := (yX9_tell, cX9_tell, 4, none, 3, 72, wX9_tell)
def iX9_beginsWithItself : si_mi := (yX9_beginsWithItself, cX9_beginsWithItself, 3, (some .boolean), 1, 22, wX9_beginsWithItself)
def iX9_putTail : si_mi := (yX9_putTail, cX9_putTail, 4, none, 2, 48, wX9_putTail)
def iX9_unwind : si_mi := (yX9_unwind, cX9_unwind, 5, none, 3, 71, wX9_unwind)
def iX9_unwindAll : si_mi := (yX9_unwindAll, cX9_unwindAll, 4, none, 4, 95, wX9_unwindAll)
def iX9_removeLeftRecursion : si_mi := (yX9_removeLeftRecursion, cX9_removeLeftRecursion, 1, (some .int), 5, 118, wX9_removeLeftRecursion)
def iX7_sharedLength : si_mi := (yX7_sharedLength, cX7_sharedLength, 6, (some .int), 1, 22, wX7_sharedLength)
def iX7_firstShared : si_mi := (yX7_firstShared, cX7_firstShared, 2, (some .int), 2, 47, wX7_firstShared)
def iX7_factor : si_mi := (yX7_factor, cX7_factor, 8, none, 3, 68, wX7_factor)
def iX7_factorPrefixes : si_mi := (yX7_factorPrefixes, cX7_factorPrefixes, 3, none, 4, 95, wX7_factorPrefixes)
def iX8_leftFactor : si_mi := (yX8_leftFactor, cX8_leftFactor, 1, (some .int), 5, 117, wX8_leftFactor)
def iX9_factor : si_mi := (yX9_factor, cX9_factor, 8, (some .boolean), 3, 65, wX9_factor)
def iX9_leftFactor : si_mi := (yX9_leftFactor, cX9_leftFactor, 2, (some .int), 4, 92, wX9_leftFactor)
def iX7_firstWithNonterminal : si_mi := (yX7_firstWithNonterminal, cX7_firstWithNonterminal, 2, (some .long), 1, 22, wX7_firstWithNonterminal)
def iX7_expandLeftEnds : si_mi := (yX7_expandLeftEnds, cX7_expandLeftEnds, 4, none, 3, 77, wX7_expandLeftEnds)
def iX8_toGreibach : si_mi := (yX8_toGreibach, cX8_toGreibach, 1, (some .int), 6, 145, wX8_toGreibach)
def iX9_tellFirst : si_mi := (yX9_tellFirst, cX9_tellFirst, 3, (some .boolean), 3, 72, wX9_tellFirst)
def iX9_toGreibach : si_mi := (yX9_toGreibach, cX9_toGreibach, 2, (some .int), 5, 118, wX9_toGreibach)
def iX8_save : si_mi := (yX8_save, cX8_save, 1, (some .int), 2, 47, wX8_save)
def iX9_save : si_mi := (yX9_save, cX9_save, 2, (some .int), 0, 0, wX9_save)
def iX8_restore : si_mi := (yX8_restore, cX8_restore, 1, (some .int), 2, 47, wX8_restore)
def iX9_restore : si_mi := (yX9_restore, cX9_restore, 2, (some .int), 0, 0, wX9_restore)
def iX6_pairs : si_mi := (yX6_pairs, cX6_pairs, 7, (some .long), 0, 0, wX6_pairs)
def iX6_readOn : si_mi := (yX6_readOn, cX6_readOn, 11, none, 1, 26, wX6_readOn)
def iX6_readRight : si_mi := (yX6_readRight, cX6_readRight, 6, none, 2, 56, wX6_readRight)
def iX6_keepRead : si_mi := (yX6_keepRead, cX6_keepRead, 4, (some .boolean), 1, 20, wX6_keepRead)
def iX6_study : si_mi := (yX6_study, cX6_study, 5, none, 3, 81, wX6_study)
def iX6_ofLength : si_mi := (yX6_ofLength, cX6_ofLength, 2, (some .long), 0, 0, wX6_ofLength)
def iJ13_bitCount_95d88 : si_mi := (yJ13_bitCount_95d88, cJ13_bitCount_95d88, 2, (some .int), 0, 0, wJ13_bitCount_95d88)
def iX8_countWords : si_mi := (yX8_countWords, cX8_countWords, 2, (some .int), 4, 105, wX8_countWords)
def iX9_wordsOf : si_mi := (yX9_wordsOf, cX9_wordsOf, 1, (some .int), 0, 0, wX9_wordsOf)
def iX9_layWord : si_mi := (yX9_layWord, cX9_layWord, 5, (some .int), 0, 0, wX9_layWord)
def iX9_countNow : si_mi := (yX9_countNow, cX9_countNow, 8, (some .int), 4, 93, wX9_countNow)
def iX9_countWords : si_mi := (yX9_countWords, cX9_countWords, 2, (some .int), 5, 120, wX9_countWords)
def iX8_countDifferences : si_mi := (yX8_countDifferences, cX8_countDifferences, 4, (some .int), 4, 105, wX8_countDifferences)
def iX9_countDifferences : si_mi := (yX9_countDifferences, cX9_countDifferences, 2, (some .int), 5, 120, wX9_countDifferences)
def iX8_mixed : si_mi := (yX8_mixed, cX8_mixed, 4, (some .long), 0, 0, wX8_mixed)
def iX8_hashOfProductions : si_mi := (yX8_hashOfProductions, cX8_hashOfProductions, 10, (some .long), 2, 40, wX8_hashOfProductions)
def iX8_hashOfProperties : si_mi := (yX8_hashOfProperties, cX8_hashOfProperties, 6, (some .long), 5, 113, wX8_hashOfProperties)
def iX8_digest : si_mi := (yX8_digest, cX8_digest, 4, (some .long), 6, 144, wX8_digest)
def iX9_mix : si_mi := (yX9_mix, cX9_mix, 3, none, 0, 0, wX9_mix)
def iX9_digest : si_mi := (yX9_digest, cX9_digest, 3, (some .long), 8, 186, wX9_digest)
def gsh : List si_kd := [.inl (7, [4, 6, 8, 2, 10, 12, 15, 23, 27]), .inl (3, [5, 0]), .inr (false, 60), .inl (2, [7, 0, 2]), .inr (true, 60), .inl (2, [9, 0, 2]), .inr (true, 60), .inl (1, [11]), .inr (false, 16), .inl (0, [13, 14, 0]), .inr (false, 16), .inr (false, 16), .inl (4, [16, 0, 17, 18, 19, 20, 21, 22]), .inr (false, 10), .inr (false, 176), .inr (true, 1936), .inr (true, 11), .inr (true, 16), .inr (true, 16), .inr (true, 16), .inl (5, [24, 25, 26, 1, 1, 1]), .inr (true, 16), .inr (true, 16), .inr (true, 16), .inl (6, [28, 30]), .inl (2, [29, 0, 2]), .inr (true, 60), .inl (2, [31, 0, 2]), .inr (true, 60), .inl (8, [33, 0, 34, 0, 2, 0, 35, 0, 1, 0, 36, 0, 2, 37, 0, 38, 0, 39, 40, 41, 42, 43, 44, 45, 46, 47, 0, 2, 1]), .inr (true, 60), .inr (true, 60), .inr (false, 60), .inr (true, 60), .inr (false, 32), .inr (false, 10), .inr (false, 176), .inr (true, 1936), .inr (true, 11), .inr (true, 11), .inr (false, 16), .inr (false, 16), .inr (false, 16), .inr (false, 16), .inr (true, 60)]
def gmt : List si_mi := [iX3_put, iX3_length, iX8_append, iX9_within, iX9_append, iX3_clear, iX8_clearInput, iX9_clearInput, iX8_symbolOf, iX8_isNonterminal, iX3_stateAfter, iX3_errorPlace, iX8_firstError, iX9_begin, iX9_symbolOf, iX9_isNonterminal, iX9_put, iX9_left, iX9_takes, iX9_rightLength, iX9_firstError, iX3_isGrammar, iX2_clear, iX5_withoutRight, iX2_placeOf, iX2_add, iX5_cut, iX5_length, iX5_extended, iX3_readInto, iX2_count, iX8_load, iX9_load, iX8_isTerminal, iX3_isWord, iX3_codeAt, iX4_read, iJ7_fill_53178, iX2_at, iX5_left, iX5_symbolAt, iX4_stands, iX4_endsFrom, iX4_endsOf, iX4_addEnds, iX4_derives, iX8_bit, iX8_accepts, iX9_isWord, iX9_takeWord, iX9_at, iX9_goOver, iX9_derives, iX9_accepts, iX2_hasEmpty, iX5_isUnit, iX5_rightSet, iX8_isIn, iX1_close, iX1_followUnits, iX1_loops, iX8_isEndless, iJ7_fill_d0a16, iX2_hasUnit, iX4_treesAt, iX4_treesOfSymbol, iX4_takeSymbol, iX4_waysThrough, iX4_countPlain, iX4_spreadUnits, iX4_keepTotals, iX4_treesOf, iX8_countTrees, iX9_isEmpty, iX9_hasEmpty, iX9_clearLeads, iX9_isUnit, iX9_closeLeads, iX9_layUnits, iX9_loops, iX9_hasUnitCycle, iX9_waysOf, iX9_countStretch, iX9_countTrees, iX8_productionCount, iX9_productionCount, iX8_codeOf, iX8_symbol, iX9_size, iX9_codeOf, iX9_symbol, iX5_staysIn, iX2_derivable, iX2_nullable, iX8_nullableSet, iX9_allIn, iX9_closedUnder, iX9_nullables, iX9_nullableSet, iX2_productive, iX8_productiveSet, iX9_productives, iX9_productiveSet, iX1_followOccurrences, iX1_reachFrom, iX8_reachableSet, iX9_reached, iX9_reachableSet, iX1_leftEnds, iX1_followLeftEnds, iX8_leftRecursiveSet, iX9_recursives, iX9_leftRecursiveSet, iX8_unitReach, iX9_isIndex, iX9_unitReach, iX0_beginnings, iX0_grow, iX0_findFirsts, iX0_followOf, iX0_comingAfter, iX0_passFollows, iX0_findFollows, iX0_study, iX0_firstOf, iX8_firstSet, iX9_firstOf, iX9_layFirsts, iX9_firstNow, iX9_firstSet, iX8_followSet, iX9_layFollows, iX9_followNow, iX9_followSet, iX0_hasDistinctLookaheads, iX8_isLl1, iX9_isPredictive, iX9_isLl1, iX5_fitsChomsky, iX8_isChomsky, iX9_isInChomsky, iX9_isChomsky, iX5_fitsGreibach, iX8_isGreibach, iX9_isInGreibach, iX9_isGreibach, iX2_copyFrom, iX7_begin, iX7_beginStep, iX7_dropUseless, iX2_isTooLarge, iX7_finish, iX8_removeUseless, iX9_start, iX9_step, iX9_finish, iX9_removeUseless, iJ6_bitCount_0f7a4, iX5_thinned, iX7_addThinned, iX7_dropEmpty, iX8_removeEmpty, iX9_putRow, iX9_putWithout, iX9_removeEmpty, iX5_joined, iX7_addLent, iX7_dropUnits, iX8_removeUnits, iX9_addRow, iX9_removeUnits, iX7_occursInLong, iX2_leftSides, iX2_freeNonterminal, iX2_refuse, iX5_renamed, iX7_nameTerminal, iX7_nameTerminals, iX7_firstLong, iX2_remove, iX7_split, iX7_splitLong, iX8_toChomsky, iX9_hasUnit, iX9_mayNotStay, iX9_freeOne, iX9_veil, iX9_veilAll, iX9_cut, iX9_toChomsky, iX5_begins, iX7_addExpansions, iX7_expandAll, iX7_isRecursive, iX7_turnRecursion, iX7_treatLeft, iX7_dropLeftRecursion, iX8_removeLeftRecursion, iX9_putTold, iX9_tell, iX9_beginsWithItself, iX9_putTail, iX9_unwind, iX9_unwindAll, iX9_removeLeftRecursion, iX7_sharedLength, iX7_firstShared, iX7_factor, iX7_factorPrefixes, iX8_leftFactor, iX9_factor, iX9_leftFactor, iX7_firstWithNonterminal, iX7_expandLeftEnds, iX8_toGreibach, iX9_tellFirst, iX9_toGreibach, iX8_save, iX9_save, iX8_restore, iX9_restore, iX6_pairs, iX6_readOn, iX6_readRight, iX6_keepRead, iX6_study, iX6_ofLength, iJ13_bitCount_95d88, iX8_countWords, iX9_wordsOf, iX9_layWord, iX9_countNow, iX9_countWords, iX8_countDifferences, iX9_countDifferences, iX8_mixed, iX8_hashOfProductions, iX8_hashOfProperties, iX8_digest, iX9_mix, iX9_digest]
def gP : si_P := (gmt, gsh)
def gln (k : Nat) : Nat := match gsh[k]? with
  | some (.inr (_, n)) => n
  | _ => 0
abbrev gcl : List vw_C := [(RX0, TX0, 3), (RX1, TX1, 1), (RX2, TX2, 3), (RX3, TX3, 2), (RX4, TX4, 8), (RX6, TX6, 6), (RX7, TX7, 2), (RX8, TX8, 9), (RX9, TX9, 29)]
end
section
/-! printed by gen2.py: where each method stands -/
theorem gX3_put : gP.1[nX3_put]? = some (yX3_put, cX3_put, 2, (some .boolean), 0, 0, wX3_put) := rfl
theorem gX3_length : gP.1[nX3_length]? = some (yX3_length, cX3_length, 1, (some .int), 0, 0, wX3_length) := rfl
theorem gX8_append : gP.1[nX8_append]? = some (yX8_append, cX8_append, 2, (some .int), 1, 21, wX8_append) := rfl
theorem gX9_within : gP.1[nX9_within]? = some (yX9_within, cX9_within, 3, (some .boolean), 0, 0, wX9_within) := rfl
theorem gX9_append : gP.1[nX9_append]? = some (yX9_append, cX9_append, 2, (some .int), 1, 22, wX9_append) := rfl
theorem gX3_clear : gP.1[nX3_clear]? = some (yX3_clear, cX3_clear, 1, none, 0, 0, wX3_clear) := rfl
theorem gX8_clearInput : gP.1[nX8_clearInput]? = some (yX8_clearInput, cX8_clearInput, 2, (some .int), 1, 20, wX8_clearInput) := rfl
theorem gX9_clearInput : gP.1[nX9_clearInput]? = some (yX9_clearInput, cX9_clearInput, 2, (some .int), 0, 0, wX9_clearInput) := rfl
theorem gX8_symbolOf : gP.1[nX8_symbolOf]? = some (yX8_symbolOf, cX8_symbolOf, 1, (some .int), 0, 0, wX8_symbolOf) := rfl
theorem gX8_isNonterminal : gP.1[nX8_isNonterminal]? = some (yX8_isNonterminal, cX8_isNonterminal, 1, (some .boolean), 0, 0, wX8_isNonterminal) := rfl
theorem gX3_stateAfter : gP.1[nX3_stateAfter]? = some (yX3_stateAfter, cX3_stateAfter, 3, (some .int), 1, 20, wX3_stateAfter) := rfl
theorem gX3_errorPlace : gP.1[nX3_errorPlace]? = some (yX3_errorPlace, cX3_errorPlace, 3, (some .int), 2, 42, wX3_errorPlace) := rfl
theorem gX8_firstError : gP.1[nX8_firstError]? = some (yX8_firstError, cX8_firstError, 1, (some .int), 3, 64, wX8_firstError) := rfl
theorem gX9_begin : gP.1[nX9_begin]? = some (yX9_begin, cX9_begin, 1, none, 0, 0, wX9_begin) := rfl
theorem gX9_symbolOf : gP.1[nX9_symbolOf]? = some (yX9_symbolOf, cX9_symbolOf, 1, (some .int), 1, 22, wX9_symbolOf) := rfl
theorem gX9_isNonterminal : gP.1[nX9_isNonterminal]? = some (yX9_isNonterminal, cX9_isNonterminal, 1, (some .boolean), 1, 22, wX9_isNonterminal) := rfl
theorem gX9_put : gP.1[nX9_put]? = some (yX9_put, cX9_put, 5, none, 0, 0, wX9_put) := rfl
theorem gX9_left : gP.1[nX9_left]? = some (yX9_left, cX9_left, 2, (some .int), 0, 0, wX9_left) := rfl
theorem gX9_takes : gP.1[nX9_takes]? = some (yX9_takes, cX9_takes, 3, (some .boolean), 2, 42, wX9_takes) := rfl
theorem gX9_rightLength : gP.1[nX9_rightLength]? = some (yX9_rightLength, cX9_rightLength, 2, (some .int), 3, 64, wX9_rightLength) := rfl
theorem gX9_firstError : gP.1[nX9_firstError]? = some (yX9_firstError, cX9_firstError, 1, (some .int), 4, 85, wX9_firstError) := rfl
theorem gX3_isGrammar : gP.1[nX3_isGrammar]? = some (yX3_isGrammar, cX3_isGrammar, 3, (some .boolean), 2, 42, wX3_isGrammar) := rfl
theorem gX2_clear : gP.1[nX2_clear]? = some (yX2_clear, cX2_clear, 1, none, 0, 0, wX2_clear) := rfl
theorem gX5_withoutRight : gP.1[nX5_withoutRight]? = some (yX5_withoutRight, cX5_withoutRight, 1, (some .long), 0, 0, wX5_withoutRight) := rfl
theorem gX2_placeOf : gP.1[nX2_placeOf]? = some (yX2_placeOf, cX2_placeOf, 4, (some .int), 0, 0, wX2_placeOf) := rfl
theorem gX2_add : gP.1[nX2_add]? = some (yX2_add, cX2_add, 4, none, 1, 26, wX2_add) := rfl
theorem gX5_cut : gP.1[nX5_cut]? = some (yX5_cut, cX5_cut, 5, (some .long), 0, 0, wX5_cut) := rfl
theorem gX5_length : gP.1[nX5_length]? = some (yX5_length, cX5_length, 3, (some .int), 0, 0, wX5_length) := rfl
theorem gX5_extended : gP.1[nX5_extended]? = some (yX5_extended, cX5_extended, 4, (some .long), 1, 22, wX5_extended) := rfl
theorem gX3_readInto : gP.1[nX3_readInto]? = some (yX3_readInto, cX3_readInto, 7, none, 2, 49, wX3_readInto) := rfl
theorem gX2_count : gP.1[nX2_count]? = some (yX2_count, cX2_count, 1, (some .int), 0, 0, wX2_count) := rfl
theorem gX8_load : gP.1[nX8_load]? = some (yX8_load, cX8_load, 1, (some .int), 3, 75, wX8_load) := rfl
theorem gX9_load : gP.1[nX9_load]? = some (yX9_load, cX9_load, 2, (some .int), 4, 85, wX9_load) := rfl
theorem gX8_isTerminal : gP.1[nX8_isTerminal]? = some (yX8_isTerminal, cX8_isTerminal, 1, (some .boolean), 0, 0, wX8_isTerminal) := rfl
theorem gX3_isWord : gP.1[nX3_isWord]? = some (yX3_isWord, cX3_isWord, 2, (some .boolean), 1, 20, wX3_isWord) := rfl
theorem gX3_codeAt : gP.1[nX3_codeAt]? = some (yX3_codeAt, cX3_codeAt, 2, (some .int), 0, 0, wX3_codeAt) := rfl
theorem gX4_read : gP.1[nX4_read]? = some (yX4_read, cX4_read, 3, none, 1, 21, wX4_read) := rfl
theorem gJ7_fill_53178 : gP.1[nJ7_fill_53178]? = some (yJ7_fill_53178, cJ7_fill_53178, 4, none, 0, 0, wJ7_fill_53178) := rfl
theorem gX2_at : gP.1[nX2_at]? = some (yX2_at, cX2_at, 2, (some .long), 0, 0, wX2_at) := rfl
theorem gX5_left : gP.1[nX5_left]? = some (yX5_left, cX5_left, 2, (some .int), 0, 0, wX5_left) := rfl
theorem gX5_symbolAt : gP.1[nX5_symbolAt]? = some (yX5_symbolAt, cX5_symbolAt, 3, (some .int), 0, 0, wX5_symbolAt) := rfl
theorem gX4_stands : gP.1[nX4_stands]? = some (yX4_stands, cX4_stands, 3, (some .boolean), 0, 0, wX4_stands) := rfl
theorem gX4_endsFrom : gP.1[nX4_endsFrom]? = some (yX4_endsFrom, cX4_endsFrom, 5, (some .int), 1, 22, wX4_endsFrom) := rfl
theorem gX4_endsOf : gP.1[nX4_endsOf]? = some (yX4_endsOf, cX4_endsOf, 7, (some .int), 2, 46, wX4_endsOf) := rfl
theorem gX4_addEnds : gP.1[nX4_addEnds]? = some (yX4_addEnds, cX4_addEnds, 7, (some .boolean), 3, 72, wX4_addEnds) := rfl
theorem gX4_derives : gP.1[nX4_derives]? = some (yX4_derives, cX4_derives, 5, (some .boolean), 4, 98, wX4_derives) := rfl
theorem gX8_bit : gP.1[nX8_bit]? = some (yX8_bit, cX8_bit, 1, (some .int), 0, 0, wX8_bit) := rfl
theorem gX8_accepts : gP.1[nX8_accepts]? = some (yX8_accepts, cX8_accepts, 1, (some .int), 5, 122, wX8_accepts) := rfl
theorem gX9_isWord : gP.1[nX9_isWord]? = some (yX9_isWord, cX9_isWord, 3, (some .boolean), 1, 22, wX9_isWord) := rfl
theorem gX9_takeWord : gP.1[nX9_takeWord]? = some (yX9_takeWord, cX9_takeWord, 2, none, 2, 42, wX9_takeWord) := rfl
theorem gX9_at : gP.1[nX9_at]? = some (yX9_at, cX9_at, 3, (some .int), 0, 0, wX9_at) := rfl
theorem gX9_goOver : gP.1[nX9_goOver]? = some (yX9_goOver, cX9_goOver, 5, (some .int), 2, 42, wX9_goOver) := rfl
theorem gX9_derives : gP.1[nX9_derives]? = some (yX9_derives, cX9_derives, 8, (some .boolean), 3, 66, wX9_derives) := rfl
theorem gX9_accepts : gP.1[nX9_accepts]? = some (yX9_accepts, cX9_accepts, 1, (some .int), 4, 93, wX9_accepts) := rfl
theorem gX2_hasEmpty : gP.1[nX2_hasEmpty]? = some (yX2_hasEmpty, cX2_hasEmpty, 2, (some .boolean), 1, 22, wX2_hasEmpty) := rfl
theorem gX5_isUnit : gP.1[nX5_isUnit]? = some (yX5_isUnit, cX5_isUnit, 2, (some .boolean), 1, 22, wX5_isUnit) := rfl
theorem gX5_rightSet : gP.1[nX5_rightSet]? = some (yX5_rightSet, cX5_rightSet, 5, (some .int), 1, 22, wX5_rightSet) := rfl
theorem gX8_isIn : gP.1[nX8_isIn]? = some (yX8_isIn, cX8_isIn, 2, (some .boolean), 0, 0, wX8_isIn) := rfl
theorem gX1_close : gP.1[nX1_close]? = some (yX1_close, cX1_close, 3, none, 1, 21, wX1_close) := rfl
theorem gX1_followUnits : gP.1[nX1_followUnits]? = some (yX1_followUnits, cX1_followUnits, 5, none, 2, 46, wX1_followUnits) := rfl
theorem gX1_loops : gP.1[nX1_loops]? = some (yX1_loops, cX1_loops, 3, (some .int), 0, 0, wX1_loops) := rfl
theorem gX8_isEndless : gP.1[nX8_isEndless]? = some (yX8_isEndless, cX8_isEndless, 1, (some .boolean), 3, 70, wX8_isEndless) := rfl
theorem gJ7_fill_d0a16 : gP.1[nJ7_fill_d0a16]? = some (yJ7_fill_d0a16, cJ7_fill_d0a16, 5, none, 0, 0, wJ7_fill_d0a16) := rfl
theorem gX2_hasUnit : gP.1[nX2_hasUnit]? = some (yX2_hasUnit, cX2_hasUnit, 2, (some .boolean), 2, 43, wX2_hasUnit) := rfl
theorem gX4_treesAt : gP.1[nX4_treesAt]? = some (yX4_treesAt, cX4_treesAt, 4, (some .long), 0, 0, wX4_treesAt) := rfl
theorem gX4_treesOfSymbol : gP.1[nX4_treesOfSymbol]? = some (yX4_treesOfSymbol, cX4_treesOfSymbol, 4, (some .long), 1, 23, wX4_treesOfSymbol) := rfl
theorem gX4_takeSymbol : gP.1[nX4_takeSymbol]? = some (yX4_takeSymbol, cX4_takeSymbol, 8, none, 2, 46, wX4_takeSymbol) := rfl
theorem gX4_waysThrough : gP.1[nX4_waysThrough]? = some (yX4_waysThrough, cX4_waysThrough, 7, (some .long), 3, 73, wX4_waysThrough) := rfl
theorem gX4_countPlain : gP.1[nX4_countPlain]? = some (yX4_countPlain, cX4_countPlain, 7, none, 4, 99, wX4_countPlain) := rfl
theorem gX4_spreadUnits : gP.1[nX4_spreadUnits]? = some (yX4_spreadUnits, cX4_spreadUnits, 7, none, 2, 43, wX4_spreadUnits) := rfl
theorem gX4_keepTotals : gP.1[nX4_keepTotals]? = some (yX4_keepTotals, cX4_keepTotals, 4, none, 0, 0, wX4_keepTotals) := rfl
theorem gX4_treesOf : gP.1[nX4_treesOf]? = some (yX4_treesOf, cX4_treesOf, 5, (some .long), 5, 125, wX4_treesOf) := rfl
theorem gX8_countTrees : gP.1[nX8_countTrees]? = some (yX8_countTrees, cX8_countTrees, 1, (some .long), 6, 149, wX8_countTrees) := rfl
theorem gX9_isEmpty : gP.1[nX9_isEmpty]? = some (yX9_isEmpty, cX9_isEmpty, 2, (some .boolean), 1, 22, wX9_isEmpty) := rfl
theorem gX9_hasEmpty : gP.1[nX9_hasEmpty]? = some (yX9_hasEmpty, cX9_hasEmpty, 3, (some .boolean), 2, 43, wX9_hasEmpty) := rfl
theorem gX9_clearLeads : gP.1[nX9_clearLeads]? = some (yX9_clearLeads, cX9_clearLeads, 2, none, 0, 0, wX9_clearLeads) := rfl
theorem gX9_isUnit : gP.1[nX9_isUnit]? = some (yX9_isUnit, cX9_isUnit, 2, (some .boolean), 2, 42, wX9_isUnit) := rfl
theorem gX9_closeLeads : gP.1[nX9_closeLeads]? = some (yX9_closeLeads, cX9_closeLeads, 3, none, 0, 0, wX9_closeLeads) := rfl
theorem gX9_layUnits : gP.1[nX9_layUnits]? = some (yX9_layUnits, cX9_layUnits, 2, none, 3, 63, wX9_layUnits) := rfl
theorem gX9_loops : gP.1[nX9_loops]? = some (yX9_loops, cX9_loops, 3, (some .int), 0, 0, wX9_loops) := rfl
theorem gX9_hasUnitCycle : gP.1[nX9_hasUnitCycle]? = some (yX9_hasUnitCycle, cX9_hasUnitCycle, 1, (some .boolean), 4, 84, wX9_hasUnitCycle) := rfl
theorem gX9_waysOf : gP.1[nX9_waysOf]? = some (yX9_waysOf, cX9_waysOf, 11, (some .long), 2, 42, wX9_waysOf) := rfl
theorem gX9_countStretch : gP.1[nX9_countStretch]? = some (yX9_countStretch, cX9_countStretch, 8, none, 3, 72, wX9_countStretch) := rfl
theorem gX9_countTrees : gP.1[nX9_countTrees]? = some (yX9_countTrees, cX9_countTrees, 3, (some .long), 5, 104, wX9_countTrees) := rfl
theorem gX8_productionCount : gP.1[nX8_productionCount]? = some (yX8_productionCount, cX8_productionCount, 1, (some .int), 1, 20, wX8_productionCount) := rfl
theorem gX9_productionCount : gP.1[nX9_productionCount]? = some (yX9_productionCount, cX9_productionCount, 1, (some .int), 0, 0, wX9_productionCount) := rfl
theorem gX8_codeOf : gP.1[nX8_codeOf]? = some (yX8_codeOf, cX8_codeOf, 1, (some .int), 1, 20, wX8_codeOf) := rfl
theorem gX8_symbol : gP.1[nX8_symbol]? = some (yX8_symbol, cX8_symbol, 5, (some .int), 2, 40, wX8_symbol) := rfl
theorem gX9_size : gP.1[nX9_size]? = some (yX9_size, cX9_size, 3, (some .int), 1, 22, wX9_size) := rfl
theorem gX9_codeOf : gP.1[nX9_codeOf]? = some (yX9_codeOf, cX9_codeOf, 1, (some .int), 2, 42, wX9_codeOf) := rfl
theorem gX9_symbol : gP.1[nX9_symbol]? = some (yX9_symbol, cX9_symbol, 3, (some .int), 3, 62, wX9_symbol) := rfl
theorem gX5_staysIn : gP.1[nX5_staysIn]? = some (yX5_staysIn, cX5_staysIn, 6, (some .boolean), 1, 22, wX5_staysIn) := rfl
theorem gX2_derivable : gP.1[nX2_derivable]? = some (yX2_derivable, cX2_derivable, 7, (some .int), 2, 47, wX2_derivable) := rfl
theorem gX2_nullable : gP.1[nX2_nullable]? = some (yX2_nullable, cX2_nullable, 1, (some .int), 3, 73, wX2_nullable) := rfl
theorem gX8_nullableSet : gP.1[nX8_nullableSet]? = some (yX8_nullableSet, cX8_nullableSet, 1, (some .int), 4, 93, wX8_nullableSet) := rfl
theorem gX9_allIn : gP.1[nX9_allIn]? = some (yX9_allIn, cX9_allIn, 8, (some .boolean), 2, 42, wX9_allIn) := rfl
theorem gX9_closedUnder : gP.1[nX9_closedUnder]? = some (yX9_closedUnder, cX9_closedUnder, 5, (some .int), 3, 69, wX9_closedUnder) := rfl
theorem gX9_nullables : gP.1[nX9_nullables]? = some (yX9_nullables, cX9_nullables, 1, (some .int), 4, 93, wX9_nullables) := rfl
theorem gX9_nullableSet : gP.1[nX9_nullableSet]? = some (yX9_nullableSet, cX9_nullableSet, 1, (some .int), 5, 113, wX9_nullableSet) := rfl
theorem gX2_productive : gP.1[nX2_productive]? = some (yX2_productive, cX2_productive, 1, (some .int), 3, 73, wX2_productive) := rfl
theorem gX8_productiveSet : gP.1[nX8_productiveSet]? = some (yX8_productiveSet, cX8_productiveSet, 1, (some .int), 4, 93, wX8_productiveSet) := rfl
theorem gX9_productives : gP.1[nX9_productives]? = some (yX9_productives, cX9_productives, 1, (some .int), 4, 93, wX9_productives) := rfl
theorem gX9_productiveSet : gP.1[nX9_productiveSet]? = some (yX9_productiveSet, cX9_productiveSet, 1, (some .int), 5, 113, wX9_productiveSet) := rfl
theorem gX1_followOccurrences : gP.1[nX1_followOccurrences]? = some (yX1_followOccurrences, cX1_followOccurrences, 5, none, 2, 46, wX1_followOccurrences) := rfl
theorem gX1_reachFrom : gP.1[nX1_reachFrom]? = some (yX1_reachFrom, cX1_reachFrom, 2, (some .int), 1, 20, wX1_reachFrom) := rfl
theorem gX8_reachableSet : gP.1[nX8_reachableSet]? = some (yX8_reachableSet, cX8_reachableSet, 1, (some .int), 3, 70, wX8_reachableSet) := rfl
theorem gX9_reached : gP.1[nX9_reached]? = some (yX9_reached, cX9_reached, 7, (some .int), 2, 42, wX9_reached) := rfl
theorem gX9_reachableSet : gP.1[nX9_reachableSet]? = some (yX9_reachableSet, cX9_reachableSet, 1, (some .int), 3, 68, wX9_reachableSet) := rfl
theorem gX1_leftEnds : gP.1[nX1_leftEnds]? = some (yX1_leftEnds, cX1_leftEnds, 7, (some .int), 1, 22, wX1_leftEnds) := rfl
theorem gX1_followLeftEnds : gP.1[nX1_followLeftEnds]? = some (yX1_followLeftEnds, cX1_followLeftEnds, 6, none, 2, 48, wX1_followLeftEnds) := rfl
theorem gX8_leftRecursiveSet : gP.1[nX8_leftRecursiveSet]? = some (yX8_leftRecursiveSet, cX8_leftRecursiveSet, 1, (some .int), 4, 93, wX8_leftRecursiveSet) := rfl
theorem gX9_recursives : gP.1[nX9_recursives]? = some (yX9_recursives, cX9_recursives, 6, (some .int), 5, 113, wX9_recursives) := rfl
theorem gX9_leftRecursiveSet : gP.1[nX9_leftRecursiveSet]? = some (yX9_leftRecursiveSet, cX9_leftRecursiveSet, 1, (some .int), 6, 138, wX9_leftRecursiveSet) := rfl
theorem gX8_unitReach : gP.1[nX8_unitReach]? = some (yX8_unitReach, cX8_unitReach, 2, (some .int), 3, 70, wX8_unitReach) := rfl
theorem gX9_isIndex : gP.1[nX9_isIndex]? = some (yX9_isIndex, cX9_isIndex, 1, (some .boolean), 1, 22, wX9_isIndex) := rfl
theorem gX9_unitReach : gP.1[nX9_unitReach]? = some (yX9_unitReach, cX9_unitReach, 2, (some .int), 4, 84, wX9_unitReach) := rfl
theorem gX0_beginnings : gP.1[nX0_beginnings]? = some (yX0_beginnings, cX0_beginnings, 8, (some .int), 1, 22, wX0_beginnings) := rfl
theorem gX0_grow : gP.1[nX0_grow]? = some (yX0_grow, cX0_grow, 4, (some .boolean), 0, 0, wX0_grow) := rfl
theorem gX0_findFirsts : gP.1[nX0_findFirsts]? = some (yX0_findFirsts, cX0_findFirsts, 7, none, 2, 49, wX0_findFirsts) := rfl
theorem gX0_followOf : gP.1[nX0_followOf]? = some (yX0_followOf, cX0_followOf, 2, (some .int), 1, 20, wX0_followOf) := rfl
theorem gX0_comingAfter : gP.1[nX0_comingAfter]? = some (yX0_comingAfter, cX0_comingAfter, 5, (some .int), 2, 49, wX0_comingAfter) := rfl
theorem gX0_passFollows : gP.1[nX0_passFollows]? = some (yX0_passFollows, cX0_passFollows, 7, (some .boolean), 3, 73, wX0_passFollows) := rfl
theorem gX0_findFollows : gP.1[nX0_findFollows]? = some (yX0_findFollows, cX0_findFollows, 5, none, 4, 99, wX0_findFollows) := rfl
theorem gX0_study : gP.1[nX0_study]? = some (yX0_study, cX0_study, 2, none, 5, 123, wX0_study) := rfl
theorem gX0_firstOf : gP.1[nX0_firstOf]? = some (yX0_firstOf, cX0_firstOf, 2, (some .int), 1, 20, wX0_firstOf) := rfl
theorem gX8_firstSet : gP.1[nX8_firstSet]? = some (yX8_firstSet, cX8_firstSet, 2, (some .int), 6, 144, wX8_firstSet) := rfl
theorem gX9_firstOf : gP.1[nX9_firstOf]? = some (yX9_firstOf, cX9_firstOf, 9, (some .int), 2, 42, wX9_firstOf) := rfl
theorem gX9_layFirsts : gP.1[nX9_layFirsts]? = some (yX9_layFirsts, cX9_layFirsts, 4, none, 5, 113, wX9_layFirsts) := rfl
theorem gX9_firstNow : gP.1[nX9_firstNow]? = some (yX9_firstNow, cX9_firstNow, 2, (some .int), 6, 136, wX9_firstNow) := rfl
theorem gX9_firstSet : gP.1[nX9_firstSet]? = some (yX9_firstSet, cX9_firstSet, 2, (some .int), 7, 157, wX9_firstSet) := rfl
theorem gX8_followSet : gP.1[nX8_followSet]? = some (yX8_followSet, cX8_followSet, 2, (some .int), 6, 144, wX8_followSet) := rfl
theorem gX9_layFollows : gP.1[nX9_layFollows]? = some (yX9_layFollows, cX9_layFollows, 6, none, 6, 136, wX9_layFollows) := rfl
theorem gX9_followNow : gP.1[nX9_followNow]? = some (yX9_followNow, cX9_followNow, 2, (some .int), 7, 161, wX9_followNow) := rfl
theorem gX9_followSet : gP.1[nX9_followSet]? = some (yX9_followSet, cX9_followSet, 2, (some .int), 8, 182, wX9_followSet) := rfl
theorem gX0_hasDistinctLookaheads : gP.1[nX0_hasDistinctLookaheads]? = some (yX0_hasDistinctLookaheads, cX0_hasDistinctLookaheads, 8, (some .boolean), 3, 73, wX0_hasDistinctLookaheads) := rfl
theorem gX8_isLl1 : gP.1[nX8_isLl1]? = some (yX8_isLl1, cX8_isLl1, 1, (some .int), 6, 144, wX8_isLl1) := rfl
theorem gX9_isPredictive : gP.1[nX9_isPredictive]? = some (yX9_isPredictive, cX9_isPredictive, 6, (some .boolean), 7, 161, wX9_isPredictive) := rfl
theorem gX9_isLl1 : gP.1[nX9_isLl1]? = some (yX9_isLl1, cX9_isLl1, 1, (some .int), 8, 186, wX9_isLl1) := rfl
theorem gX5_fitsChomsky : gP.1[nX5_fitsChomsky]? = some (yX5_fitsChomsky, cX5_fitsChomsky, 3, (some .boolean), 2, 47, wX5_fitsChomsky) := rfl
theorem gX8_isChomsky : gP.1[nX8_isChomsky]? = some (yX8_isChomsky, cX8_isChomsky, 2, (some .int), 3, 69, wX8_isChomsky) := rfl
theorem gX9_isInChomsky : gP.1[nX9_isInChomsky]? = some (yX9_isInChomsky, cX9_isInChomsky, 6, (some .boolean), 2, 44, wX9_isInChomsky) := rfl
theorem gX9_isChomsky : gP.1[nX9_isChomsky]? = some (yX9_isChomsky, cX9_isChomsky, 1, (some .int), 3, 69, wX9_isChomsky) := rfl
theorem gX5_fitsGreibach : gP.1[nX5_fitsGreibach]? = some (yX5_fitsGreibach, cX5_fitsGreibach, 2, (some .boolean), 2, 47, wX5_fitsGreibach) := rfl
theorem gX8_isGreibach : gP.1[nX8_isGreibach]? = some (yX8_isGreibach, cX8_isGreibach, 2, (some .int), 3, 68, wX8_isGreibach) := rfl
theorem gX9_isInGreibach : gP.1[nX9_isInGreibach]? = some (yX9_isInGreibach, cX9_isInGreibach, 4, (some .boolean), 2, 42, wX9_isInGreibach) := rfl
theorem gX9_isGreibach : gP.1[nX9_isGreibach]? = some (yX9_isGreibach, cX9_isGreibach, 1, (some .int), 3, 65, wX9_isGreibach) := rfl
theorem gX2_copyFrom : gP.1[nX2_copyFrom]? = some (yX2_copyFrom, cX2_copyFrom, 2, none, 1, 26, wX2_copyFrom) := rfl
theorem gX7_begin : gP.1[nX7_begin]? = some (yX7_begin, cX7_begin, 2, none, 2, 47, wX7_begin) := rfl
theorem gX7_beginStep : gP.1[nX7_beginStep]? = some (yX7_beginStep, cX7_beginStep, 1, none, 2, 47, wX7_beginStep) := rfl
theorem gX7_dropUseless : gP.1[nX7_dropUseless]? = some (yX7_dropUseless, cX7_dropUseless, 7, none, 4, 93, wX7_dropUseless) := rfl
theorem gX2_isTooLarge : gP.1[nX2_isTooLarge]? = some (yX2_isTooLarge, cX2_isTooLarge, 1, (some .boolean), 0, 0, wX2_isTooLarge) := rfl
theorem gX7_finish : gP.1[nX7_finish]? = some (yX7_finish, cX7_finish, 2, (some .int), 2, 47, wX7_finish) := rfl
theorem gX8_removeUseless : gP.1[nX8_removeUseless]? = some (yX8_removeUseless, cX8_removeUseless, 2, (some .int), 5, 119, wX8_removeUseless) := rfl
theorem gX9_start : gP.1[nX9_start]? = some (yX9_start, cX9_start, 2, none, 0, 0, wX9_start) := rfl
theorem gX9_step : gP.1[nX9_step]? = some (yX9_step, cX9_step, 2, none, 0, 0, wX9_step) := rfl
theorem gX9_finish : gP.1[nX9_finish]? = some (yX9_finish, cX9_finish, 2, (some .int), 0, 0, wX9_finish) := rfl
theorem gX9_removeUseless : gP.1[nX9_removeUseless]? = some (yX9_removeUseless, cX9_removeUseless, 5, (some .int), 5, 113, wX9_removeUseless) := rfl
theorem gJ6_bitCount_0f7a4 : gP.1[nJ6_bitCount_0f7a4]? = some (yJ6_bitCount_0f7a4, cJ6_bitCount_0f7a4, 1, (some .int), 0, 0, wJ6_bitCount_0f7a4) := rfl
theorem gX5_thinned : gP.1[nX5_thinned]? = some (yX5_thinned, cX5_thinned, 7, (some .long), 2, 45, wX5_thinned) := rfl
theorem gX7_addThinned : gP.1[nX7_addThinned]? = some (yX7_addThinned, cX7_addThinned, 7, none, 3, 71, wX7_addThinned) := rfl
theorem gX7_dropEmpty : gP.1[nX7_dropEmpty]? = some (yX7_dropEmpty, cX7_dropEmpty, 3, none, 4, 97, wX7_dropEmpty) := rfl
theorem gX8_removeEmpty : gP.1[nX8_removeEmpty]? = some (yX8_removeEmpty, cX8_removeEmpty, 1, (some .int), 5, 119, wX8_removeEmpty) := rfl
theorem gX9_putRow : gP.1[nX9_putRow]? = some (yX9_putRow, cX9_putRow, 5, none, 1, 24, wX9_putRow) := rfl
theorem gX9_putWithout : gP.1[nX9_putWithout]? = some (yX9_putWithout, cX9_putWithout, 10, none, 2, 48, wX9_putWithout) := rfl
theorem gX9_removeEmpty : gP.1[nX9_removeEmpty]? = some (yX9_removeEmpty, cX9_removeEmpty, 6, (some .int), 5, 113, wX9_removeEmpty) := rfl
theorem gX5_joined : gP.1[nX5_joined]? = some (yX5_joined, cX5_joined, 8, (some .long), 1, 22, wX5_joined) := rfl
theorem gX7_addLent : gP.1[nX7_addLent]? = some (yX7_addLent, cX7_addLent, 6, none, 2, 49, wX7_addLent) := rfl
theorem gX7_dropUnits : gP.1[nX7_dropUnits]? = some (yX7_dropUnits, cX7_dropUnits, 3, none, 3, 74, wX7_dropUnits) := rfl
theorem gX8_removeUnits : gP.1[nX8_removeUnits]? = some (yX8_removeUnits, cX8_removeUnits, 1, (some .int), 4, 96, wX8_removeUnits) := rfl
theorem gX9_addRow : gP.1[nX9_addRow]? = some (yX9_addRow, cX9_addRow, 6, none, 1, 22, wX9_addRow) := rfl
theorem gX9_removeUnits : gP.1[nX9_removeUnits]? = some (yX9_removeUnits, cX9_removeUnits, 4, (some .int), 4, 84, wX9_removeUnits) := rfl
theorem gX7_occursInLong : gP.1[nX7_occursInLong]? = some (yX7_occursInLong, cX7_occursInLong, 8, (some .boolean), 1, 22, wX7_occursInLong) := rfl
theorem gX2_leftSides : gP.1[nX2_leftSides]? = some (yX2_leftSides, cX2_leftSides, 3, (some .int), 1, 21, wX2_leftSides) := rfl
theorem gX2_freeNonterminal : gP.1[nX2_freeNonterminal]? = some (yX2_freeNonterminal, cX2_freeNonterminal, 3, (some .int), 2, 46, wX2_freeNonterminal) := rfl
theorem gX2_refuse : gP.1[nX2_refuse]? = some (yX2_refuse, cX2_refuse, 1, none, 0, 0, wX2_refuse) := rfl
theorem gX5_renamed : gP.1[nX5_renamed]? = some (yX5_renamed, cX5_renamed, 10, (some .long), 2, 45, wX5_renamed) := rfl
theorem gX7_nameTerminal : gP.1[nX7_nameTerminal]? = some (yX7_nameTerminal, cX7_nameTerminal, 8, none, 3, 74, wX7_nameTerminal) := rfl
theorem gX7_nameTerminals : gP.1[nX7_nameTerminals]? = some (yX7_nameTerminals, cX7_nameTerminals, 3, none, 4, 101, wX7_nameTerminals) := rfl
theorem gX7_firstLong : gP.1[nX7_firstLong]? = some (yX7_firstLong, cX7_firstLong, 2, (some .long), 1, 22, wX7_firstLong) := rfl
theorem gX2_remove : gP.1[nX2_remove]? = some (yX2_remove, cX2_remove, 4, none, 1, 26, wX2_remove) := rfl
theorem gX7_split : gP.1[nX7_split]? = some (yX7_split, cX7_split, 4, none, 3, 68, wX7_split) := rfl
theorem gX7_splitLong : gP.1[nX7_splitLong]? = some (yX7_splitLong, cX7_splitLong, 4, none, 4, 91, wX7_splitLong) := rfl
theorem gX8_toChomsky : gP.1[nX8_toChomsky]? = some (yX8_toChomsky, cX8_toChomsky, 1, (some .int), 5, 123, wX8_toChomsky) := rfl
theorem gX9_hasUnit : gP.1[nX9_hasUnit]? = some (yX9_hasUnit, cX9_hasUnit, 3, (some .boolean), 3, 63, wX9_hasUnit) := rfl
theorem gX9_mayNotStay : gP.1[nX9_mayNotStay]? = some (yX9_mayNotStay, cX9_mayNotStay, 5, (some .boolean), 2, 44, wX9_mayNotStay) := rfl
theorem gX9_freeOne : gP.1[nX9_freeOne]? = some (yX9_freeOne, cX9_freeOne, 4, (some .int), 2, 42, wX9_freeOne) := rfl
theorem gX9_veil : gP.1[nX9_veil]? = some (yX9_veil, cX9_veil, 7, none, 3, 68, wX9_veil) := rfl
theorem gX9_veilAll : gP.1[nX9_veilAll]? = some (yX9_veilAll, cX9_veilAll, 3, none, 4, 94, wX9_veilAll) := rfl
theorem gX9_cut : gP.1[nX9_cut]? = some (yX9_cut, cX9_cut, 4, (some .boolean), 3, 65, wX9_cut) := rfl
theorem gX9_toChomsky : gP.1[nX9_toChomsky]? = some (yX9_toChomsky, cX9_toChomsky, 2, (some .int), 5, 116, wX9_toChomsky) := rfl
theorem gX5_begins : gP.1[nX5_begins]? = some (yX5_begins, cX5_begins, 4, (some .boolean), 1, 22, wX5_begins) := rfl
theorem gX7_addExpansions : gP.1[nX7_addExpansions]? = some (yX7_addExpansions, cX7_addExpansions, 9, none, 2, 49, wX7_addExpansions) := rfl
theorem gX7_expandAll : gP.1[nX7_expandAll]? = some (yX7_expandAll, cX7_expandAll, 4, none, 3, 77, wX7_expandAll) := rfl
theorem gX7_isRecursive : gP.1[nX7_isRecursive]? = some (yX7_isRecursive, cX7_isRecursive, 3, (some .boolean), 2, 45, wX7_isRecursive) := rfl
theorem gX7_turnRecursion : gP.1[nX7_turnRecursion]? = some (yX7_turnRecursion, cX7_turnRecursion, 6, none, 3, 68, wX7_turnRecursion) := rfl
theorem gX7_treatLeft : gP.1[nX7_treatLeft]? = some (yX7_treatLeft, cX7_treatLeft, 4, none, 4, 100, wX7_treatLeft) := rfl
theorem gX7_dropLeftRecursion : gP.1[nX7_dropLeftRecursion]? = some (yX7_dropLeftRecursion, cX7_dropLeftRecursion, 3, none, 5, 123, wX7_dropLeftRecursion) := rfl
theorem gX8_removeLeftRecursion : gP.1[nX8_removeLeftRecursion]? = some (yX8_removeLeftRecursion, cX8_removeLeftRecursion, 1, (some .int), 6, 145, wX8_removeLeftRecursion) := rfl
theorem gX9_putTold : gP.1[nX9_putTold]? = some (yX9_putTold, cX9_putTold, 5, none, 2, 48, wX9_putTold) := rfl
theorem gX9_tell : gP.1[nX9_tell]? = some (yX9_tell, cX9_tell, 4, none, 3, 72, wX9_tell) := rfl
theorem gX9_beginsWithItself : gP.1[nX9_beginsWithItself]? = some (yX9_beginsWithItself, cX9_beginsWithItself, 3, (some .boolean), 1, 22, wX9_beginsWithItself) := rfl
theorem gX9_putTail : gP.1[nX9_putTail]? = some (yX9_putTail, cX9_putTail, 4, none, 2, 48, wX9_putTail) := rfl
theorem gX9_unwind : gP.1[nX9_unwind]? = some (yX9_unwind, cX9_unwind, 5, none, 3, 71, wX9_unwind) := rfl
theorem gX9_unwindAll : gP.1[nX9_unwindAll]? = some (yX9_unwindAll, cX9_unwindAll, 4, none, 4, 95, wX9_unwindAll) := rfl
theorem gX9_removeLeftRecursion : gP.1[nX9_removeLeftRecursion]? = some (yX9_removeLeftRecursion, cX9_removeLeftRecursion, 1, (some .int), 5, 118, wX9_removeLeftRecursion) := rfl
theorem gX7_sharedLength : gP.1[nX7_sharedLength]? = some (yX7_sharedLength, cX7_sharedLength, 6, (some .int), 1, 22, wX7_sharedLength) := rfl
theorem gX7_firstShared : gP.1[nX7_firstShared]? = some (yX7_firstShared, cX7_firstShared, 2, (some .int), 2, 47, wX7_firstShared) := rfl
theorem gX7_factor : gP.1[nX7_factor]? = some (yX7_factor, cX7_factor, 8, none, 3, 68, wX7_factor) := rfl
theorem gX7_factorPrefixes : gP.1[nX7_factorPrefixes]? = some (yX7_factorPrefixes, cX7_factorPrefixes, 3, none, 4, 95, wX7_factorPrefixes) := rfl
theorem gX8_leftFactor : gP.1[nX8_leftFactor]? = some (yX8_leftFactor, cX8_leftFactor, 1, (some .int), 5, 117, wX8_leftFactor) := rfl
theorem gX9_factor : gP.1[nX9_factor]? = some (yX9_factor, cX9_factor, 8, (some .boolean), 3, 65, wX9_factor) := rfl
theorem gX9_leftFactor : gP.1[nX9_leftFactor]? = some (yX9_leftFactor, cX9_leftFactor, 2, (some .int), 4, 92, wX9_leftFactor) := rfl
theorem gX7_firstWithNonterminal : gP.1[nX7_firstWithNonterminal]? = some (yX7_firstWithNonterminal, cX7_firstWithNonterminal, 2, (some .long), 1, 22, wX7_firstWithNonterminal) := rfl
theorem gX7_expandLeftEnds : gP.1[nX7_expandLeftEnds]? = some (yX7_expandLeftEnds, cX7_expandLeftEnds, 4, none, 3, 77, wX7_expandLeftEnds) := rfl
theorem gX8_toGreibach : gP.1[nX8_toGreibach]? = some (yX8_toGreibach, cX8_toGreibach, 1, (some .int), 6, 145, wX8_toGreibach) := rfl
theorem gX9_tellFirst : gP.1[nX9_tellFirst]? = some (yX9_tellFirst, cX9_tellFirst, 3, (some .boolean), 3, 72, wX9_tellFirst) := rfl
theorem gX9_toGreibach : gP.1[nX9_toGreibach]? = some (yX9_toGreibach, cX9_toGreibach, 2, (some .int), 5, 118, wX9_toGreibach) := rfl
theorem gX8_save : gP.1[nX8_save]? = some (yX8_save, cX8_save, 1, (some .int), 2, 47, wX8_save) := rfl
theorem gX9_save : gP.1[nX9_save]? = some (yX9_save, cX9_save, 2, (some .int), 0, 0, wX9_save) := rfl
theorem gX8_restore : gP.1[nX8_restore]? = some (yX8_restore, cX8_restore, 1, (some .int), 2, 47, wX8_restore) := rfl
theorem gX9_restore : gP.1[nX9_restore]? = some (yX9_restore, cX9_restore, 2, (some .int), 0, 0, wX9_restore) := rfl
theorem gX6_pairs : gP.1[nX6_pairs]? = some (yX6_pairs, cX6_pairs, 7, (some .long), 0, 0, wX6_pairs) := rfl
theorem gX6_readOn : gP.1[nX6_readOn]? = some (yX6_readOn, cX6_readOn, 11, none, 1, 26, wX6_readOn) := rfl
theorem gX6_readRight : gP.1[nX6_readRight]? = some (yX6_readRight, cX6_readRight, 6, none, 2, 56, wX6_readRight) := rfl
theorem gX6_keepRead : gP.1[nX6_keepRead]? = some (yX6_keepRead, cX6_keepRead, 4, (some .boolean), 1, 20, wX6_keepRead) := rfl
theorem gX6_study : gP.1[nX6_study]? = some (yX6_study, cX6_study, 5, none, 3, 81, wX6_study) := rfl
theorem gX6_ofLength : gP.1[nX6_ofLength]? = some (yX6_ofLength, cX6_ofLength, 2, (some .long), 0, 0, wX6_ofLength) := rfl
theorem gJ13_bitCount_95d88 : gP.1[nJ13_bitCount_95d88]? = some (yJ13_bitCount_95d88, cJ13_bitCount_95d88, 2, (some .int), 0, 0, wJ13_bitCount_95d88) := rfl
theorem gX8_countWords : gP.1[nX8_countWords]? = some (yX8_countWords, cX8_countWords, 2, (some .int), 4, 105, wX8_countWords) := rfl
theorem gX9_wordsOf : gP.1[nX9_wordsOf]? = some (yX9_wordsOf, cX9_wordsOf, 1, (some .int), 0, 0, wX9_wordsOf) := rfl
theorem gX9_layWord : gP.1[nX9_layWord]? = some (yX9_layWord, cX9_layWord, 5, (some .int), 0, 0, wX9_layWord) := rfl
theorem gX9_countNow : gP.1[nX9_countNow]? = some (yX9_countNow, cX9_countNow, 8, (some .int), 4, 93, wX9_countNow) := rfl
theorem gX9_countWords : gP.1[nX9_countWords]? = some (yX9_countWords, cX9_countWords, 2, (some .int), 5, 120, wX9_countWords) := rfl
theorem gX8_countDifferences : gP.1[nX8_countDifferences]? = some (yX8_countDifferences, cX8_countDifferences, 4, (some .int), 4, 105, wX8_countDifferences) := rfl
theorem gX9_countDifferences : gP.1[nX9_countDifferences]? = some (yX9_countDifferences, cX9_countDifferences, 2, (some .int), 5, 120, wX9_countDifferences) := rfl
theorem gX8_mixed : gP.1[nX8_mixed]? = some (yX8_mixed, cX8_mixed, 4, (some .long), 0, 0, wX8_mixed) := rfl
theorem gX8_hashOfProductions : gP.1[nX8_hashOfProductions]? = some (yX8_hashOfProductions, cX8_hashOfProductions, 10, (some .long), 2, 40, wX8_hashOfProductions) := rfl
theorem gX8_hashOfProperties : gP.1[nX8_hashOfProperties]? = some (yX8_hashOfProperties, cX8_hashOfProperties, 6, (some .long), 5, 113, wX8_hashOfProperties) := rfl
theorem gX8_digest : gP.1[nX8_digest]? = some (yX8_digest, cX8_digest, 4, (some .long), 6, 144, wX8_digest) := rfl
theorem gX9_mix : gP.1[nX9_mix]? = some (yX9_mix, cX9_mix, 3, none, 0, 0, wX9_mix) := rfl
theorem gX9_digest : gP.1[nX9_digest]? = some (yX9_digest, cX9_digest, 3, (some .long), 8, 186, wX9_digest) := rfl
end
section
/-! printed by gen3.py: every row of the table passes the check -/
def gchk (mi : si_mi) : Bool := si_mok gmt gcl mi && (match si_get mi.2.2.2.2.2.2 65535 with
  | none => true
  | some _ => false)
theorem kX3_put : gchk iX3_put = true := by decide +kernel
theorem kX3_length : gchk iX3_length = true := by decide +kernel
theorem kX8_append : gchk iX8_append = true := by decide +kernel
theorem kX9_within : gchk iX9_within = true := by decide +kernel
theorem kX9_append : gchk iX9_append = true := by decide +kernel
theorem kX3_clear : gchk iX3_clear = true := by decide +kernel
theorem kX8_clearInput : gchk iX8_clearInput = true := by decide +kernel
theorem kX9_clearInput : gchk iX9_clearInput = true := by decide +kernel
theorem kX8_symbolOf : gchk iX8_symbolOf = true := by decide +kernel
theorem kX8_isNonterminal : gchk iX8_isNonterminal = true := by decide +kernel
theorem kX3_stateAfter : gchk iX3_stateAfter = true := by decide +kernel
theorem kX3_errorPlace : gchk iX3_errorPlace = true := by decide +kernel
theorem kX8_firstError : gchk iX8_firstError = true := by decide +kernel
theorem kX9_begin : gchk iX9_begin = true := by decide +kernel
theorem kX9_symbolOf : gchk iX9_symbolOf = true := by decide +kernel
theorem kX9_isNonterminal : gchk iX9_isNonterminal = true := by decide +kernel
theorem kX9_put : gchk iX9_put = true := by decide +kernel
theorem kX9_left : gchk iX9_left = true := by decide +kernel
theorem kX9_takes : gchk iX9_takes = true := by decide +kernel
theorem kX9_rightLength : gchk iX9_rightLength = true := by decide +kernel
theorem kX9_firstError : gchk iX9_firstError = true := by decide +kernel
theorem kX3_isGrammar : gchk iX3_isGrammar = true := by decide +kernel
theorem kX2_clear : gchk iX2_clear = true := by decide +kernel
theorem kX5_withoutRight : gchk iX5_withoutRight = true := by decide +kernel
theorem kX2_placeOf : gchk iX2_placeOf = true := by decide +kernel
theorem kX2_add : gchk iX2_add = true := by decide +kernel
theorem kX5_cut : gchk iX5_cut = true := by decide +kernel
theorem kX5_length : gchk iX5_length = true := by decide +kernel
theorem kX5_extended : gchk iX5_extended = true := by decide +kernel
theorem kX3_readInto : gchk iX3_readInto = true := by decide +kernel
theorem kX2_count : gchk iX2_count = true := by decide +kernel
theorem kX8_load : gchk iX8_load = true := by decide +kernel
theorem kX9_load : gchk iX9_load = true := by decide +kernel
theorem kX8_isTerminal : gchk iX8_isTerminal = true := by decide +kernel
theorem kX3_isWord : gchk iX3_isWord = true := by decide +kernel
theorem kX3_codeAt : gchk iX3_codeAt = true := by decide +kernel
theorem kX4_read : gchk iX4_read = true := by decide +kernel
theorem kJ7_fill_53178 : gchk iJ7_fill_53178 = true := by decide +kernel
theorem kX2_at : gchk iX2_at = true := by decide +kernel
theorem kX5_left : gchk iX5_left = true := by decide +kernel
theorem kX5_symbolAt : gchk iX5_symbolAt = true := by decide +kernel
end
section
/-! printed by gen3.py: rows of the table pass the check -/
theorem kX4_stands : gchk iX4_stands = true := by decide +kernel
theorem kX4_endsFrom : gchk iX4_endsFrom = true := by decide +kernel
theorem kX4_endsOf : gchk iX4_endsOf = true := by decide +kernel
theorem kX4_addEnds : gchk iX4_addEnds = true := by decide +kernel
theorem kX4_derives : gchk iX4_derives = true := by decide +kernel
theorem kX8_bit : gchk iX8_bit = true := by decide +kernel
theorem kX8_accepts : gchk iX8_accepts = true := by decide +kernel
theorem kX9_isWord : gchk iX9_isWord = true := by decide +kernel
theorem kX9_takeWord : gchk iX9_takeWord = true := by decide +kernel
theorem kX9_at : gchk iX9_at = true := by decide +kernel
theorem kX9_goOver : gchk iX9_goOver = true := by decide +kernel
theorem kX9_derives : gchk iX9_derives = true := by decide +kernel
theorem kX9_accepts : gchk iX9_accepts = true := by decide +kernel
theorem kX2_hasEmpty : gchk iX2_hasEmpty = true := by decide +kernel
theorem kX5_isUnit : gchk iX5_isUnit = true := by decide +kernel
theorem kX5_rightSet : gchk iX5_rightSet = true := by decide +kernel
theorem kX8_isIn : gchk iX8_isIn = true := by decide +kernel
theorem kX1_close : gchk iX1_close = true := by decide +kernel
theorem kX1_followUnits : gchk iX1_followUnits = true := by decide +kernel
theorem kX1_loops : gchk iX1_loops = true := by decide +kernel
theorem kX8_isEndless : gchk iX8_isEndless = true := by decide +kernel
theorem kJ7_fill_d0a16 : gchk iJ7_fill_d0a16 = true := by decide +kernel
theorem kX2_hasUnit : gchk iX2_hasUnit = true := by decide +kernel
theorem kX4_treesAt : gchk iX4_treesAt = true := by decide +kernel
theorem kX4_treesOfSymbol : gchk iX4_treesOfSymbol = true := by decide +kernel
theorem kX4_takeSymbol : gchk iX4_takeSymbol = true := by decide +kernel
theorem kX4_waysThrough : gchk iX4_waysThrough = true := by decide +kernel
theorem kX4_countPlain : gchk iX4_countPlain = true := by decide +kernel
theorem kX4_spreadUnits : gchk iX4_spreadUnits = true := by decide +kernel
theorem kX4_keepTotals : gchk iX4_keepTotals = true := by decide +kernel
theorem kX4_treesOf : gchk iX4_treesOf = true := by decide +kernel
theorem kX8_countTrees : gchk iX8_countTrees = true := by decide +kernel
theorem kX9_isEmpty : gchk iX9_isEmpty = true := by decide +kernel
theorem kX9_hasEmpty : gchk iX9_hasEmpty = true := by decide +kernel
theorem kX9_clearLeads : gchk iX9_clearLeads = true := by decide +kernel
theorem kX9_isUnit : gchk iX9_isUnit = true := by decide +kernel
theorem kX9_closeLeads : gchk iX9_closeLeads = true := by decide +kernel
theorem kX9_layUnits : gchk iX9_layUnits = true := by decide +kernel
theorem kX9_loops : gchk iX9_loops = true := by decide +kernel
theorem kX9_hasUnitCycle : gchk iX9_hasUnitCycle = true := by decide +kernel
theorem kX9_waysOf : gchk iX9_waysOf = true := by decide +kernel
end
section
/-! printed by gen3.py: rows of the table pass the check -/
theorem kX9_countStretch : gchk iX9_countStretch = true := by decide +kernel
theorem kX9_countTrees : gchk iX9_countTrees = true := by decide +kernel
theorem kX8_productionCount : gchk iX8_productionCount = true := by decide +kernel
theorem kX9_productionCount : gchk iX9_productionCount = true := by decide +kernel
theorem kX8_codeOf : gchk iX8_codeOf = true := by decide +kernel
theorem kX8_symbol : gchk iX8_symbol = true := by decide +kernel
theorem kX9_size : gchk iX9_size = true := by decide +kernel
theorem kX9_codeOf : gchk iX9_codeOf = true := by decide +kernel
theorem kX9_symbol : gchk iX9_symbol = true := by decide +kernel
theorem kX5_staysIn : gchk iX5_staysIn = true := by decide +kernel
theorem kX2_derivable : gchk iX2_derivable = true := by decide +kernel
theorem kX2_nullable : gchk iX2_nullable = true := by decide +kernel
theorem kX8_nullableSet : gchk iX8_nullableSet = true := by decide +kernel
theorem kX9_allIn : gchk iX9_allIn = true := by decide +kernel
theorem kX9_closedUnder : gchk iX9_closedUnder = true := by decide +kernel
theorem kX9_nullables : gchk iX9_nullables = true := by decide +kernel
theorem kX9_nullableSet : gchk iX9_nullableSet = true := by decide +kernel
theorem kX2_productive : gchk iX2_productive = true := by decide +kernel
theorem kX8_productiveSet : gchk iX8_productiveSet = true := by decide +kernel
theorem kX9_productives : gchk iX9_productives = true := by decide +kernel
theorem kX9_productiveSet : gchk iX9_productiveSet = true := by decide +kernel
theorem kX1_followOccurrences : gchk iX1_followOccurrences = true := by decide +kernel
theorem kX1_reachFrom : gchk iX1_reachFrom = true := by decide +kernel
theorem kX8_reachableSet : gchk iX8_reachableSet = true := by decide +kernel
theorem kX9_reached : gchk iX9_reached = true := by decide +kernel
theorem kX9_reachableSet : gchk iX9_reachableSet = true := by decide +kernel
theorem kX1_leftEnds : gchk iX1_leftEnds = true := by decide +kernel
theorem kX1_followLeftEnds : gchk iX1_followLeftEnds = true := by decide +kernel
theorem kX8_leftRecursiveSet : gchk iX8_leftRecursiveSet = true := by decide +kernel
theorem kX9_recursives : gchk iX9_recursives = true := by decide +kernel
theorem kX9_leftRecursiveSet : gchk iX9_leftRecursiveSet = true := by decide +kernel
theorem kX8_unitReach : gchk iX8_unitReach = true := by decide +kernel
theorem kX9_isIndex : gchk iX9_isIndex = true := by decide +kernel
theorem kX9_unitReach : gchk iX9_unitReach = true := by decide +kernel
theorem kX0_beginnings : gchk iX0_beginnings = true := by decide +kernel
theorem kX0_grow : gchk iX0_grow = true := by decide +kernel
theorem kX0_findFirsts : gchk iX0_findFirsts = true := by decide +kernel
theorem kX0_followOf : gchk iX0_followOf = true := by decide +kernel
theorem kX0_comingAfter : gchk iX0_comingAfter = true := by decide +kernel
theorem kX0_passFollows : gchk iX0_passFollows = true := by decide +kernel
theorem kX0_findFollows : gchk iX0_findFollows = true := by decide +kernel
end
section
/-! printed by gen3.py: rows of the table pass the check -/
theorem kX0_study : gchk iX0_study = true := by decide +kernel
theorem kX0_firstOf : gchk iX0_firstOf = true := by decide +kernel
theorem kX8_firstSet : gchk iX8_firstSet = true := by decide +kernel
theorem kX9_firstOf : gchk iX9_firstOf = true := by decide +kernel
theorem kX9_layFirsts : gchk iX9_layFirsts = true := by decide +kernel
theorem kX9_firstNow : gchk iX9_firstNow = true := by decide +kernel
theorem kX9_firstSet : gchk iX9_firstSet = true := by decide +kernel
theorem kX8_followSet : gchk iX8_followSet = true := by decide +kernel
theorem kX9_layFollows : gchk iX9_layFollows = true := by decide +kernel
theorem kX9_followNow : gchk iX9_followNow = true := by decide +kernel
theorem kX9_followSet : gchk iX9_followSet = true := by decide +kernel
theorem kX0_hasDistinctLookaheads : gchk iX0_hasDistinctLookaheads = true := by decide +kernel
theorem kX8_isLl1 : gchk iX8_isLl1 = true := by decide +kernel
theorem kX9_isPredictive : gchk iX9_isPredictive = true := by decide +kernel
theorem kX9_isLl1 : gchk iX9_isLl1 = true := by decide +kernel
theorem kX5_fitsChomsky : gchk iX5_fitsChomsky = true := by decide +kernel
theorem kX8_isChomsky : gchk iX8_isChomsky = true := by decide +kernel
theorem kX9_isInChomsky : gchk iX9_isInChomsky = true := by decide +kernel
theorem kX9_isChomsky : gchk iX9_isChomsky = true := by decide +kernel
theorem kX5_fitsGreibach : gchk iX5_fitsGreibach = true := by decide +kernel
theorem kX8_isGreibach : gchk iX8_isGreibach = true := by decide +kernel
theorem kX9_isInGreibach : gchk iX9_isInGreibach = true := by decide +kernel
theorem kX9_isGreibach : gchk iX9_isGreibach = true := by decide +kernel
theorem kX2_copyFrom : gchk iX2_copyFrom = true := by decide +kernel
theorem kX7_begin : gchk iX7_begin = true := by decide +kernel
theorem kX7_beginStep : gchk iX7_beginStep = true := by decide +kernel
theorem kX7_dropUseless : gchk iX7_dropUseless = true := by decide +kernel
theorem kX2_isTooLarge : gchk iX2_isTooLarge = true := by decide +kernel
theorem kX7_finish : gchk iX7_finish = true := by decide +kernel
theorem kX8_removeUseless : gchk iX8_removeUseless = true := by decide +kernel
theorem kX9_start : gchk iX9_start = true := by decide +kernel
theorem kX9_step : gchk iX9_step = true := by decide +kernel
theorem kX9_finish : gchk iX9_finish = true := by decide +kernel
theorem kX9_removeUseless : gchk iX9_removeUseless = true := by decide +kernel
theorem kJ6_bitCount_0f7a4 : gchk iJ6_bitCount_0f7a4 = true := by decide +kernel
theorem kX5_thinned : gchk iX5_thinned = true := by decide +kernel
theorem kX7_addThinned : gchk iX7_addThinned = true := by decide +kernel
theorem kX7_dropEmpty : gchk iX7_dropEmpty = true := by decide +kernel
theorem kX8_removeEmpty : gchk iX8_removeEmpty = true := by decide +kernel
theorem kX9_putRow : gchk iX9_putRow = true := by decide +kernel
theorem kX9_putWithout : gchk iX9_putWithout = true := by decide +kernel
end
section
/-! printed by gen3.py: rows of the table pass the check -/
theorem kX9_removeEmpty : gchk iX9_removeEmpty = true := by decide +kernel
theorem kX5_joined : gchk iX5_joined = true := by decide +kernel
theorem kX7_addLent : gchk iX7_addLent = true := by decide +kernel
theorem kX7_dropUnits : gchk iX7_dropUnits = true := by decide +kernel
theorem kX8_removeUnits : gchk iX8_removeUnits = true := by decide +kernel
theorem kX9_addRow : gchk iX9_addRow = true := by decide +kernel
theorem kX9_removeUnits : gchk iX9_removeUnits = true := by decide +kernel
theorem kX7_occursInLong : gchk iX7_occursInLong = true := by decide +kernel
theorem kX2_leftSides : gchk iX2_leftSides = true := by decide +kernel
theorem kX2_freeNonterminal : gchk iX2_freeNonterminal = true := by decide +kernel
theorem kX2_refuse : gchk iX2_refuse = true := by decide +kernel
theorem kX5_renamed : gchk iX5_renamed = true := by decide +kernel
theorem kX7_nameTerminal : gchk iX7_nameTerminal = true := by decide +kernel
theorem kX7_nameTerminals : gchk iX7_nameTerminals = true := by decide +kernel
theorem kX7_firstLong : gchk iX7_firstLong = true := by decide +kernel
theorem kX2_remove : gchk iX2_remove = true := by decide +kernel
theorem kX7_split : gchk iX7_split = true := by decide +kernel
theorem kX7_splitLong : gchk iX7_splitLong = true := by decide +kernel
theorem kX8_toChomsky : gchk iX8_toChomsky = true := by decide +kernel
theorem kX9_hasUnit : gchk iX9_hasUnit = true := by decide +kernel
theorem kX9_mayNotStay : gchk iX9_mayNotStay = true := by decide +kernel
theorem kX9_freeOne : gchk iX9_freeOne = true := by decide +kernel
theorem kX9_veil : gchk iX9_veil = true := by decide +kernel
theorem kX9_veilAll : gchk iX9_veilAll = true := by decide +kernel
theorem kX9_cut : gchk iX9_cut = true := by decide +kernel
theorem kX9_toChomsky : gchk iX9_toChomsky = true := by decide +kernel
theorem kX5_begins : gchk iX5_begins = true := by decide +kernel
theorem kX7_addExpansions : gchk iX7_addExpansions = true := by decide +kernel
theorem kX7_expandAll : gchk iX7_expandAll = true := by decide +kernel
theorem kX7_isRecursive : gchk iX7_isRecursive = true := by decide +kernel
theorem kX7_turnRecursion : gchk iX7_turnRecursion = true := by decide +kernel
theorem kX7_treatLeft : gchk iX7_treatLeft = true := by decide +kernel
theorem kX7_dropLeftRecursion : gchk iX7_dropLeftRecursion = true := by decide +kernel
theorem kX8_removeLeftRecursion : gchk iX8_removeLeftRecursion = true := by decide +kernel
theorem kX9_putTold : gchk iX9_putTold = true := by decide +kernel
theorem kX9_tell : gchk iX9_tell = true := by decide +kernel
theorem kX9_beginsWithItself : gchk iX9_beginsWithItself = true := by decide +kernel
theorem kX9_putTail : gchk iX9_putTail = true := by decide +kernel
theorem kX9_unwind : gchk iX9_unwind = true := by decide +kernel
theorem kX9_unwindAll : gchk iX9_unwindAll = true := by decide +kernel
theorem kX9_removeLeftRecursion : gchk iX9_removeLeftRecursion = true := by decide +kernel
end
section
/-! printed by gen3.py: rows of the table pass the check -/
theorem kX7_sharedLength : gchk iX7_sharedLength = true := by decide +kernel
theorem kX7_firstShared : gchk iX7_firstShared = true := by decide +kernel
theorem kX7_factor : gchk iX7_factor = true := by decide +kernel
theorem kX7_factorPrefixes : gchk iX7_factorPrefixes = true := by decide +kernel
theorem kX8_leftFactor : gchk iX8_leftFactor = true := by decide +kernel
theorem kX9_factor : gchk iX9_factor = true := by decide +kernel
theorem kX9_leftFactor : gchk iX9_leftFactor = true := by decide +kernel
theorem kX7_firstWithNonterminal : gchk iX7_firstWithNonterminal = true := by decide +kernel
theorem kX7_expandLeftEnds : gchk iX7_expandLeftEnds = true := by decide +kernel
theorem kX8_toGreibach : gchk iX8_toGreibach = true := by decide +kernel
theorem kX9_tellFirst : gchk iX9_tellFirst = true := by decide +kernel
theorem kX9_toGreibach : gchk iX9_toGreibach = true := by decide +kernel
theorem kX8_save : gchk iX8_save = true := by decide +kernel
theorem kX9_save : gchk iX9_save = true := by decide +kernel
theorem kX8_restore : gchk iX8_restore = true := by decide +kernel
theorem kX9_restore : gchk iX9_restore = true := by decide +kernel
theorem kX6_pairs : gchk iX6_pairs = true := by decide +kernel
theorem kX6_readOn : gchk iX6_readOn = true := by decide +kernel
theorem kX6_readRight : gchk iX6_readRight = true := by decide +kernel
theorem kX6_keepRead : gchk iX6_keepRead = true := by decide +kernel
theorem kX6_study : gchk iX6_study = true := by decide +kernel
theorem kX6_ofLength : gchk iX6_ofLength = true := by decide +kernel
theorem kJ13_bitCount_95d88 : gchk iJ13_bitCount_95d88 = true := by decide +kernel
theorem kX8_countWords : gchk iX8_countWords = true := by decide +kernel
theorem kX9_wordsOf : gchk iX9_wordsOf = true := by decide +kernel
theorem kX9_layWord : gchk iX9_layWord = true := by decide +kernel
theorem kX9_countNow : gchk iX9_countNow = true := by decide +kernel
theorem kX9_countWords : gchk iX9_countWords = true := by decide +kernel
theorem kX8_countDifferences : gchk iX8_countDifferences = true := by decide +kernel
theorem kX9_countDifferences : gchk iX9_countDifferences = true := by decide +kernel
theorem kX8_mixed : gchk iX8_mixed = true := by decide +kernel
theorem kX8_hashOfProductions : gchk iX8_hashOfProductions = true := by decide +kernel
theorem kX8_hashOfProperties : gchk iX8_hashOfProperties = true := by decide +kernel
theorem kX8_digest : gchk iX8_digest = true := by decide +kernel
theorem kX9_mix : gchk iX9_mix = true := by decide +kernel
theorem kX9_digest : gchk iX9_digest = true := by decide +kernel
end
section
/-! printed by gen3.py: the program passes the check -/
set_option maxRecDepth 100000 in
theorem gall : ∀ mi ∈ gmt, gchk mi = true := List.forall_mem_cons.mpr ⟨kX3_put, List.forall_mem_cons.mpr ⟨kX3_length, List.forall_mem_cons.mpr ⟨kX8_append, List.forall_mem_cons.mpr ⟨kX9_within, List.forall_mem_cons.mpr ⟨kX9_append, List.forall_mem_cons.mpr ⟨kX3_clear, List.forall_mem_cons.mpr ⟨kX8_clearInput, List.forall_mem_cons.mpr ⟨kX9_clearInput, List.forall_mem_cons.mpr ⟨kX8_symbolOf, List.forall_mem_cons.mpr ⟨kX8_isNonterminal, List.forall_mem_cons.mpr ⟨kX3_stateAfter, List.forall_mem_cons.mpr ⟨kX3_errorPlace, List.forall_mem_cons.mpr ⟨kX8_firstError, List.forall_mem_cons.mpr ⟨kX9_begin, List.forall_mem_cons.mpr ⟨kX9_symbolOf, List.forall_mem_cons.mpr ⟨kX9_isNonterminal, List.forall_mem_cons.mpr ⟨kX9_put, List.forall_mem_cons.mpr ⟨kX9_left, List.forall_mem_cons.mpr ⟨kX9_takes, List.forall_mem_cons.mpr ⟨kX9_rightLength, List.forall_mem_cons.mpr ⟨kX9_firstError, List.forall_mem_cons.mpr ⟨kX3_isGrammar, List.forall_mem_cons.mpr ⟨kX2_clear, List.forall_mem_cons.mpr ⟨kX5_withoutRight, List.forall_mem_cons.mpr ⟨kX2_placeOf, List.forall_mem_cons.mpr ⟨kX2_add, List.forall_mem_cons.mpr ⟨kX5_cut, List.forall_mem_cons.mpr ⟨kX5_length, List.forall_mem_cons.mpr ⟨kX5_extended, List.forall_mem_cons.mpr ⟨kX3_readInto, List.forall_mem_cons.mpr ⟨kX2_count, List.forall_mem_cons.mpr ⟨kX8_load, List.forall_mem_cons.mpr ⟨kX9_load, List.forall_mem_cons.mpr ⟨kX8_isTerminal, List.forall_mem_cons.mpr ⟨kX3_isWord, List.forall_mem_cons.mpr ⟨kX3_codeAt, List.forall_mem_cons.mpr ⟨kX4_read, List.forall_mem_cons.mpr ⟨kJ7_fill_53178, List.forall_mem_cons.mpr ⟨kX2_at, List.forall_mem_cons.mpr ⟨kX5_left, List.forall_mem_cons.mpr ⟨kX5_symbolAt, List.forall_mem_cons.mpr ⟨kX4_stands, List.forall_mem_cons.mpr ⟨kX4_endsFrom, List.forall_mem_cons.mpr ⟨kX4_endsOf, List.forall_mem_cons.mpr ⟨kX4_addEnds, List.forall_mem_cons.mpr ⟨kX4_derives, List.forall_mem_cons.mpr ⟨kX8_bit, List.forall_mem_cons.mpr ⟨kX8_accepts, List.forall_mem_cons.mpr ⟨kX9_isWord, List.forall_mem_cons.mpr ⟨kX9_takeWord, List.forall_mem_cons.mpr ⟨kX9_at, List.forall_mem_cons.mpr ⟨kX9_goOver, List.forall_mem_cons.mpr ⟨kX9_derives, List.forall_mem_cons.mpr ⟨kX9_accepts, List.forall_mem_cons.mpr ⟨kX2_hasEmpty, List.forall_mem_cons.mpr ⟨kX5_isUnit, List.forall_mem_cons.mpr ⟨kX5_rightSet, List.forall_mem_cons.mpr ⟨kX8_isIn, List.forall_mem_cons.mpr ⟨kX1_close, List.forall_mem_cons.mpr ⟨kX1_followUnits, List.forall_mem_cons.mpr ⟨kX1_loops, List.forall_mem_cons.mpr ⟨kX8_isEndless, List.forall_mem_cons.mpr ⟨kJ7_fill_d0a16, List.forall_mem_cons.mpr ⟨kX2_hasUnit, List.forall_mem_cons.mpr ⟨kX4_treesAt, List.forall_mem_cons.mpr ⟨kX4_treesOfSymbol, List.forall_mem_cons.mpr ⟨kX4_takeSymbol, List.forall_mem_cons.mpr ⟨kX4_waysThrough, List.forall_mem_cons.mpr ⟨kX4_countPlain, List.forall_mem_cons.mpr ⟨kX4_spreadUnits, List.forall_mem_cons.mpr ⟨kX4_keepTotals, List.forall_mem_cons.mpr ⟨kX4_treesOf, List.forall_mem_cons.mpr ⟨kX8_countTrees, List.forall_mem_cons.mpr ⟨kX9_isEmpty, List.forall_mem_cons.mpr ⟨kX9_hasEmpty, List.forall_mem_cons.mpr ⟨kX9_clearLeads, List.forall_mem_cons.mpr ⟨kX9_isUnit, List.forall_mem_cons.mpr ⟨kX9_closeLeads, List.forall_mem_cons.mpr ⟨kX9_layUnits, List.forall_mem_cons.mpr ⟨kX9_loops, List.forall_mem_cons.mpr ⟨kX9_hasUnitCycle, List.forall_mem_cons.mpr ⟨kX9_waysOf, List.forall_mem_cons.mpr ⟨kX9_countStretch, List.forall_mem_cons.mpr ⟨kX9_countTrees, List.forall_mem_cons.mpr ⟨kX8_productionCount, List.forall_mem_cons.mpr ⟨kX9_productionCount, List.forall_mem_cons.mpr ⟨kX8_codeOf, List.forall_mem_cons.mpr ⟨kX8_symbol, List.forall_mem_cons.mpr ⟨kX9_size, List.forall_mem_cons.mpr ⟨kX9_codeOf, List.forall_mem_cons.mpr ⟨kX9_symbol, List.forall_mem_cons.mpr ⟨kX5_staysIn, List.forall_mem_cons.mpr ⟨kX2_derivable, List.forall_mem_cons.mpr ⟨kX2_nullable, List.forall_mem_cons.mpr ⟨kX8_nullableSet, List.forall_mem_cons.mpr ⟨kX9_allIn, List.forall_mem_cons.mpr ⟨kX9_closedUnder, List.forall_mem_cons.mpr ⟨kX9_nullables, List.forall_mem_cons.mpr ⟨kX9_nullableSet, List.forall_mem_cons.mpr ⟨kX2_productive, List.forall_mem_cons.mpr ⟨kX8_productiveSet, List.forall_mem_cons.mpr ⟨kX9_productives, List.forall_mem_cons.mpr ⟨kX9_productiveSet, List.forall_mem_cons.mpr ⟨kX1_followOccurrences, List.forall_mem_cons.mpr ⟨kX1_reachFrom, List.forall_mem_cons.mpr ⟨kX8_reachableSet, List.forall_mem_cons.mpr ⟨kX9_reached, List.forall_mem_cons.mpr ⟨kX9_reachableSet, List.forall_mem_cons.mpr ⟨kX1_leftEnds, List.forall_mem_cons.mpr ⟨kX1_followLeftEnds, List.forall_mem_cons.mpr ⟨kX8_leftRecursiveSet, List.forall_mem_cons.mpr ⟨kX9_recursives, List.forall_mem_cons.mpr ⟨kX9_leftRecursiveSet, List.forall_mem_cons.mpr ⟨kX8_unitReach, List.forall_mem_cons.mpr ⟨kX9_isIndex, List.forall_mem_cons.mpr ⟨kX9_unitReach, List.forall_mem_cons.mpr ⟨kX0_beginnings, List.forall_mem_cons.mpr ⟨kX0_grow, List.forall_mem_cons.mpr ⟨kX0_findFirsts, List.forall_mem_cons.mpr ⟨kX0_followOf, List.forall_mem_cons.mpr ⟨kX0_comingAfter, List.forall_mem_cons.mpr ⟨kX0_passFollows, List.forall_mem_cons.mpr ⟨kX0_findFollows, List.forall_mem_cons.mpr ⟨kX0_study, List.forall_mem_cons.mpr ⟨kX0_firstOf, List.forall_mem_cons.mpr ⟨kX8_firstSet, List.forall_mem_cons.mpr ⟨kX9_firstOf, List.forall_mem_cons.mpr ⟨kX9_layFirsts, List.forall_mem_cons.mpr ⟨kX9_firstNow, List.forall_mem_cons.mpr ⟨kX9_firstSet, List.forall_mem_cons.mpr ⟨kX8_followSet, List.forall_mem_cons.mpr ⟨kX9_layFollows, List.forall_mem_cons.mpr ⟨kX9_followNow, List.forall_mem_cons.mpr ⟨kX9_followSet, List.forall_mem_cons.mpr ⟨kX0_hasDistinctLookaheads, List.forall_mem_cons.mpr ⟨kX8_isLl1, List.forall_mem_cons.mpr ⟨kX9_isPredictive, List.forall_mem_cons.mpr ⟨kX9_isLl1, List.forall_mem_cons.mpr ⟨kX5_fitsChomsky, List.forall_mem_cons.mpr ⟨kX8_isChomsky, List.forall_mem_cons.mpr ⟨kX9_isInChomsky, List.forall_mem_cons.mpr ⟨kX9_isChomsky, List.forall_mem_cons.mpr ⟨kX5_fitsGreibach, List.forall_mem_cons.mpr ⟨kX8_isGreibach, List.forall_mem_cons.mpr ⟨kX9_isInGreibach, List.forall_mem_cons.mpr ⟨kX9_isGreibach, List.forall_mem_cons.mpr ⟨kX2_copyFrom, List.forall_mem_cons.mpr ⟨kX7_begin, List.forall_mem_cons.mpr ⟨kX7_beginStep, List.forall_mem_cons.mpr ⟨kX7_dropUseless, List.forall_mem_cons.mpr ⟨kX2_isTooLarge, List.forall_mem_cons.mpr ⟨kX7_finish, List.forall_mem_cons.mpr ⟨kX8_removeUseless, List.forall_mem_cons.mpr ⟨kX9_start, List.forall_mem_cons.mpr ⟨kX9_step, List.forall_mem_cons.mpr ⟨kX9_finish, List.forall_mem_cons.mpr ⟨kX9_removeUseless, List.forall_mem_cons.mpr ⟨kJ6_bitCount_0f7a4, List.forall_mem_cons.mpr ⟨kX5_thinned, List.forall_mem_cons.mpr ⟨kX7_addThinned, List.forall_mem_cons.mpr ⟨kX7_dropEmpty, List.forall_mem_cons.mpr ⟨kX8_removeEmpty, List.forall_mem_cons.mpr ⟨kX9_putRow, List.forall_mem_cons.mpr ⟨kX9_putWithout, List.forall_mem_cons.mpr ⟨kX9_removeEmpty, List.forall_mem_cons.mpr ⟨kX5_joined, List.forall_mem_cons.mpr ⟨kX7_addLent, List.forall_mem_cons.mpr ⟨kX7_dropUnits, List.forall_mem_cons.mpr ⟨kX8_removeUnits, List.forall_mem_cons.mpr ⟨kX9_addRow, List.forall_mem_cons.mpr ⟨kX9_removeUnits, List.forall_mem_cons.mpr ⟨kX7_occursInLong, List.forall_mem_cons.mpr ⟨kX2_leftSides, List.forall_mem_cons.mpr ⟨kX2_freeNonterminal, List.forall_mem_cons.mpr ⟨kX2_refuse, List.forall_mem_cons.mpr ⟨kX5_renamed, List.forall_mem_cons.mpr ⟨kX7_nameTerminal, List.forall_mem_cons.mpr ⟨kX7_nameTerminals, List.forall_mem_cons.mpr ⟨kX7_firstLong, List.forall_mem_cons.mpr ⟨kX2_remove, List.forall_mem_cons.mpr ⟨kX7_split, List.forall_mem_cons.mpr ⟨kX7_splitLong, List.forall_mem_cons.mpr ⟨kX8_toChomsky, List.forall_mem_cons.mpr ⟨kX9_hasUnit, List.forall_mem_cons.mpr ⟨kX9_mayNotStay, List.forall_mem_cons.mpr ⟨kX9_freeOne, List.forall_mem_cons.mpr ⟨kX9_veil, List.forall_mem_cons.mpr ⟨kX9_veilAll, List.forall_mem_cons.mpr ⟨kX9_cut, List.forall_mem_cons.mpr ⟨kX9_toChomsky, List.forall_mem_cons.mpr ⟨kX5_begins, List.forall_mem_cons.mpr ⟨kX7_addExpansions, List.forall_mem_cons.mpr ⟨kX7_expandAll, List.forall_mem_cons.mpr ⟨kX7_isRecursive, List.forall_mem_cons.mpr ⟨kX7_turnRecursion, List.forall_mem_cons.mpr ⟨kX7_treatLeft, List.forall_mem_cons.mpr ⟨kX7_dropLeftRecursion, List.forall_mem_cons.mpr ⟨kX8_removeLeftRecursion, List.forall_mem_cons.mpr ⟨kX9_putTold, List.forall_mem_cons.mpr ⟨kX9_tell, List.forall_mem_cons.mpr ⟨kX9_beginsWithItself, List.forall_mem_cons.mpr ⟨kX9_putTail, List.forall_mem_cons.mpr ⟨kX9_unwind, List.forall_mem_cons.mpr ⟨kX9_unwindAll, List.forall_mem_cons.mpr ⟨kX9_removeLeftRecursion, List.forall_mem_cons.mpr ⟨kX7_sharedLength, List.forall_mem_cons.mpr ⟨kX7_firstShared, List.forall_mem_cons.mpr ⟨kX7_factor, List.forall_mem_cons.mpr ⟨kX7_factorPrefixes, List.forall_mem_cons.mpr ⟨kX8_leftFactor, List.forall_mem_cons.mpr ⟨kX9_factor, List.forall_mem_cons.mpr ⟨kX9_leftFactor, List.forall_mem_cons.mpr ⟨kX7_firstWithNonterminal, List.forall_mem_cons.mpr ⟨kX7_expandLeftEnds, List.forall_mem_cons.mpr ⟨kX8_toGreibach, List.forall_mem_cons.mpr ⟨kX9_tellFirst, List.forall_mem_cons.mpr ⟨kX9_toGreibach, List.forall_mem_cons.mpr ⟨kX8_save, List.forall_mem_cons.mpr ⟨kX9_save, List.forall_mem_cons.mpr ⟨kX8_restore, List.forall_mem_cons.mpr ⟨kX9_restore, List.forall_mem_cons.mpr ⟨kX6_pairs, List.forall_mem_cons.mpr ⟨kX6_readOn, List.forall_mem_cons.mpr ⟨kX6_readRight, List.forall_mem_cons.mpr ⟨kX6_keepRead, List.forall_mem_cons.mpr ⟨kX6_study, List.forall_mem_cons.mpr ⟨kX6_ofLength, List.forall_mem_cons.mpr ⟨kJ13_bitCount_95d88, List.forall_mem_cons.mpr ⟨kX8_countWords, List.forall_mem_cons.mpr ⟨kX9_wordsOf, List.forall_mem_cons.mpr ⟨kX9_layWord, List.forall_mem_cons.mpr ⟨kX9_countNow, List.forall_mem_cons.mpr ⟨kX9_countWords, List.forall_mem_cons.mpr ⟨kX8_countDifferences, List.forall_mem_cons.mpr ⟨kX9_countDifferences, List.forall_mem_cons.mpr ⟨kX8_mixed, List.forall_mem_cons.mpr ⟨kX8_hashOfProductions, List.forall_mem_cons.mpr ⟨kX8_hashOfProperties, List.forall_mem_cons.mpr ⟨kX8_digest, List.forall_mem_cons.mpr ⟨kX9_mix, List.forall_mem_cons.mpr ⟨kX9_digest, fun _ h => absurd h List.not_mem_nil⟩⟩⟩⟩⟩⟩⟩⟩⟩⟩⟩⟩⟩⟩⟩⟩⟩⟩⟩⟩⟩⟩⟩⟩⟩⟩⟩⟩⟩⟩⟩⟩⟩⟩⟩⟩⟩⟩⟩⟩⟩⟩⟩⟩⟩⟩⟩⟩⟩⟩⟩⟩⟩⟩⟩⟩⟩⟩⟩⟩⟩⟩⟩⟩⟩⟩⟩⟩⟩⟩⟩⟩⟩⟩⟩⟩⟩⟩⟩⟩⟩⟩⟩⟩⟩⟩⟩⟩⟩⟩⟩⟩⟩⟩⟩⟩⟩⟩⟩⟩⟩⟩⟩⟩⟩⟩⟩⟩⟩⟩⟩⟩⟩⟩⟩⟩⟩⟩⟩⟩⟩⟩⟩⟩⟩⟩⟩⟩⟩⟩⟩⟩⟩⟩⟩⟩⟩⟩⟩⟩⟩⟩⟩⟩⟩⟩⟩⟩⟩⟩⟩⟩⟩⟩⟩⟩⟩⟩⟩⟩⟩⟩⟩⟩⟩⟩⟩⟩⟩⟩⟩⟩⟩⟩⟩⟩⟩⟩⟩⟩⟩⟩⟩⟩⟩⟩⟩⟩⟩⟩⟩⟩⟩⟩⟩⟩⟩⟩⟩⟩⟩⟩⟩⟩⟩⟩⟩⟩⟩⟩⟩⟩⟩⟩⟩⟩⟩⟩⟩⟩⟩⟩⟩⟩⟩⟩⟩⟩⟩⟩⟩⟩⟩⟩⟩⟩⟩⟩⟩⟩⟩
theorem ggood : si_good := fun w hw => good_of_word (List.mem_filter.mp hw).2
theorem gcw_0 : ∀ w ∈ u_ws RX0 TX0 3, w ∈ si_tb := by
  have h : ∀ w ∈ u_ws RX0 TX0 3, w ∈ lw_tbl ∧ goodWord w = true := by decide +kernel
  exact fun w hw => List.mem_filter.mpr (h w hw)
theorem gcw_1 : ∀ w ∈ u_ws RX1 TX1 1, w ∈ si_tb := by
  have h : ∀ w ∈ u_ws RX1 TX1 1, w ∈ lw_tbl ∧ goodWord w = true := by decide +kernel
  exact fun w hw => List.mem_filter.mpr (h w hw)
theorem gcw_2 : ∀ w ∈ u_ws RX2 TX2 3, w ∈ si_tb := by
  have h : ∀ w ∈ u_ws RX2 TX2 3, w ∈ lw_tbl ∧ goodWord w = true := by decide +kernel
  exact fun w hw => List.mem_filter.mpr (h w hw)
theorem gcw_3 : ∀ w ∈ u_ws RX3 TX3 2, w ∈ si_tb := by
  have h : ∀ w ∈ u_ws RX3 TX3 2, w ∈ lw_tbl ∧ goodWord w = true := by decide +kernel
  exact fun w hw => List.mem_filter.mpr (h w hw)
theorem gcw_4 : ∀ w ∈ u_ws RX4 TX4 8, w ∈ si_tb := by
  have h : ∀ w ∈ u_ws RX4 TX4 8, w ∈ lw_tbl ∧ goodWord w = true := by decide +kernel
  exact fun w hw => List.mem_filter.mpr (h w hw)
theorem gcw_5 : ∀ w ∈ u_ws RX6 TX6 6, w ∈ si_tb := by
  have h : ∀ w ∈ u_ws RX6 TX6 6, w ∈ lw_tbl ∧ goodWord w = true := by decide +kernel
  exact fun w hw => List.mem_filter.mpr (h w hw)
theorem gcw_6 : ∀ w ∈ u_ws RX7 TX7 2, w ∈ si_tb := by
  have h : ∀ w ∈ u_ws RX7 TX7 2, w ∈ lw_tbl ∧ goodWord w = true := by decide +kernel
  exact fun w hw => List.mem_filter.mpr (h w hw)
theorem gcw_7 : ∀ w ∈ u_ws RX8 TX8 9, w ∈ si_tb := by
  have h : ∀ w ∈ u_ws RX8 TX8 9, w ∈ lw_tbl ∧ goodWord w = true := by decide +kernel
  exact fun w hw => List.mem_filter.mpr (h w hw)
theorem gcw_8 : ∀ w ∈ u_ws RX9 TX9 29, w ∈ si_tb := by
  have h : ∀ w ∈ u_ws RX9 TX9 29, w ∈ lw_tbl ∧ goodWord w = true := by decide +kernel
  exact fun w hw => List.mem_filter.mpr (h w hw)
theorem gclok : si_clok gcl := by
  intro ct C T N h
  match ct, h with
  | 0, h => cases h; exact ⟨gcw_0, ⟨tyX0, tyX0_ok⟩, nmX0⟩
  | 1, h => cases h; exact ⟨gcw_1, ⟨tyX1, tyX1_ok⟩, nmX1⟩
  | 2, h => cases h; exact ⟨gcw_2, ⟨tyX2, tyX2_ok⟩, nmX2⟩
  | 3, h => cases h; exact ⟨gcw_3, ⟨tyX3, tyX3_ok⟩, nmX3⟩
  | 4, h => cases h; exact ⟨gcw_4, ⟨tyX4, tyX4_ok⟩, nmX4⟩
  | 5, h => cases h; exact ⟨gcw_5, ⟨tyX6, tyX6_ok⟩, nmX6⟩
  | 6, h => cases h; exact ⟨gcw_6, ⟨tyX7, tyX7_ok⟩, nmX7⟩
  | 7, h => cases h; exact ⟨gcw_7, ⟨tyX8, tyX8_ok⟩, nmX8⟩
  | 8, h => cases h; exact ⟨gcw_8, ⟨tyX9, tyX9_ok⟩, nmX9⟩
  | k + 9, h => simp [gcl] at h
theorem gshok : si_shok gcl gsh := by
  intro k ct cs h
  match k, h with
  | 0, h => cases h; exact ⟨RX8, TX8, rfl, fun j c hj => by
      match j, hj with
      | 0, hj => cases hj; rfl
      | 1, hj => cases hj; rfl
      | 2, hj => cases hj; rfl
      | 3, hj => cases hj; rfl
      | 4, hj => cases hj; rfl
      | 5, hj => cases hj; rfl
      | 6, hj => cases hj; rfl
      | 7, hj => cases hj; rfl
      | 8, hj => cases hj; rfl
      | j + 9, hj => simp at hj⟩
  | 1, h => cases h; exact ⟨RX3, TX3, rfl, fun j c hj => by
      match j, hj with
      | 0, hj => cases hj; rfl
      | 1, hj => cases hj; rfl
      | j + 2, hj => simp at hj⟩
  | 2, h => cases h
  | 3, h => cases h; exact ⟨RX2, TX2, rfl, fun j c hj => by
      match j, hj with
      | 0, hj => cases hj; rfl
      | 1, hj => cases hj; rfl
      | 2, hj => cases hj; rfl
      | j + 3, hj => simp at hj⟩
  | 4, h => cases h
  | 5, h => cases h; exact ⟨RX2, TX2, rfl, fun j c hj => by
      match j, hj with
      | 0, hj => cases hj; rfl
      | 1, hj => cases hj; rfl
      | 2, hj => cases hj; rfl
      | j + 3, hj => simp at hj⟩
  | 6, h => cases h
  | 7, h => cases h; exact ⟨RX1, TX1, rfl, fun j c hj => by
      match j, hj with
      | 0, hj => cases hj; rfl
      | j + 1, hj => simp at hj⟩
  | 8, h => cases h
  | 9, h => cases h; exact ⟨RX0, TX0, rfl, fun j c hj => by
      match j, hj with
      | 0, hj => cases hj; rfl
      | 1, hj => cases hj; rfl
      | 2, hj => cases hj; rfl
      | j + 3, hj => simp at hj⟩
  | 10, h => cases h
  | 11, h => cases h
  | 12, h => cases h; exact ⟨RX4, TX4, rfl, fun j c hj => by
      match j, hj with
      | 0, hj => cases hj; rfl
      | 1, hj => cases hj; rfl
      | 2, hj => cases hj; rfl
      | 3, hj => cases hj; rfl
      | 4, hj => cases hj; rfl
      | 5, hj => cases hj; rfl
      | 6, hj => cases hj; rfl
      | 7, hj => cases hj; rfl
      | j + 8, hj => simp at hj⟩
  | 13, h => cases h
  | 14, h => cases h
  | 15, h => cases h
  | 16, h => cases h
  | 17, h => cases h
  | 18, h => cases h
  | 19, h => cases h
  | 20, h => cases h; exact ⟨RX6, TX6, rfl, fun j c hj => by
      match j, hj with
      | 0, hj => cases hj; rfl
      | 1, hj => cases hj; rfl
      | 2, hj => cases hj; rfl
      | 3, hj => cases hj; rfl
      | 4, hj => cases hj; rfl
      | 5, hj => cases hj; rfl
      | j + 6, hj => simp at hj⟩
  | 21, h => cases h
  | 22, h => cases h
  | 23, h => cases h
  | 24, h => cases h; exact ⟨RX7, TX7, rfl, fun j c hj => by
      match j, hj with
      | 0, hj => cases hj; rfl
      | 1, hj => cases hj; rfl
      | j + 2, hj => simp at hj⟩
  | 25, h => cases h; exact ⟨RX2, TX2, rfl, fun j c hj => by
      match j, hj with
      | 0, hj => cases hj; rfl
      | 1, hj => cases hj; rfl
      | 2, hj => cases hj; rfl
      | j + 3, hj => simp at hj⟩
  | 26, h => cases h
  | 27, h => cases h; exact ⟨RX2, TX2, rfl, fun j c hj => by
      match j, hj with
      | 0, hj => cases hj; rfl
      | 1, hj => cases hj; rfl
      | 2, hj => cases hj; rfl
      | j + 3, hj => simp at hj⟩
  | 28, h => cases h
  | 29, h => cases h; exact ⟨RX9, TX9, rfl, fun j c hj => by
      match j, hj with
      | 0, hj => cases hj; rfl
      | 1, hj => cases hj; rfl
      | 2, hj => cases hj; rfl
      | 3, hj => cases hj; rfl
      | 4, hj => cases hj; rfl
      | 5, hj => cases hj; rfl
      | 6, hj => cases hj; rfl
      | 7, hj => cases hj; rfl
      | 8, hj => cases hj; rfl
      | 9, hj => cases hj; rfl
      | 10, hj => cases hj; rfl
      | 11, hj => cases hj; rfl
      | 12, hj => cases hj; rfl
      | 13, hj => cases hj; rfl
      | 14, hj => cases hj; rfl
      | 15, hj => cases hj; rfl
      | 16, hj => cases hj; rfl
      | 17, hj => cases hj; rfl
      | 18, hj => cases hj; rfl
      | 19, hj => cases hj; rfl
      | 20, hj => cases hj; rfl
      | 21, hj => cases hj; rfl
      | 22, hj => cases hj; rfl
      | 23, hj => cases hj; rfl
      | 24, hj => cases hj; rfl
      | 25, hj => cases hj; rfl
      | 26, hj => cases hj; rfl
      | 27, hj => cases hj; rfl
      | 28, hj => cases hj; rfl
      | j + 29, hj => simp at hj⟩
  | 30, h => cases h
  | 31, h => cases h
  | 32, h => cases h
  | 33, h => cases h
  | 34, h => cases h
  | 35, h => cases h
  | 36, h => cases h
  | 37, h => cases h
  | 38, h => cases h
  | 39, h => cases h
  | 40, h => cases h
  | 41, h => cases h
  | 42, h => cases h
  | 43, h => cases h
  | 44, h => cases h
  | k + 45, h => simp [gsh] at h
theorem gok : si_ok gP gcl := by
  refine ⟨fun mi hmi => ?_, gclok, gshok, ggood⟩
  have h := gall mi hmi
  unfold gchk at h
  rw [Bool.and_eq_true] at h
  refine ⟨h.1, ?_⟩
  have h2 := h.2
  split at h2
  · assumption
  · cases h2
end
section
/-! THE CLAIM OUT OF ONE WALK OF THE LAW'S BODY. Your part is whole_start (and what it stands on); all else here is the same for every law, but numbers. -/
def R_law : String := "GrammarReshaperLaw"
def lw_P (b : Addr) (xs : List Int32) (args : Array Value) (s : State) : Prop := args = #[.ref b] ∧ s.IntsAt b xs ∧ xs.length ≤ 1536 ∧ (Jvm.Cond.and given_1 narrow_1).before args s = true
def lw_Q (_ : Array Value) (s : State) (o : Outcome) (t : State) : Prop := o = .returned (some (.int 1)) ∧ Framed s o t [] 45 5189
def lw_Z (below : List Frame) (a : Array Value) (s : State) : State → Prop := fun t => ∃ o, t.status = .running ∧ Ended t below o ∧ lw_Q a s o t
/-- the law's own end, with 1 on the stack, nothing written that was there before, its room as the claim has it -/
theorem lw_ret {p : Program} {l : Launch} {e : Env} {s : State} {m : MethodId} {below : List Frame} {meth : Method} {c : Code} {b : Nat} (hx : p.tables.exec = Jvm.exec) (hb : c.code = code) (hr : meth.sig.returnType = ret) (hlocks : meth.locks = false) {pc : Nat} {H : Heap} {ls : Array Slot} (hdg : decode code pc = .ok (.ireturn, 1)) : W p l e room_1 s m #[Value.ref b] below meth c H [] 45 5189 (lw_Z below #[Value.ref b] s) (F0 m pc ls [.int 1]) := by
  intro T hT X
  obtain ⟨fs, hret, hrun, hended, hW, hframe⟩ := X.leave (v := some (.int 1)) (hlocks := hlocks) (fun h => by rw [hr] at h; cases h)
  have hmeth' : T.vm.method? m = some meth := X.method'
  refine ⟨T.setFrames fs, ?_, .returned (some (.int 1)), hrun, hended, rfl, ⟨_, rfl⟩, hW, hframe⟩
  jvm_step X.here [X.here.top, hx, hb, hdg, hmeth', hr, ret, narrow_b1]
  (try refine ⟨rfl, ?_⟩); (try refine ⟨rfl, ?_⟩)
  first | (intro acts; rw [hret _ acts rfl rfl rfl]) | rw [hret _ _ rfl rfl rfl]
  exact Steps.refl _
/-- what holds at the law's entry: the machine, the code, the tables' words (any of lw_tbl by 'hts w (by decide +kernel)'), the script of L ints xs at the cell b, what the Statement gives of the start (any of its parts by flat_of_before) -/
def lw_At (p : Program) (s : State) (m : MethodId) (meth : Method) (c : Code) (b L : Nat) (xs : Nat → Int32) : Prop :=
  p.tables.exec = Jvm.exec ∧ c.code = code ∧ meth.sig.returnType = ret ∧ c.maxLocals = 4 ∧ s.vm.findClass R_law = some m.cls ∧ (∀ w ∈ lw_tbl, w.before #[Value.ref b] s = true) ∧ va_X b L xs s s.heap ∧ b < s.heap.size ∧ meth.locks = false ∧ (Jvm.Cond.and given_1 narrow_1).before #[Value.ref b] s = true
end
section
/-! CONSTRUCTORS: a second small machine, whose cells come one by one; and the theorem that the real machine follows it -/
abbrev sj_c : Type := (Nat × List Value) ⊕ (Bool × Nat)
def sj_ce (dA : Bool → ClassId) (sz : Nat) : sj_c → va_E
  | .inl (ct, vs) => .inr (ct, vs.map (si_v sz))
  | .inr (false, n) => .inl (dA false, n, .inl (fun _ => 0))
  | .inr (true, n) => .inl (dA true, n, .inr (.inl (fun _ => 0)))
def sj_W (dA : Bool → ClassId) (sz : Nat) (cs : List sj_c) : va_W := (List.range cs.length).map fun k => (sz + k, sj_ce dA sz (cs.getD k (.inl (0, []))))
theorem sj_W_at {dA : Bool → ClassId} {sz : Nat} {cs : List sj_c} {k : Nat} {d : sj_c} (h : cs[k]? = some d) : (sj_W dA sz cs)[k]? = some (sz + k, sj_ce dA sz d) := by
  have hk : k < cs.length := (List.getElem?_eq_some_iff.mp h).1
  unfold sj_W
  rw [List.getElem?_map, List.getElem?_range hk]
  simp [List.getD, h]
theorem sj_W_of {dA : Bool → ClassId} {sz : Nat} {cs : List sj_c} {k : Nat} {q : Nat × va_E} (h : (sj_W dA sz cs)[k]? = some q) : k < cs.length ∧ q.1 = sz + k := by
  unfold sj_W at h
  rw [List.getElem?_map] at h
  by_cases hk : k < cs.length
  · rw [List.getElem?_range hk] at h
    simp at h
    exact ⟨hk, by rw [← h]⟩
  · rw [List.getElem?_eq_none (by simpa using hk)] at h
    cases h
theorem sj_W_D (dA : Bool → ClassId) (sz : Nat) (cs : List sj_c) : va_D (fun q => sz ≤ q) (sj_W dA sz cs) := by
  refine ⟨fun i j p q hp hq hpq => ?_, fun k q hq => ?_⟩
  · have h1 := (sj_W_of hp).2
    have h2 := (sj_W_of hq).2
    omega
  · rw [(sj_W_of hq).2]; omega
theorem sj_W_app (dA : Bool → ClassId) (sz : Nat) (cs : List sj_c) (x : sj_c) : sj_W dA sz cs ++ [(sz + cs.length, sj_ce dA sz x)] = sj_W dA sz (cs ++ [x]) := by
  unfold sj_W
  rw [List.length_append, List.length_singleton, List.range_succ, List.map_append]
  congr 1
  · apply List.map_congr_left
    intro k hk
    have hk2 : k < cs.length := by simpa using hk
    simp [List.getD, List.getElem?_append_left hk2]
  · simp [List.getD]
theorem sj_W_set {dA : Bool → ClassId} {sz : Nat} {cs : List sj_c} {k : Nat} {d : sj_c} (hk : k < cs.length) : (sj_W dA sz cs).set k (sz + k, sj_ce dA sz d) = sj_W dA sz (cs.set k d) := by
  apply List.ext_getElem?
  intro j
  rw [List.getElem?_set]
  unfold sj_W
  by_cases hj : k = j
  · subst hj
    simp [hk, List.getD]
  · simp only [hj, if_false]
    rw [List.getElem?_map, List.getElem?_map, List.length_set]
    by_cases hl : j < cs.length
    · rw [List.getElem?_range hl]
      simp [List.getD, List.getElem?_set, hj]
    · rw [List.getElem?_eq_none (by simpa using hl)]
      rfl
section CTR
variable {p : Program} {l : Launch} {e : Env} {R : Room} {s : State} {m : MethodId} {args : Array Value} {below : List Frame} {meth : Method} {c : Code} {H : Heap} {locs : List Loc} {cells slots : Nat} {Q : State → Prop} {D : va_G} {cl : List vw_C} {tys : List (ClassId × FieldType)} {ws : va_W} {A : Nat → Prop} {H0 : Heap} {cc : ByteArray} {pc : Nat} {ls : Array Slot} {rest : List Value}
/-- a new row, its place told -/
theorem sj_newa (hexec : p.tables.exec = Jvm.exec) (hb : c.code = cc) {atype : ArrayType} (harr : (Jvm.Cond.arrayClass (newarray.typeOf atype)).before args s = true) {ty : FieldType} (hty : newarray.typeOf atype = ty) {cA : ClassId} (hcA : s.vm.findClass ("[" ++ ty.toString) = some cA) (hP : va_P D cl ws H) (hD : va_D A ws) (hS : va_S A H0 H locs)
    {n : Int32} {N' : Nat} {a0 : vp_A} (ha : ∀ cA : ClassId, vp_cell cA a0 = arrV cA N' (fun _ => defaultValue ty)) (hn : ¬ n < 0) (hN : n.toNatClampNeg = N') (hbytes : N' * componentBytes ty ≤ 536870912) (hcells : cells + 1 ≤ R.cells) (hslots : slots + N' ≤ R.slots) (hdg : decode cc pc = .ok (.newarray atype, 2))
    (kk : ∀ H1 : Heap, H1.size = H.size + 1 → va_P D cl (ws ++ [(H.size, .inl (cA, a0))]) H1 → va_S A H0 H1 locs →
      W p l e R s m args below meth c H1 locs (cells + 1) (slots + N') Q (F0 m (pc + 2) ls (.ref H.size :: rest))) : W p l e R s m args below meth c H locs cells slots Q (F0 m pc ls (.int n :: rest)) := by
  subst hty
  refine va_newaK hexec hb harr rfl hdg rfl hn hN hbytes hcells hslots rfl fun H1 cA2 e1 z1 o1 hAr hNm => ?_
  have hc2 : cA2 = cA := Option.some.inj (hNm.symm.trans hcA)
  subst hc2
  have hk : ∀ (k : Nat) (x : Nat × va_E), ws[k]? = some x → H1[x.1]? = H[x.1]? := fun k x hx => o1 x.1 ((hP k x hx).lt)
  refine kk H1 z1 ((hP.kept hk).app (fun k x hx => ?_)) ⟨Nat.le_trans hS.1 (by omega), fun x h1 h2 => (o1 x (Nat.lt_of_lt_of_le h1 hS.1)).trans (hS.2.1 x h1 h2), hS.2.2⟩
  have hz : k < 1 := (List.getElem?_eq_some_iff.mp hx).1
  rw [show k = 0 by omega] at hx
  cases hx
  show H1[H.size]? = some (vp_cell _ _)
  rw [ha]
  exact e1
theorem sj_new {c0 : Code} (hexec : p.tables.exec = Jvm.exec) (hb : c0.code = cc) {own C : String} {T : u_T} {N ci index : Nat} {Ts : List Jvm.Cond} (hts : ∀ w ∈ Ts, w.before args s = true) (hin : ∀ w ∈ u_ws C T N, w ∈ Ts) (ty : Nat → FieldType) (hty : ∀ k, k < N → parseFieldDescriptor (T k).2.2.1 = some (ty k)) (hown : s.vm.findClass own = some m.cls) (hcl : (Jvm.Cond.classLink own index C).before args s = true) (hinst : (Jvm.Cond.instantiable C N).before args s = true) (hini : (Jvm.Cond.initialized C).before args s = true)
    (hK : va_K D cl tys s) (hP : va_P D cl ws H) (hS : va_S A H0 H locs) (hc : cl[ci]? = some (C, T, N)) {fs : List Value} (hfs : ∀ j, j < N → defaultValue (ty j) = vp_V fs j) (hcells : cells + 1 ≤ R.cells) (hslots : slots + N ≤ R.slots) (hdg : decode cc pc = .ok (.new index, 3))
    (kk : ∀ H1 : Heap, H1.size = H.size + 1 → va_P D cl (ws ++ [(H.size, .inr (ci, fs))]) H1 → va_S A H0 H1 locs →
      W p l e R s m args below meth c0 H1 locs (cells + 1) (slots + N) Q (F0 m (pc + 3) ls (.ref H.size :: rest))) : W p l e R s m args below meth c0 H locs cells slots Q (F0 m pc ls rest) := by
  have hKn := hK.1 ci _ hc
  refine W.newcK hexec hb hown hcl hinst hini rfl hdg hcells hslots hKn.2.1 rfl fun H1 kC hkC e1 z1 o1 => ?_
  have hk : ∀ (k : Nat) (x : Nat × va_E), ws[k]? = some x → H1[x.1]? = H[x.1]? := fun k x hx => o1 x.1 ((hP k x hx).lt)
  refine kk H1 z1 ((hP.kept hk).app (fun k x hx => ?_)) ⟨Nat.le_trans hS.1 (by omega), fun x h1 h2 => (o1 x (Nat.lt_of_lt_of_le h1 hS.1)).trans (hS.2.1 x h1 h2), hS.2.2⟩
  have hz : k < 1 := (List.getElem?_eq_some_iff.mp hx).1
  rw [show k = 0 by omega] at hx
  cases hx
  exact ⟨_, hc, (u_born ty hts hin hKn hkC e1 hty).to hfs⟩
theorem sj_put (hexec : p.tables.exec = Jvm.exec) (hb : c.code = cc) {own ref C : String} {T : u_T} {N ci index a : Nat} {Ts : List Jvm.Cond} (hts : ∀ w ∈ Ts, w.before args s = true) (hin : ∀ w ∈ u_ws C T N, w ∈ Ts) (ty0 : Nat → FieldType) (hty : ∀ k, k < N → parseFieldDescriptor (T k).2.2.1 = some (ty0 k)) (hnm : ∀ a, a < N → ∀ b, b < N → a ≠ b → (T a).2.1 ≠ (T b).2.1) (hown : s.vm.findClass own = some m.cls) (hK : va_K D cl tys s) (hP : va_P D cl ws H) (hD : va_D A ws) (hS0 : va_S A H0 H locs) (q0 : Nat) {fs : List Value} (he : ws[q0]? = some (a, .inr (ci, fs))) (hc : cl[ci]? = some (C, T, N)) (k : Nat) (hk : k < N) (hlink : (Jvm.Cond.fieldLink own index ref (T k).2.1 (T k).2.2.1).before args s = true) (hsame : ∀ x, s.fieldFound? (T k).1 (T k).2.1 (T k).2.2.1 = some x → s.fieldFound? ref (T k).2.1 (T k).2.2.1 = some x) (hfin : (T k).2.2.2 = false ∨ ((T k).2.2.2 = true ∧ meth.name = "<init>" ∧ (T k).1 = own)) {ty : FieldType} {v : Value} (hd : parseFieldDescriptor (T k).2.2.1 = some ty) (hn : narrow ty v = v) (hfit : fits ty v = true) (hl : k < fs.length)
    (hdg : decode cc pc = .ok (.putfield index, 3)) (kk : ∀ (H1 : Heap) (locs1 : List Loc), H1.size = H.size → va_P D cl (ws.set q0 (a, .inr (ci, fs.set k v))) H1 → va_S A H0 H1 locs1 → W p l e R s m args below meth c H1 locs1 cells slots Q (F0 m (pc + 3) ls rest)) : W p l e R s m args below meth c H locs cells slots Q (F0 m pc ls (v :: .ref a :: rest)) := by
  have hap := va_apart (own := own) hts hin ty0 hty hnm hK hc
  obtain ⟨r, h1, cell, q1, q2, q3, q4⟩ := hP q0 _ he
  have hr : r = (C, T, N) := Option.some.inj (h1.symm.trans hc)
  subst hr
  obtain ⟨hS, hfc, kC, hkC, hkind⟩ := hK.1 ci _ hc
  obtain ⟨cf, kf, fi, f, hi, hsl⟩ := hS k hk
  have hlay := hts _ (hin _ (u_in_lay hk))
  have hst := (u_facts hfc hkC (u_lays hts hin hk) hi).1
  unfold u_lay at hlay
  rcases hfin with hfin | ⟨hfin, hin2, hdecl⟩
  · rw [if_neg (by rw [hfin]; decide)] at hlay
    have h6 := u_store hfc hkC hkind hlay hi hd hn hfit
    refine W.putK hexec hb (f := f) ⟨hown, hlink, ⟨_, _, _, hsame _ hi⟩, hst⟩ (by rw [q2]; exact h6) q1 q3 (by rw [hsl]; exact k2_hasslot (q4 k hk)) rfl rfl hdg fun H' e1 e2 e3 => ?_
    rw [hsl] at e1 ⊢
    exact kk H' _ e2 (hP.set hD he ⟨_, hc, t_OB.to (V := updV (vp_V fs) k v) ⟨_, e1, q2, q3, t_set q4 hap hk v⟩ (fun j _ => vp_updV_set hl v j)⟩ e3) (hS0.put e2 e3 (hD.2 q0 _ he))
  · rw [if_pos hfin] at hlay
    have hcf : m.cls = cf := by
      obtain ⟨_, _, c', _, _, _, -, -, hf', -, -, -, hown2, -⟩ := Cond.laysFinal_spec hlay
      have e1 : c' = cf := by have := hi.symm.trans hf'; simp at this; exact this.1.symm
      rw [hdecl] at hown2
      rw [← e1]; exact Option.some.inj (hown.symm.trans hown2)
    have h6 := u_fits hfc hkC hkind (Or.inr hlay) hi hd hn hfit
    refine W.putFinK hexec hb hown hlink (hsame _ hi) hst hcf hin2 (by rw [q2]; exact h6) q1 q3 (by rw [hsl]; exact k2_hasslot (q4 k hk)) rfl rfl hdg fun H' e1 e2 e3 => ?_
    rw [hsl] at e1 ⊢
    exact kk H' _ e2 (hP.set hD he ⟨_, hc, t_OB.to (V := updV (vp_V fs) k v) ⟨_, e1, q2, q3, t_set q4 hap hk v⟩ (fun j _ => vp_updV_set hl v j)⟩ e3) (hS0.put e2 e3 (hD.2 q0 _ he))
end CTR
/-- name, bytes, cells, slots, room for frames, room for words, rows -/
abbrev sj_mi : Type := MethodName × ByteArray × Nat × Nat × Nat × Nat × List si_row
def sj_df (c : Nat) : Value := match c with
  | 0 => .int 0
  | 1 => .long 0
  | 2 => .int 0
  | _ => .null
theorem sj_dfv (sz : Nat) (fc : List Nat) : (fc.map sj_df).map (si_v sz) = fc.map sj_df := by
  rw [List.map_map]
  apply List.map_congr_left
  intro c _
  simp only [Function.comp, sj_df]
  split <;> rfl
def sj_fit (c : Nat) (v : Value) : Bool := match c, v with
  | 0, .int _ => true
  | 1, .long _ => true
  | 2, .int x => decide (x = 0)
  | 3, .ref _ => true
  | _, _ => false
abbrev sj_S : Type := List Value × List sj_c × Nat × Nat
/-- an instruction; none: no such way -/
def sj_ins (mc ms this : Nat) (i : Instr) (xs : List Nat) (ci : Int32) (cL : Int64) (S : sj_S) : Option sj_S := match S with
  | (st, cs, nc, ns) => match i with
    | .aload_n k => match (k : Nat) with
      | 0 => some (.ref this :: st, cs, nc, ns)
      | _ => none
    | .dup => match st with
      | .ref q :: r => some (.ref q :: .ref q :: r, cs, nc, ns)
      | _ => none
    | .iconst _ => some (.int ci :: st, cs, nc, ns)
    | .bipush _ => some (.int ci :: st, cs, nc, ns)
    | .sipush _ => some (.int ci :: st, cs, nc, ns)
    | .lconst _ => some (.long cL :: st, cs, nc, ns)
    | .new _ => match xs with
      | ct :: _ :: _ :: _ :: fc => match Nat.ble (nc + 1) mc && Nat.ble (ns + fc.length) ms with
        | true => some (.ref cs.length :: st, cs ++ [.inl (ct, fc.map sj_df)], nc + 1, ns + fc.length)
        | false => none
      | _ => none
    | .newarray at_ => match st, xs with
      | .int n :: r, [b, _] => match Nat.ble (nc + 1) mc && Nat.ble (ns + n.toNatClampNeg) ms && decide (0 ≤ n) && Nat.ble (n.toNatClampNeg * 8) 536870912 with
        | true => match b with
          | 0 => some (.ref cs.length :: r, cs ++ [.inr (false, n.toNatClampNeg)], nc + 1, ns + n.toNatClampNeg)
          | 1 => some (.ref cs.length :: r, cs ++ [.inr (true, n.toNatClampNeg)], nc + 1, ns + n.toNatClampNeg)
          | _ => none
        | false => none
      | _, _ => none
    | .putfield _ => match st, xs with
      | v :: .ref q :: r, [ct, j, _, fc] => match cs[q]? with
        | some (.inl (ct', vs)) => match Nat.beq ct' ct && sj_fit fc v && Nat.blt j vs.length with
          | true => some (r, cs.set q (.inl (ct, vs.set j v)), nc, ns)
          | false => none
        | _ => none
      | _, _ => none
    | .invokespecial _ => match st, xs with
      | .ref _ :: r, [_, _, _] => match Nat.ble (si_cat r) 8 with
        | true => some (r, cs, nc, ns)
        | false => none
      | _, _ => none
    | _ => none
def sj_run (T : List sj_mi) : Nat → Nat → Nat → Nat → sj_S → Option (List sj_c)
  | 0, _, _, _, _ => none
  | n + 1, m, this, pc, S => match T[m]? with
    | none => none
    | some (_, _, mc, ms, _, _, rows) => match si_get rows pc with
      | none => none
      | some (p, i, len, xs, ci, cL, _) => match i with
        | .return_ => match S with
          | ([], cs, nc, ns) => match Nat.ble nc mc && Nat.ble ns ms with
            | true => some cs
            | false => none
          | _ => none
        | .invokespecial k => match xs with
          | [c, _, _, _, _] => match S, T[c]? with
            | (.ref q :: r, cs, nc, ns), some (_, _, mc2, ms2, _, _, _) => match Nat.ble (nc + mc2) mc && Nat.ble (ns + ms2) ms && Nat.ble (si_cat r) 8 with
              | true => match sj_run T n c q 0 ([], cs, 0, 0) with
                | some cs2 => sj_run T n m this (p + len) (r, cs2, nc + mc2, ns + ms2)
                | none => none
              | false => none
            | _, _ => none
          | _ => match sj_ins mc ms this i xs ci cL S with
            | some S2 => sj_run T n m this (p + len) S2
            | none => none
        | _ => match sj_ins mc ms this i xs ci cL S with
          | some S2 => sj_run T n m this (p + len) S2
          | none => none
def sj_pok (c : Nat) (ty : Option FieldType) : Bool := match c, ty with
  | 0, some .int => true
  | 1, some .long => true
  | 2, some .boolean => true
  | 3, some (.object _) => true
  | 3, some (.array _) => true
  | _, _ => false
theorem sj_fits {fc sz : Nat} {v : Value} {ty : FieldType} (b2 : sj_fit fc v = true) (q2 : sj_pok fc (some ty) = true) : narrow ty (si_v sz v) = si_v sz v ∧ fits ty (si_v sz v) = true := by
  match fc, v, ty, b2, q2 with
  | 0, .int x, .int, _, _ => exact ⟨rfl, rfl⟩
  | 1, .long x, .long, _, _ => exact ⟨rfl, rfl⟩
  | 2, .int x, .boolean, b2, _ =>
    have e : x = 0 := of_decide_eq_true b2
    subst e
    exact ⟨rfl, rfl⟩
  | 3, .ref q, .object _, _, _ => exact ⟨rfl, rfl⟩
  | 3, .ref q, .array _, _, _ => exact ⟨rfl, rfl⟩
def sj_len (i : Instr) : Nat := match i with
  | .bipush _ | .newarray _ => 2
  | .sipush _ | .new _ | .putfield _ | .invokespecial _ => 3
  | _ => 1
def sj_iok (T : List sj_mi) (cl : List vw_C) (own : String) (fr lo : Nat) (i : Instr) (xs : List Nat) (ci : Int32) (cL : Int64) : Bool := match i with
  | .iconst n => decide (Int32.ofInt n = ci)
  | .bipush n => decide ((Int8.ofInt n).toInt32 = ci)
  | .sipush n => decide ((Int16.ofInt n).toInt32 = ci)
  | .lconst n => decide (Int64.ofNat (n : Nat) = cL)
  | .new k => match xs with
    | ct :: w1 :: w2 :: w3 :: fc => match cl[ct]? with
      | some (C, F, N) => Nat.beq N fc.length && si_wi w1 (.classLink own k C) && si_wi w2 (.instantiable C N) && si_wi w3 (.initialized C) && (List.range N).all fun j => match parseFieldDescriptor (F j).2.2.1 with
        | some t => decide (defaultValue t = (fc.map sj_df).getD j .null)
        | none => false
      | none => false
    | _ => false
  | .newarray at_ => match xs with
    | [b, w] => (match b with
      | 0 => decide (newarray.typeOf at_ = .int) && si_wi w (.arrayClass .int)
      | 1 => decide (newarray.typeOf at_ = .long) && si_wi w (.arrayClass .long)
      | _ => false)
    | _ => false
  | .putfield k => match xs with
    | [ct, j, w, fc] => match cl[ct]? with
      | some (_, F, N) => Nat.blt j N && si_wi w (.fieldLink own k (F j).1 (F j).2.1 (F j).2.2.1) && sj_pok fc (parseFieldDescriptor (F j).2.2.1) && (!(F j).2.2.2 || decide ((F j).1 = own))
      | none => false
    | _ => false
  | .invokespecial k => match xs with
    | [w1, w2, w3] => si_wi w1 (.methodLink own k Lib.objectInit) && si_wi w2 (.instanceMethod Lib.objectInit) && si_wi w3 (.code Lib.objectInit ⟨#[0xb1]⟩ 1 none) && Nat.ble 1 fr && Nat.ble 20 lo
    | [c, w1, w2, w3, w4] => match T[c]? with
      | some (y, bs, _, _, fr2, lo2, _) => si_wi w1 (.methodLink own k y) && si_wi w2 (.instanceMethod y) && si_wi w3 (.initialized y.cls) && si_wi w4 (.code y bs 1 none) && decide (y.name = "<init>") && si_np y 0 && Nat.ble (fr2 + 1) fr && Nat.ble (8 + (1 + 11) + lo2) lo
      | none => false
    | _ => false
  | _ => true
def sj_rok (T : List sj_mi) (cl : List vw_C) (y : MethodName) (bs : ByteArray) (fr lo : Nat) (r : si_row) : Bool := match r with
  | (pc, i, len, xs, ci, cL, _) => decide (decode bs pc = .ok (i, len)) && Nat.beq len (sj_len i) && sj_iok T cl y.cls fr lo i xs ci cL
def sj_mok (T : List sj_mi) (cl : List vw_C) (m : sj_mi) : Bool := match m with
  | (y, bs, _, _, fr, lo, rows) => plainName y.cls && decide (y.name = "<init>") && rows.all (sj_rok T cl y bs fr lo)
def sj_rm (mc ms fr lo : Nat) : Room := { frames := fr, cells := mc, slots := ms, locals := lo }
def sj_B (D : va_G) (dA : Bool → ClassId) (cl : List vw_C) (sz : Nat) (cs : List sj_c) (H : Heap) : Prop := va_P D cl (sj_W dA sz cs) H ∧ H.size = sz + cs.length
def sj_KK (D : va_G) (dA : Bool → ClassId) (cl : List vw_C) (U : State) : Prop := va_K D cl [(dA false, .int), (dA true, .long)] U ∧ si_Nk U
def sj_Pc (D : va_G) (dA : Bool → ClassId) (cl : List vw_C) (sz this : Nat) (cs : List sj_c) : Array Value → State → Prop := va_Pc [.ref (sz + this)] (fun U => sj_B D dA cl sz cs U.heap ∧ sj_KK D dA cl U)
def sj_Qc (D : va_G) (dA : Bool → ClassId) (cl : List vw_C) (sz : Nat) (cs : List sj_c) : Array Value → State → Outcome → State → Prop := fun _ st oc t => oc = .returned none ∧ sj_B D dA cl sz cs t.heap ∧ va_F (fun q => sz ≤ q) st t
def sj_Met (l : Launch) (D : va_G) (dA : Bool → ClassId) (cl : List vw_C) (sz : Nat) (T : List sj_mi) (n : Nat) : Prop :=
  ∀ (m : Nat) (y : MethodName) (bs : ByteArray) (mc ms fr lo : Nat) (rows : List si_row), T[m]? = some (y, bs, mc, ms, fr, lo, rows) → ∀ (this : Nat) (cs cs2 : List sj_c), sj_run T n m this 0 ([], cs, 0, 0) = some cs2 →
    Met l y (Jvm.Cond.code y bs 1 none :: si_tb) (sj_rm mc ms fr lo) (sj_Pc D dA cl sz this cs) (sj_Qc D dA cl sz cs2) mc ms (si_fr sz)
theorem sj_blind {D : va_G} {dA : Bool → ClassId} {cl : List vw_C} {sz this : Nat} {cs : List sj_c} : FrameBlind (sj_Pc D dA cl sz this cs) := by
  intro a U g mk q
  obtain ⟨q0, q1, q2, q3⟩ := q
  exact ⟨q0, q1, va_K.moved (u := U) (U := U.calling g mk a) (Vm.Alike.refl U.vm) q2, si_Nk.same (u := U) rfl q3⟩
/-- a call of a constructor, goes on -/
theorem sj_goes {p : Program} {l : Launch} {e : Env} {R : Room} {s : State} {m : MethodId} {args : Array Value} {below : List Frame} {meth : Method} {c : Code} {H : Heap} {locs : List Loc} {cells slots mc ms : Nat} {Q : State → Prop} {pc : Nat} {ls : Array Slot} {rest st0 : List Value} {H0 : Heap} {D : va_G} {dA : Bool → ClassId} {cl : List vw_C} {sz : Nat} {cs : List sj_c} {a : Array Value}
    (hr : va_Run p l e R s m args below meth c H locs cells slots mc ms (F0 m pc ls st0) rest (sj_Qc D dA cl sz cs a) (si_fr sz)) (hS : va_S (fun q => sz ≤ q) H0 H locs)
    (kk : ∀ (H1 : Heap) (locs1 : List Loc), sj_B D dA cl sz cs H1 → va_S (fun q => sz ≤ q) H0 H1 locs1 → W p l e R s m args below meth c H1 locs1 (cells + mc) (slots + ms) Q (F0 m (pc + 3) ls rest)) : W p l e R s m args below meth c H locs cells slots Q (F0 m pc ls st0) := by
  intro T hT X
  obtain ⟨v, st₀, t, T', L, h0, X', hL, e1, e2, ⟨hv, hp, hz, hk⟩, st⟩ := hr T hT X
  cases hv
  rw [h0] at hz hk
  obtain ⟨t2, a1, b1⟩ := kk T'.heap (locs ++ L) (by rw [e1]; exact hp)
    ⟨Nat.le_trans hS.1 (by rw [e1]; exact hz), fun q h1 h2 => by rw [e1, hk q (Nat.lt_of_lt_of_le h1 hS.1) h2]; exact hS.2.1 q h1 h2, fun q hq => by
      rcases List.mem_append.mp hq with h | h
      · exact hS.2.2 q h
      · exact hL q h⟩ T' rfl X'
  exact ⟨t2, st t2 a1, b1⟩
/-- what is asked of the constructors -/
def sj_ok (T : List sj_mi) (cl : List vw_C) : Prop := (∀ mi ∈ T, sj_mok T cl mi = true) ∧ si_clok cl ∧ si_good
section CSIM
variable {p : Program} {l : Launch} {e : Env} {s : State} {m : MethodId} {args : Array Value} {below : List Frame} {meth : Method} {c : Code} {D : va_G} {dA : Bool → ClassId} {cl : List vw_C} {sz : Nat} {T : List sj_mi} {R : Room} {Q : State → Prop} {bs : ByteArray} {own : String} {H : Heap} {locs : List Loc} {ls : Array Slot} {H0 : Heap}
set_option maxHeartbeats 4000000 in
theorem sj_step (hcl : si_clok cl) (hx : p.tables.exec = Jvm.exec) (hb : c.code = bs) (hml : c.maxLocals = 1) (hown : s.vm.findClass own = some m.cls) (hts : ∀ w ∈ si_tb, w.before args s = true) (hK : va_K D cl [(dA false, .int), (dA true, .long)] s) (hin2 : meth.name = "<init>")
    {mc ms this pc len fr lo : Nat} {i : Instr} {xs : List Nat} {ci : Int32} {cL : Int64} {st : List Value} {cs : List sj_c} {nc ns : Nat} {S2 : sj_S} (hR : R.cells = mc ∧ R.slots = ms ∧ fr ≤ R.frames ∧ lo ≤ R.locals)
    (hd : decode bs pc = .ok (i, len)) (hlen : len = sj_len i) (hok : sj_iok T cl own fr lo i xs ci cL = true) (hB : sj_B D dA cl sz cs H) (hS : va_S (fun q => sz ≤ q) H0 H locs) (hl : lv_has ls 1 [(0, .ref (sz + this))])
    (h : sj_ins mc ms this i xs ci cL (st, cs, nc, ns) = some S2)
    (hk : ∀ (H' : Heap) (locs' : List Loc), sj_B D dA cl sz S2.2.1 H' → va_S (fun q => sz ≤ q) H0 H' locs' → W p l e R s m args below meth c H' locs' S2.2.2.1 S2.2.2.2 Q (F0 m (pc + len) ls (S2.1.map (si_v sz)))) :
    W p l e R s m args below meth c H locs nc ns Q (F0 m pc ls (st.map (si_v sz))) := by
  subst hlen
  obtain ⟨hP, hsz⟩ := hB
  have hD := sj_W_D dA sz cs
  obtain ⟨hRc, hRs, hRf, hRl⟩ := hR
  cases i with
  | aload_n k =>
    simp only [sj_ins] at h
    split at h
    · rename_i hk0
      cases h
      exact lv_aload_n hx hb hd hk0 (lv_at hl 0 rfl) (hk H locs ⟨hP, hsz⟩ hS)
    · cases h
  | dup =>
    simp only [sj_ins] at h
    split at h
    · cases h
      exact lv_dup hx hb hd rfl (hk H locs ⟨hP, hsz⟩ hS)
    · cases h
  | iconst n => cases h; exact lv_iconst hx hb hd (of_decide_eq_true hok) (hk H locs ⟨hP, hsz⟩ hS)
  | bipush n => cases h; exact lv_bipush hx hb hd (of_decide_eq_true hok) (hk H locs ⟨hP, hsz⟩ hS)
  | sipush n => cases h; exact lv_sipush hx hb hd (of_decide_eq_true hok) (hk H locs ⟨hP, hsz⟩ hS)
  | lconst n => cases h; exact lv_lconst hx hb hd (of_decide_eq_true hok) (hk H locs ⟨hP, hsz⟩ hS)
  | new k =>
    simp only [sj_ins] at h
    split at h
    · rename_i ct w1 w2 w3 fc
      split at h
      · rename_i hroom
        rw [Bool.and_eq_true] at hroom
        have r1 := Nat.le_of_ble_eq_true hroom.1
        have r2 := Nat.le_of_ble_eq_true hroom.2
        cases h
        simp only [sj_iok] at hok
        split at hok
        · rename_i C F N hct
          simp only [Bool.and_eq_true] at hok
          obtain ⟨⟨⟨⟨q0, q1⟩, q2⟩, q3⟩, q4⟩ := hok
          have e0 : N = fc.length := Nat.eq_of_beq_eq_true q0
          subst e0
          obtain ⟨hin, ⟨ty0, hty0⟩, hnm⟩ := hcl ct C F fc.length hct
          refine sj_new hx hb hts hin ty0 hty0 hown (hts _ (si_wi_mem q1)) (hts _ (si_wi_mem q2)) (hts _ (si_wi_mem q3)) hK hP hS hct (fs := (fc.map sj_df).map (si_v sz)) (fun j hj => ?_) (by rw [hRc]; exact r1) (by rw [hRs]; exact r2) hd (fun H1 z1 hP1 hS1 => ?_)
          · have q5 := List.all_eq_true.mp q4 j (List.mem_range.mpr hj)
            rw [hty0 j hj] at q5
            dsimp only at q5
            rw [of_decide_eq_true q5, sj_dfv]
            rfl
          · have hh := hk H1 locs ⟨by rw [hsz] at hP1; rw [← sj_W_app]; exact hP1, by rw [z1, hsz, List.length_append]; rfl⟩ hS1
            rw [hsz]
            exact hh
        · cases hok
      · cases h
    · cases h
  | newarray at_ =>
    simp only [sj_ins] at h
    split at h
    · rename_i n r b w
      split at h
      · rename_i hroom
        simp only [Bool.and_eq_true] at hroom
        obtain ⟨⟨⟨r1, r2⟩, r3⟩, r4⟩ := hroom
        have e1 := Nat.le_of_ble_eq_true r1
        have e2 := Nat.le_of_ble_eq_true r2
        have e3 : ¬ n < 0 := Int32.not_lt.mpr (of_decide_eq_true r3)
        have e4 := Nat.le_of_ble_eq_true r4
        simp only [sj_iok] at hok
        split at h
        · cases h
          simp only [Bool.and_eq_true] at hok
          refine sj_newa hx hb (by rw [of_decide_eq_true hok.1]; exact hts _ (si_wi_mem hok.2)) (of_decide_eq_true hok.1) (cA := dA false) (hK.2 0 _ rfl).2 hP hD hS (a0 := (n.toNatClampNeg, .inl (fun _ => 0))) (fun _ => rfl) e3 rfl (Nat.le_trans (Nat.mul_le_mul_left _ (by decide)) e4) (by rw [hRc]; exact e1) (by rw [hRs]; exact e2) hd (fun H1 z1 hP1 hS1 => ?_)
          have hh := hk H1 locs ⟨by rw [hsz] at hP1; rw [← sj_W_app]; exact hP1, by rw [z1, hsz, List.length_append]; rfl⟩ hS1
          rw [hsz]
          exact hh
        · cases h
          simp only [Bool.and_eq_true] at hok
          refine sj_newa hx hb (by rw [of_decide_eq_true hok.1]; exact hts _ (si_wi_mem hok.2)) (of_decide_eq_true hok.1) (cA := dA true) (hK.2 1 _ rfl).2 hP hD hS (a0 := (n.toNatClampNeg, .inr (.inl (fun _ => 0)))) (fun _ => rfl) e3 rfl (Nat.le_trans (Nat.mul_le_mul_left _ (by decide)) e4) (by rw [hRc]; exact e1) (by rw [hRs]; exact e2) hd (fun H1 z1 hP1 hS1 => ?_)
          have hh := hk H1 locs ⟨by rw [hsz] at hP1; rw [← sj_W_app]; exact hP1, by rw [z1, hsz, List.length_append]; rfl⟩ hS1
          rw [hsz]
          exact hh
        · cases h
      · cases h
    · cases h
  | putfield k =>
    simp only [sj_ins] at h
    split at h
    · rename_i v q r ct j w fc
      split at h
      · rename_i ct2 vs hq
        split at h
        · rename_i hb2
          simp only [Bool.and_eq_true] at hb2
          obtain ⟨⟨b1, b2⟩, b3⟩ := hb2
          have ect : ct2 = ct := Nat.eq_of_beq_eq_true b1
          subst ect
          have hjl : j < vs.length := Nat.le_of_ble_eq_true b3
          cases h
          simp only [sj_iok] at hok
          split at hok
          · rename_i C F N hct
            simp only [Bool.and_eq_true] at hok
            obtain ⟨⟨⟨q0, q1⟩, q2⟩, q3⟩ := hok
            have hjN : j < N := Nat.le_of_ble_eq_true q0
            obtain ⟨hin, ⟨ty0, hty0⟩, hnm⟩ := hcl ct2 C F N hct
            have hty := hty0 j hjN
            rw [hty] at q2
            have hfit : narrow (ty0 j) (si_v sz v) = si_v sz v ∧ fits (ty0 j) (si_v sz v) = true := sj_fits b2 q2
            have hcell : (sj_W dA sz cs)[q]? = some (sz + q, .inr (ct2, vs.map (si_v sz))) := sj_W_at hq
            have hset : ∀ H', va_P D cl ((sj_W dA sz cs).set q (sz + q, .inr (ct2, (vs.map (si_v sz)).set j (si_v sz v)))) H' → va_P D cl (sj_W dA sz (cs.set q (.inl (ct2, vs.set j v)))) H' := by
              intro H' hP'
              rw [← List.map_set] at hP'
              rw [← sj_W_set (List.getElem?_eq_some_iff.mp hq).1]
              exact hP'
            have hfin : (F j).2.2.2 = false ∨ ((F j).2.2.2 = true ∧ meth.name = "<init>" ∧ (F j).1 = own) := by
              cases hf : (F j).2.2.2 with
              | false => exact Or.inl rfl
              | true =>
                rw [hf] at q3
                exact Or.inr ⟨rfl, hin2, of_decide_eq_true (by simpa using q3)⟩
            exact sj_put hx hb hts hin ty0 hty0 hnm hown hK hP hD hS q hcell hct j hjN (hts _ (si_wi_mem q1)) (fun _ h9 => h9) hfin hty hfit.1 hfit.2 (by simp [hjl]) hd (fun H' locs' hz hP' hS' => hk H' locs' ⟨hset H' hP', by rw [hz, hsz, List.length_set]⟩ hS')
          · cases hok
        · cases h
      · cases h
    · cases h
  | invokespecial k =>
    simp only [sj_ins] at h
    split at h
    · rename_i q r w1 w2 w3
      split at h
      · rename_i hcat
        cases h
        simp only [sj_iok, Bool.and_eq_true] at hok
        obtain ⟨⟨⟨⟨q1, q2⟩, q3⟩, q4⟩, q5⟩ := hok
        have e4 : 1 ≤ fr := Nat.le_of_ble_eq_true q4
        have e5 : 20 ≤ lo := Nat.le_of_ble_eq_true q5
        have e6 : si_cat r ≤ 8 := Nat.le_of_ble_eq_true hcat
        have e7 := lv_room (m := m) (pc := pc) (ls := ls) (rest := (Value.ref q :: r).map (si_v sz)) (st := r.map (si_v sz)) (by rw [si_catm]; exact e6)
        refine W.objInit hx hb hown (hts _ (si_wi_mem q1)) (hts _ (si_wi_mem q2)) (hts _ (si_wi_mem q3)) rfl (by rw [hml]; exact hl.1) rfl hd (Nat.le_trans e4 hRf) (by omega) ?_
        exact hk H locs ⟨hP, hsz⟩ hS
      · cases h
    · cases h
  | _ => cases h
end CSIM
set_option maxHeartbeats 4000000 in
/-- THE THEOREM for constructors -/
theorem sj_sim {T : List sj_mi} {cl : List vw_C} (hT : sj_ok T cl) (l : Launch) (D : va_G) (dA : Bool → ClassId) (sz : Nat) : ∀ n, sj_Met l D dA cl sz T n := by
  have body : ∀ n, (∀ n', n' < n → sj_Met l D dA cl sz T n') → ∀ (m : Nat) (y : MethodName) (bs : ByteArray) (mc ms fr lo : Nat) (rows : List si_row), T[m]? = some (y, bs, mc, ms, fr, lo, rows) →
      ∀ (p : Program) (e : Env) (s : State) (mid : MethodId) (args : Array Value) (below : List Frame) (meth : Method) (c : Code), p.tables.exec = Jvm.exec → c.code = bs → c.maxLocals = 1 → s.vm.findClass y.cls = some mid.cls → (∀ w ∈ si_tb, w.before args s = true) → sj_KK D dA cl s → meth.name = "<init>" → meth.sig.returnType = none → meth.locks = false →
      ∀ (this pc : Nat) (st : List Value) (cs cs2 : List sj_c) (nc ns : Nat) (H : Heap) (locs : List Loc) (ls : Array Slot), sj_run T n m this pc (st, cs, nc, ns) = some cs2 → sj_B D dA cl sz cs H → va_S (fun q => sz ≤ q) s.heap H locs → lv_has ls 1 [(0, .ref (sz + this))] →
      W p l e (sj_rm mc ms fr lo) s mid args below meth c H locs nc ns (MQ below (sj_Qc D dA cl sz cs2) args s mc ms (si_fr sz)) (F0 mid pc ls (st.map (si_v sz))) := by
    intro n
    induction n with
    | zero =>
      intro hM m y bs mc ms fr lo rows hm p e s mid args below meth c hx hb hml hown hts hKK hin2 hr hlocks this pc st cs cs2 nc ns H locs ls h
      cases h
    | succ n ih =>
      intro hM m y bs mc ms fr lo rows hm p e s mid args below meth c hx hb hml hown hts hKK hin2 hr hlocks this pc st cs cs2 nc ns H locs ls h hB hS hl
      have hMn := hM n (Nat.lt_succ_self n)
      have ihn := ih (fun n' hn' => hM n' (Nat.lt_succ_of_lt hn')) m y bs mc ms fr lo rows hm p e s mid args below meth c hx hb hml hown hts hKK hin2 hr hlocks
      unfold sj_run at h
      rw [hm] at h
      dsimp only at h
      split at h
      · cases h
      · rename_i pc2 i len xs ci cL dead hrow
        obtain ⟨hmem, hpc⟩ := si_get_row hrow
        dsimp only at hpc
        subst hpc
        have hmok := hT.1 _ (List.mem_of_getElem? hm)
        simp only [sj_mok, Bool.and_eq_true] at hmok
        have hrok := List.all_eq_true.mp hmok.2 _ hmem
        simp only [sj_rok, Bool.and_eq_true] at hrok
        obtain ⟨⟨hd0, hlen0⟩, hok⟩ := hrok
        have hd := of_decide_eq_true hd0
        have hlen := Nat.eq_of_beq_eq_true hlen0
        have plain : (match sj_ins mc ms this i xs ci cL (st, cs, nc, ns) with
          | some S2 => sj_run T n m this (pc2 + len) S2
          | none => none) = some cs2 → W p l e (sj_rm mc ms fr lo) s mid args below meth c H locs nc ns (MQ below (sj_Qc D dA cl sz cs2) args s mc ms (si_fr sz)) (F0 mid pc2 ls (st.map (si_v sz))) := by
          intro h
          split at h
          · rename_i S2 hS2
            refine sj_step (T := T) hT.2.1 hx hb hml hown hts hKK.1 hin2 (R := sj_rm mc ms fr lo) ⟨rfl, rfl, Nat.le_refl _, Nat.le_refl _⟩ hd hlen hok hB hS hl hS2 (fun H' locs' hB' hS' => ?_)
            obtain ⟨st', cs', nc', ns'⟩ := S2
            exact ihn this _ st' cs' cs2 nc' ns' H' locs' ls h hB' hS' hl
          · cases h
        split at h
        · split at h
          · rename_i hS0
            cases hS0
            split at h
            · rename_i hroom
              rw [Bool.and_eq_true] at hroom
              have r1 := Nat.le_of_ble_eq_true hroom.1
              have r2 := Nat.le_of_ble_eq_true hroom.2
              cases h
              refine W.widen (k := mc) (n := ms) r1 r2 ?_
              exact W.vret hx hb hr (fun t ht hW => ⟨rfl, by rw [ht]; exact hB, hS.F ht⟩) hS.2.2 (by rw [hd, hlen]; rfl) hlocks
            · cases h
          · cases h
        · rename_i k
          split at h
          · rename_i c2 w1 w2 w3 w4
            split at h
            · rename_i q r cs0 nc0 ns0 y2 bs2 mc2 ms2 fr2 lo2 rows2 hS0 hc2
              cases hS0
              split at h
              · rename_i hroom
                simp only [Bool.and_eq_true] at hroom
                obtain ⟨⟨r1, r2⟩, r3⟩ := hroom
                have e1 := Nat.le_of_ble_eq_true r1
                have e2 := Nat.le_of_ble_eq_true r2
                have e3 : si_cat r ≤ 8 := Nat.le_of_ble_eq_true r3
                split at h
                · rename_i cs3 hrun
                  simp only [sj_iok, hc2, Bool.and_eq_true] at hok
                  obtain ⟨⟨⟨⟨⟨⟨⟨q1, q2⟩, q3⟩, q4⟩, q5⟩, q6⟩, q7⟩, q8⟩ := hok
                  have f7 : fr2 + 1 ≤ fr := Nat.le_of_ble_eq_true q7
                  have f8 : 8 + (1 + 11) + lo2 ≤ lo := Nat.le_of_ble_eq_true q8
                  have hMet := hMn c2 y2 bs2 mc2 ms2 fr2 lo2 rows2 hc2 q _ _ hrun
                  have hcw : Jvm.Cond.code y2 bs2 1 none ∈ si_tb := si_wi_mem q4
                  refine sj_goes (va_runI (As := []) ⟨hx, hb, hml, hown, hts⟩ hMet ⟨callB_of 0 hts (si_goodw hT.2.2 hcw) rfl rfl rfl (hts _ (si_wi_mem q3)) (hts _ (si_wi_mem q1)) (si_npw q6) ⟨f7, f8⟩, of_decide_eq_true q5, hts _ (si_wi_mem q2)⟩ ⟨sj_blind, fun U hU hW => ⟨rfl, by rw [hU]; exact hB, va_K.moved hW.alike hKK.1, hKK.2.warm hW⟩⟩ rfl rfl hl.1 rfl (lv_room (m := mid) (pc := pc2) (ls := ls) (rest := []) (st := r.map (si_v sz)) (by rw [si_catm]; exact e3)) (by rw [hd, hlen]; rfl) ⟨e1, e2⟩) hS (fun H1 locs1 hB1 hS1 => ?_)
                  have hh := ihn this _ r cs3 cs2 _ _ H1 locs1 ls h hB1 hS1 hl
                  rw [hlen] at hh
                  exact hh
                · cases h
              · cases h
            · cases h
          · exact plain h
        · exact plain h
  intro n
  induction n using Nat.strongRecOn with
  | _ n ihM =>
    intro m y bs mc ms fr lo rows hm this cs cs2 h
    have hmok := hT.1 _ (List.mem_of_getElem? hm)
    simp only [sj_mok, Bool.and_eq_true] at hmok
    refine Met.ofW (cc := bs) (maxL := 1) (ret := none) hmok.1.1 rfl ?_
    intro p e s mid args below meth c s₁ B hml hv
    obtain ⟨rfl, hB, hKK⟩ := hv
    have hts := atoms_spec (ws := Jvm.Cond.code y bs 1 none :: si_tb) B.pre
    have hl := lv_entry [.ref (sz + this)] (n := 1) (Nat.le_of_ble_eq_true rfl)
    rw [lg_entry_eq]
    generalize (lg_sl [.ref (sz + this)] ++ List.replicate (1 - (lg_sl [.ref (sz + this)]).length) Slot.unset).toArray = ls at hl ⊢
    have hnm : meth.name = "<init>" := (name_of_methodNamed B.named B.method).1.trans (of_decide_eq_true hmok.1.2)
    exact body n ihM m y bs mc ms fr lo rows hm p e s mid _ below meth c B.exec B.bytes hml (findClass_of_methodNamed B.named) (fun w hw => hts w (List.mem_cons_of_mem _ hw)) hKK hnm B.returns B.notSynchronized this 0 [] cs cs2 0 0 s.heap [] ls h hB va_S.rf hl
end
section
/-! printed by gen5.py: the constructors, as rows -/
def wX3_init : List si_row := [(0, .aload_n 0, 1, [], 0, 0, []), (1, .invokespecial 3, 3, [119, 112, 113], 0, 0, []), (4, .aload_n 0, 1, [], 0, 0, []), (5, .bipush (60), 2, [], 60, 0, []), (7, .newarray .int, 2, [0, 127], 0, 0, []), (9, .putfield 11, 3, [3, 0, 120, 3], 0, 0, []), (12, .aload_n 0, 1, [], 0, 0, []), (13, .iconst (0), 1, [], 0, 0, []), (14, .putfield 15, 3, [3, 1, 121, 0], 0, 0, []), (17, .return_, 1, [], 0, 0, [])]
def iX3_init : sj_mi := (yX3_init, cX3_init, 1, 60, 1, 20, wX3_init)
def wX2_init : List si_row := [(0, .aload_n 0, 1, [], 0, 0, []), (1, .invokespecial 3, 3, [133, 112, 113], 0, 0, []), (4, .aload_n 0, 1, [], 0, 0, []), (5, .bipush (60), 2, [], 60, 0, []), (7, .newarray .long, 2, [1, 144], 0, 0, []), (9, .putfield 11, 3, [2, 0, 134, 3], 0, 0, []), (12, .aload_n 0, 1, [], 0, 0, []), (13, .iconst (0), 1, [], 0, 0, []), (14, .putfield 15, 3, [2, 1, 135, 0], 0, 0, []), (17, .aload_n 0, 1, [], 0, 0, []), (18, .iconst (0), 1, [], 0, 0, []), (19, .putfield 19, 3, [2, 2, 136, 2], 0, 0, []), (22, .return_, 1, [], 0, 0, [])]
def iX2_init : sj_mi := (yX2_init, cX2_init, 1, 60, 1, 20, wX2_init)
def wX1_init : List si_row := [(0, .aload_n 0, 1, [], 0, 0, []), (1, .invokespecial 3, 3, [150, 112, 113], 0, 0, []), (4, .aload_n 0, 1, [], 0, 0, []), (5, .bipush (16), 2, [], 16, 0, []), (7, .newarray .int, 2, [0, 127], 0, 0, []), (9, .putfield 9, 3, [1, 0, 151, 3], 0, 0, []), (12, .return_, 1, [], 0, 0, [])]
def iX1_init : sj_mi := (yX1_init, cX1_init, 1, 16, 1, 20, wX1_init)
def wX0_init : List si_row := [(0, .aload_n 0, 1, [], 0, 0, []), (1, .invokespecial 3, 3, [160, 112, 113], 0, 0, []), (4, .aload_n 0, 1, [], 0, 0, []), (5, .bipush (16), 2, [], 16, 0, []), (7, .newarray .int, 2, [0, 127], 0, 0, []), (9, .putfield 9, 3, [0, 0, 161, 3], 0, 0, []), (12, .aload_n 0, 1, [], 0, 0, []), (13, .bipush (16), 2, [], 16, 0, []), (15, .newarray .int, 2, [0, 127], 0, 0, []), (17, .putfield 15, 3, [0, 1, 162, 3], 0, 0, []), (20, .aload_n 0, 1, [], 0, 0, []), (21, .iconst (0), 1, [], 0, 0, []), (22, .putfield 18, 3, [0, 2, 163, 0], 0, 0, []), (25, .return_, 1, [], 0, 0, [])]
def iX0_init : sj_mi := (yX0_init, cX0_init, 2, 32, 1, 20, wX0_init)
def wX4_init : List si_row := [(0, .aload_n 0, 1, [], 0, 0, []), (1, .invokespecial 5, 3, [176, 112, 113], 0, 0, []), (4, .aload_n 0, 1, [], 0, 0, []), (5, .bipush (10), 2, [], 10, 0, []), (7, .newarray .int, 2, [0, 127], 0, 0, []), (9, .putfield 11, 3, [4, 0, 177, 3], 0, 0, []), (12, .aload_n 0, 1, [], 0, 0, []), (13, .iconst (0), 1, [], 0, 0, []), (14, .putfield 15, 3, [4, 1, 178, 0], 0, 0, []), (17, .aload_n 0, 1, [], 0, 0, []), (18, .sipush (176), 3, [], 176, 0, []), (21, .newarray .int, 2, [0, 127], 0, 0, []), (23, .putfield 19, 3, [4, 2, 179, 3], 0, 0, []), (26, .aload_n 0, 1, [], 0, 0, []), (27, .sipush (1936), 3, [], 1936, 0, []), (30, .newarray .long, 2, [1, 144], 0, 0, []), (32, .putfield 22, 3, [4, 3, 180, 3], 0, 0, []), (35, .aload_n 0, 1, [], 0, 0, []), (36, .bipush (11), 2, [], 11, 0, []), (38, .newarray .long, 2, [1, 144], 0, 0, []), (40, .putfield 26, 3, [4, 4, 181, 3], 0, 0, []), (43, .aload_n 0, 1, [], 0, 0, []), (44, .bipush (16), 2, [], 16, 0, []), (46, .newarray .long, 2, [1, 144], 0, 0, []), (48, .putfield 29, 3, [4, 5, 182, 3], 0, 0, []), (51, .aload_n 0, 1, [], 0, 0, []), (52, .bipush (16), 2, [], 16, 0, []), (54, .newarray .long, 2, [1, 144], 0, 0, []), (56, .putfield 32, 3, [4, 6, 183, 3], 0, 0, []), (59, .aload_n 0, 1, [], 0, 0, []), (60, .bipush (16), 2, [], 16, 0, []), (62, .newarray .long, 2, [1, 144], 0, 0, []), (64, .putfield 35, 3, [4, 7, 184, 3], 0, 0, []), (67, .return_, 1, [], 0, 0, [])]
def iX4_init : sj_mi := (yX4_init, cX4_init, 7, 2181, 1, 20, wX4_init)
def wX6_init : List si_row := [(0, .aload_n 0, 1, [], 0, 0, []), (1, .invokespecial 3, 3, [207, 112, 113], 0, 0, []), (4, .aload_n 0, 1, [], 0, 0, []), (5, .bipush (16), 2, [], 16, 0, []), (7, .newarray .long, 2, [1, 144], 0, 0, []), (9, .putfield 9, 3, [5, 0, 208, 3], 0, 0, []), (12, .aload_n 0, 1, [], 0, 0, []), (13, .bipush (16), 2, [], 16, 0, []), (15, .newarray .long, 2, [1, 144], 0, 0, []), (17, .putfield 15, 3, [5, 1, 209, 3], 0, 0, []), (20, .aload_n 0, 1, [], 0, 0, []), (21, .bipush (16), 2, [], 16, 0, []), (23, .newarray .long, 2, [1, 144], 0, 0, []), (25, .putfield 18, 3, [5, 2, 210, 3], 0, 0, []), (28, .aload_n 0, 1, [], 0, 0, []), (29, .lconst 0, 1, [], 0, 0, []), (30, .putfield 21, 3, [5, 3, 211, 1], 0, 0, []), (33, .aload_n 0, 1, [], 0, 0, []), (34, .lconst 0, 1, [], 0, 0, []), (35, .putfield 25, 3, [5, 4, 212, 1], 0, 0, []), (38, .aload_n 0, 1, [], 0, 0, []), (39, .lconst 0, 1, [], 0, 0, []), (40, .putfield 28, 3, [5, 5, 213, 1], 0, 0, []), (43, .return_, 1, [], 0, 0, [])]
def iX6_init : sj_mi := (yX6_init, cX6_init, 3, 48, 1, 20, wX6_init)
def wX7_init : List si_row := [(0, .aload_n 0, 1, [], 0, 0, []), (1, .invokespecial 5, 3, [232, 112, 113], 0, 0, []), (4, .aload_n 0, 1, [], 0, 0, []), (5, .new 11, 3, [2, 233, 129, 93, 3, 0, 2], 0, 0, []), (8, .dup, 1, [], 0, 0, []), (9, .invokespecial 13, 3, [1, 234, 131, 93, 132], 0, 0, []), (12, .putfield 14, 3, [6, 0, 235, 3], 0, 0, []), (15, .aload_n 0, 1, [], 0, 0, []), (16, .new 11, 3, [2, 233, 129, 93, 3, 0, 2], 0, 0, []), (19, .dup, 1, [], 0, 0, []), (20, .invokespecial 13, 3, [1, 234, 131, 93, 132], 0, 0, []), (23, .putfield 20, 3, [6, 1, 236, 3], 0, 0, []), (26, .return_, 1, [], 0, 0, [])]
def iX7_init : sj_mi := (yX7_init, cX7_init, 4, 126, 2, 40, wX7_init)
def wX8_init : List si_row := [(0, .aload_n 0, 1, [], 0, 0, []), (1, .invokespecial 3, 3, [111, 112, 113], 0, 0, []), (4, .aload_n 0, 1, [], 0, 0, []), (5, .new 9, 3, [3, 114, 115, 92, 3, 0], 0, 0, []), (8, .dup, 1, [], 0, 0, []), (9, .invokespecial 11, 3, [0, 116, 117, 92, 118], 0, 0, []), (12, .putfield 12, 3, [7, 0, 242, 3], 0, 0, []), (15, .aload_n 0, 1, [], 0, 0, []), (16, .new 16, 3, [2, 128, 129, 93, 3, 0, 2], 0, 0, []), (19, .dup, 1, [], 0, 0, []), (20, .invokespecial 18, 3, [1, 130, 131, 93, 132], 0, 0, []), (23, .putfield 19, 3, [7, 1, 243, 3], 0, 0, []), (26, .aload_n 0, 1, [], 0, 0, []), (27, .new 16, 3, [2, 128, 129, 93, 3, 0, 2], 0, 0, []), (30, .dup, 1, [], 0, 0, []), (31, .invokespecial 18, 3, [1, 130, 131, 93, 132], 0, 0, []), (34, .putfield 23, 3, [7, 2, 244, 3], 0, 0, []), (37, .aload_n 0, 1, [], 0, 0, []), (38, .iconst (0), 1, [], 0, 0, []), (39, .putfield 26, 3, [7, 3, 245, 2], 0, 0, []), (42, .aload_n 0, 1, [], 0, 0, []), (43, .new 30, 3, [1, 145, 146, 94, 3], 0, 0, []), (46, .dup, 1, [], 0, 0, []), (47, .invokespecial 32, 3, [2, 147, 148, 94, 149], 0, 0, []), (50, .putfield 33, 3, [7, 4, 246, 3], 0, 0, []), (53, .aload_n 0, 1, [], 0, 0, []), (54, .new 37, 3, [0, 155, 156, 95, 3, 3, 0], 0, 0, []), (57, .dup, 1, [], 0, 0, []), (58, .invokespecial 39, 3, [3, 157, 158, 95, 159], 0, 0, []), (61, .putfield 40, 3, [7, 5, 247, 3], 0, 0, []), (64, .aload_n 0, 1, [], 0, 0, []), (65, .new 44, 3, [4, 171, 172, 96, 3, 0, 3, 3, 3, 3, 3, 3], 0, 0, []), (68, .dup, 1, [], 0, 0, []), (69, .invokespecial 46, 3, [4, 173, 174, 96, 175], 0, 0, []), (72, .putfield 47, 3, [7, 6, 248, 3], 0, 0, []), (75, .aload_n 0, 1, [], 0, 0, []), (76, .new 51, 3, [5, 202, 203, 97, 3, 3, 3, 1, 1, 1], 0, 0, []), (79, .dup, 1, [], 0, 0, []), (80, .invokespecial 53, 3, [5, 204, 205, 97, 206], 0, 0, []), (83, .putfield 54, 3, [7, 7, 249, 3], 0, 0, []), (86, .aload_n 0, 1, [], 0, 0, []), (87, .new 58, 3, [6, 227, 228, 98, 3, 3], 0, 0, []), (90, .dup, 1, [], 0, 0, []), (91, .invokespecial 60, 3, [6, 229, 230, 98, 231], 0, 0, []), (94, .putfield 61, 3, [7, 8, 250, 3], 0, 0, []), (97, .return_, 1, [], 0, 0, [])]
def iX8_init : sj_mi := (yX8_init, cX8_init, 28, 2611, 3, 60, wX8_init)
def wX9_init : List si_row := [(0, .aload_n 0, 1, [], 0, 0, []), (1, .invokespecial 1, 3, [940, 112, 113], 0, 0, []), (4, .aload_n 0, 1, [], 0, 0, []), (5, .bipush (60), 2, [], 60, 0, []), (7, .newarray .long, 2, [1, 144], 0, 0, []), (9, .putfield 7, 3, [8, 0, 941, 3], 0, 0, []), (12, .aload_n 0, 1, [], 0, 0, []), (13, .bipush (60), 2, [], 60, 0, []), (15, .newarray .long, 2, [1, 144], 0, 0, []), (17, .putfield 13, 3, [8, 2, 943, 3], 0, 0, []), (20, .aload_n 0, 1, [], 0, 0, []), (21, .bipush (60), 2, [], 60, 0, []), (23, .newarray .int, 2, [0, 127], 0, 0, []), (25, .putfield 16, 3, [8, 6, 947, 3], 0, 0, []), (28, .aload_n 0, 1, [], 0, 0, []), (29, .bipush (60), 2, [], 60, 0, []), (31, .newarray .long, 2, [1, 144], 0, 0, []), (33, .putfield 20, 3, [8, 10, 951, 3], 0, 0, []), (36, .aload_n 0, 1, [], 0, 0, []), (37, .bipush (32), 2, [], 32, 0, []), (39, .newarray .int, 2, [0, 127], 0, 0, []), (41, .putfield 23, 3, [8, 13, 954, 3], 0, 0, []), (44, .aload_n 0, 1, [], 0, 0, []), (45, .bipush (10), 2, [], 10, 0, []), (47, .newarray .int, 2, [0, 127], 0, 0, []), (49, .putfield 26, 3, [8, 15, 956, 3], 0, 0, []), (52, .aload_n 0, 1, [], 0, 0, []), (53, .sipush (176), 3, [], 176, 0, []), (56, .newarray .int, 2, [0, 127], 0, 0, []), (58, .putfield 29, 3, [8, 17, 958, 3], 0, 0, []), (61, .aload_n 0, 1, [], 0, 0, []), (62, .sipush (1936), 3, [], 1936, 0, []), (65, .newarray .long, 2, [1, 144], 0, 0, []), (67, .putfield 32, 3, [8, 18, 959, 3], 0, 0, []), (70, .aload_n 0, 1, [], 0, 0, []), (71, .bipush (11), 2, [], 11, 0, []), (73, .newarray .long, 2, [1, 144], 0, 0, []), (75, .putfield 35, 3, [8, 19, 960, 3], 0, 0, []), (78, .aload_n 0, 1, [], 0, 0, []), (79, .bipush (11), 2, [], 11, 0, []), (81, .newarray .long, 2, [1, 144], 0, 0, []), (83, .putfield 38, 3, [8, 20, 961, 3], 0, 0, []), (86, .aload_n 0, 1, [], 0, 0, []), (87, .bipush (16), 2, [], 16, 0, []), (89, .newarray .int, 2, [0, 127], 0, 0, []), (91, .putfield 41, 3, [8, 21, 962, 3], 0, 0, []), (94, .aload_n 0, 1, [], 0, 0, []), (95, .bipush (16), 2, [], 16, 0, []), (97, .newarray .int, 2, [0, 127], 0, 0, []), (99, .putfield 44, 3, [8, 22, 963, 3], 0, 0, []), (102, .aload_n 0, 1, [], 0, 0, []), (103, .bipush (16), 2, [], 16, 0, []), (105, .newarray .int, 2, [0, 127], 0, 0, []), (107, .putfield 47, 3, [8, 23, 964, 3], 0, 0, []), (110, .aload_n 0, 1, [], 0, 0, []), (111, .bipush (16), 2, [], 16, 0, []), (113, .newarray .int, 2, [0, 127], 0, 0, []), (115, .putfield 50, 3, [8, 24, 965, 3], 0, 0, []), (118, .aload_n 0, 1, [], 0, 0, []), (119, .bipush (60), 2, [], 60, 0, []), (121, .newarray .long, 2, [1, 144], 0, 0, []), (123, .putfield 53, 3, [8, 25, 966, 3], 0, 0, []), (126, .return_, 1, [], 0, 0, [])]
def iX9_init : sj_mi := (yX9_init, cX9_init, 15, 2540, 1, 20, wX9_init)
def gT : List sj_mi := [iX3_init, iX2_init, iX1_init, iX0_init, iX4_init, iX6_init, iX7_init, iX8_init, iX9_init]
theorem kX3_init : sj_mok gT gcl iX3_init = true := by decide +kernel
theorem kX2_init : sj_mok gT gcl iX2_init = true := by decide +kernel
theorem kX1_init : sj_mok gT gcl iX1_init = true := by decide +kernel
theorem kX0_init : sj_mok gT gcl iX0_init = true := by decide +kernel
theorem kX4_init : sj_mok gT gcl iX4_init = true := by decide +kernel
theorem kX6_init : sj_mok gT gcl iX6_init = true := by decide +kernel
theorem kX7_init : sj_mok gT gcl iX7_init = true := by decide +kernel
theorem kX8_init : sj_mok gT gcl iX8_init = true := by decide +kernel
theorem kX9_init : sj_mok gT gcl iX9_init = true := by decide +kernel
theorem gTok : sj_ok gT gcl := ⟨List.forall_mem_cons.mpr ⟨kX3_init, List.forall_mem_cons.mpr ⟨kX2_init, List.forall_mem_cons.mpr ⟨kX1_init, List.forall_mem_cons.mpr ⟨kX0_init, List.forall_mem_cons.mpr ⟨kX4_init, List.forall_mem_cons.mpr ⟨kX6_init, List.forall_mem_cons.mpr ⟨kX7_init, List.forall_mem_cons.mpr ⟨kX8_init, List.forall_mem_cons.mpr ⟨kX9_init, fun _ h => absurd h List.not_mem_nil⟩⟩⟩⟩⟩⟩⟩⟩⟩, gclok, ggood⟩
def gc0 : List sj_c := [.inl (7, [.null, .null, .null, .int 0, .null, .null, .null, .null, .null])]
def gc1 : List sj_c := [.inl (7, [.ref 1, .ref 3, .ref 5, .int 0, .ref 7, .ref 9, .ref 12, .ref 20, .ref 24]), .inl (3, [.ref 2, .int 0]), .inr (false, 60), .inl (2, [.ref 4, .int 0, .int 0]), .inr (true, 60), .inl (2, [.ref 6, .int 0, .int 0]), .inr (true, 60), .inl (1, [.ref 8]), .inr (false, 16), .inl (0, [.ref 10, .ref 11, .int 0]), .inr (false, 16), .inr (false, 16), .inl (4, [.ref 13, .int 0, .ref 14, .ref 15, .ref 16, .ref 17, .ref 18, .ref 19]), .inr (false, 10), .inr (false, 176), .inr (true, 1936), .inr (true, 11), .inr (true, 16), .inr (true, 16), .inr (true, 16), .inl (5, [.ref 21, .ref 22, .ref 23, .long 0, .long 0, .long 0]), .inr (true, 16), .inr (true, 16), .inr (true, 16), .inl (6, [.ref 25, .ref 27]), .inl (2, [.ref 26, .int 0, .int 0]), .inr (true, 60), .inl (2, [.ref 28, .int 0, .int 0]), .inr (true, 60)]
def gc2 : List sj_c := [.inl (7, [.ref 1, .ref 3, .ref 5, .int 0, .ref 7, .ref 9, .ref 12, .ref 20, .ref 24]), .inl (3, [.ref 2, .int 0]), .inr (false, 60), .inl (2, [.ref 4, .int 0, .int 0]), .inr (true, 60), .inl (2, [.ref 6, .int 0, .int 0]), .inr (true, 60), .inl (1, [.ref 8]), .inr (false, 16), .inl (0, [.ref 10, .ref 11, .int 0]), .inr (false, 16), .inr (false, 16), .inl (4, [.ref 13, .int 0, .ref 14, .ref 15, .ref 16, .ref 17, .ref 18, .ref 19]), .inr (false, 10), .inr (false, 176), .inr (true, 1936), .inr (true, 11), .inr (true, 16), .inr (true, 16), .inr (true, 16), .inl (5, [.ref 21, .ref 22, .ref 23, .long 0, .long 0, .long 0]), .inr (true, 16), .inr (true, 16), .inr (true, 16), .inl (6, [.ref 25, .ref 27]), .inl (2, [.ref 26, .int 0, .int 0]), .inr (true, 60), .inl (2, [.ref 28, .int 0, .int 0]), .inr (true, 60), .inl (8, [.ref 30, .int 0, .ref 31, .int 0, .int 0, .int 0, .ref 32, .int 0, .long 0, .int 0, .ref 33, .int 0, .int 0, .ref 34, .int 0, .ref 35, .int 0, .ref 36, .ref 37, .ref 38, .ref 39, .ref 40, .ref 41, .ref 42, .ref 43, .ref 44, .int 0, .int 0, .long 0]), .inr (true, 60), .inr (true, 60), .inr (false, 60), .inr (true, 60), .inr (false, 32), .inr (false, 10), .inr (false, 176), .inr (true, 1936), .inr (true, 11), .inr (true, 11), .inr (false, 16), .inr (false, 16), .inr (false, 16), .inr (false, 16), .inr (true, 60)]
theorem gcr1 : sj_run gT 300 7 0 0 ([], gc0, 0, 0) = some gc1 := by decide +kernel
theorem gcr2 : sj_run gT 300 8 29 0 ([], gc1 ++ [.inl (8, [.null, .int 0, .null, .int 0, .int 0, .int 0, .null, .int 0, .long 0, .int 0, .null, .int 0, .int 0, .null, .int 0, .null, .int 0, .null, .null, .null, .null, .null, .null, .null, .null, .null, .int 0, .int 0, .long 0])], 0, 0) = some gc2 := by decide +kernel
def g0 : si_M := (fun _ _ => 0, fun _ _ => 0)
theorem gcW (dA : Bool → ClassId) (sz : Nat) : sj_W dA sz gc2 = si_W dA sz gsh g0 := rfl
end
section
/-! printed by gen5.py: the law -/
theorem dL_0 : decode code 0 = .ok (.new 7, 3) := by decide +kernel
theorem dL_3 : decode code 3 = .ok (.dup, 1) := by decide +kernel
theorem dL_4 : decode code 4 = .ok (.invokespecial 9, 3) := by decide +kernel
theorem dL_7 : decode code 7 = .ok (.astore_n 1, 1) := by decide +kernel
theorem dL_8 : decode code 8 = .ok (.new 10, 3) := by decide +kernel
theorem dL_11 : decode code 11 = .ok (.dup, 1) := by decide +kernel
theorem dL_12 : decode code 12 = .ok (.invokespecial 12, 3) := by decide +kernel
theorem dL_15 : decode code 15 = .ok (.astore_n 2, 1) := by decide +kernel
theorem dL_16 : decode code 16 = .ok (.iconst 0, 1) := by decide +kernel
theorem dL_17 : decode code 17 = .ok (.istore_n 3, 1) := by decide +kernel
theorem dL_18 : decode code 18 = .ok (.iload_n 3, 1) := by decide +kernel
theorem dL_19 : decode code 19 = .ok (.aload_n 0, 1) := by decide +kernel
theorem dL_20 : decode code 20 = .ok (.arraylength, 1) := by decide +kernel
theorem dL_21 : decode code 21 = .ok (.iconst 3, 1) := by decide +kernel
theorem dL_22 : decode code 22 = .ok (.isub, 1) := by decide +kernel
theorem dL_23 : decode code 23 = .ok (.if_icmp .gt 623, 3) := by decide +kernel
theorem dL_26 : decode code 26 = .ok (.aload_n 0, 1) := by decide +kernel
theorem dL_27 : decode code 27 = .ok (.iload_n 3, 1) := by decide +kernel
theorem dL_28 : decode code 28 = .ok (.iaload, 1) := by decide +kernel
theorem dL_29 : decode code 29 = .ok (.bipush 31, 2) := by decide +kernel
theorem dL_31 : decode code 31 = .ok (.iand, 1) := by decide +kernel
theorem dL_32 : decode code 32 = .ok (.tableswitch 608 0 29 #[136, 159, 172, 185, 198, 211, 225, 238, 271, 284, 297, 310, 323, 346, 369, 392, 405, 418, 431, 444, 457, 470, 483, 496, 509, 522, 535, 548, 571, 594], 136) := by decide +kernel
theorem dL_168 : decode code 168 = .ok (.aload_n 1, 1) := by decide +kernel
theorem dL_169 : decode code 169 = .ok (.aload_n 0, 1) := by decide +kernel
theorem dL_170 : decode code 170 = .ok (.iload_n 3, 1) := by decide +kernel
theorem dL_171 : decode code 171 = .ok (.iconst 1, 1) := by decide +kernel
theorem dL_172 : decode code 172 = .ok (.iadd, 1) := by decide +kernel
theorem dL_173 : decode code 173 = .ok (.iaload, 1) := by decide +kernel
theorem dL_174 : decode code 174 = .ok (.invokevirtual 13, 3) := by decide +kernel
theorem dL_177 : decode code 177 = .ok (.aload_n 2, 1) := by decide +kernel
theorem dL_178 : decode code 178 = .ok (.aload_n 0, 1) := by decide +kernel
theorem dL_179 : decode code 179 = .ok (.iload_n 3, 1) := by decide +kernel
theorem dL_180 : decode code 180 = .ok (.iconst 1, 1) := by decide +kernel
theorem dL_181 : decode code 181 = .ok (.iadd, 1) := by decide +kernel
theorem dL_182 : decode code 182 = .ok (.iaload, 1) := by decide +kernel
theorem dL_183 : decode code 183 = .ok (.invokevirtual 17, 3) := by decide +kernel
theorem dL_186 : decode code 186 = .ok (.if_icmp .eq 454, 3) := by decide +kernel
theorem dL_189 : decode code 189 = .ok (.iconst 0, 1) := by decide +kernel
theorem dL_190 : decode code 190 = .ok (.ireturn, 1) := by decide +kernel
theorem dL_191 : decode code 191 = .ok (.aload_n 1, 1) := by decide +kernel
theorem dL_192 : decode code 192 = .ok (.invokevirtual 18, 3) := by decide +kernel
theorem dL_195 : decode code 195 = .ok (.aload_n 2, 1) := by decide +kernel
theorem dL_196 : decode code 196 = .ok (.invokevirtual 22, 3) := by decide +kernel
theorem dL_199 : decode code 199 = .ok (.if_icmp .eq 441, 3) := by decide +kernel
theorem dL_202 : decode code 202 = .ok (.iconst 0, 1) := by decide +kernel
theorem dL_203 : decode code 203 = .ok (.ireturn, 1) := by decide +kernel
theorem dL_204 : decode code 204 = .ok (.aload_n 1, 1) := by decide +kernel
theorem dL_205 : decode code 205 = .ok (.invokevirtual 23, 3) := by decide +kernel
theorem dL_208 : decode code 208 = .ok (.aload_n 2, 1) := by decide +kernel
theorem dL_209 : decode code 209 = .ok (.invokevirtual 26, 3) := by decide +kernel
theorem dL_212 : decode code 212 = .ok (.if_icmp .eq 428, 3) := by decide +kernel
theorem dL_215 : decode code 215 = .ok (.iconst 0, 1) := by decide +kernel
theorem dL_216 : decode code 216 = .ok (.ireturn, 1) := by decide +kernel
theorem dL_217 : decode code 217 = .ok (.aload_n 1, 1) := by decide +kernel
theorem dL_218 : decode code 218 = .ok (.invokevirtual 27, 3) := by decide +kernel
theorem dL_221 : decode code 221 = .ok (.aload_n 2, 1) := by decide +kernel
theorem dL_222 : decode code 222 = .ok (.invokevirtual 30, 3) := by decide +kernel
theorem dL_225 : decode code 225 = .ok (.if_icmp .eq 415, 3) := by decide +kernel
theorem dL_228 : decode code 228 = .ok (.iconst 0, 1) := by decide +kernel
theorem dL_229 : decode code 229 = .ok (.ireturn, 1) := by decide +kernel
theorem dL_230 : decode code 230 = .ok (.aload_n 1, 1) := by decide +kernel
theorem dL_231 : decode code 231 = .ok (.invokevirtual 31, 3) := by decide +kernel
theorem dL_234 : decode code 234 = .ok (.aload_n 2, 1) := by decide +kernel
theorem dL_235 : decode code 235 = .ok (.invokevirtual 34, 3) := by decide +kernel
theorem dL_238 : decode code 238 = .ok (.if_icmp .eq 402, 3) := by decide +kernel
theorem dL_241 : decode code 241 = .ok (.iconst 0, 1) := by decide +kernel
theorem dL_242 : decode code 242 = .ok (.ireturn, 1) := by decide +kernel
theorem dL_243 : decode code 243 = .ok (.aload_n 1, 1) := by decide +kernel
theorem dL_244 : decode code 244 = .ok (.invokevirtual 35, 3) := by decide +kernel
theorem dL_247 : decode code 247 = .ok (.aload_n 2, 1) := by decide +kernel
theorem dL_248 : decode code 248 = .ok (.invokevirtual 39, 3) := by decide +kernel
theorem dL_251 : decode code 251 = .ok (.lcmp, 1) := by decide +kernel
theorem dL_252 : decode code 252 = .ok (.ifCond .eq 388, 3) := by decide +kernel
theorem dL_255 : decode code 255 = .ok (.iconst 0, 1) := by decide +kernel
theorem dL_256 : decode code 256 = .ok (.ireturn, 1) := by decide +kernel
theorem dL_257 : decode code 257 = .ok (.aload_n 1, 1) := by decide +kernel
theorem dL_258 : decode code 258 = .ok (.invokevirtual 40, 3) := by decide +kernel
theorem dL_261 : decode code 261 = .ok (.aload_n 2, 1) := by decide +kernel
theorem dL_262 : decode code 262 = .ok (.invokevirtual 43, 3) := by decide +kernel
theorem dL_265 : decode code 265 = .ok (.if_icmp .eq 375, 3) := by decide +kernel
theorem dL_268 : decode code 268 = .ok (.iconst 0, 1) := by decide +kernel
theorem dL_269 : decode code 269 = .ok (.ireturn, 1) := by decide +kernel
theorem dL_270 : decode code 270 = .ok (.aload_n 1, 1) := by decide +kernel
theorem dL_271 : decode code 271 = .ok (.aload_n 0, 1) := by decide +kernel
theorem dL_272 : decode code 272 = .ok (.iload_n 3, 1) := by decide +kernel
theorem dL_273 : decode code 273 = .ok (.iconst 1, 1) := by decide +kernel
theorem dL_274 : decode code 274 = .ok (.iadd, 1) := by decide +kernel
theorem dL_275 : decode code 275 = .ok (.iaload, 1) := by decide +kernel
theorem dL_276 : decode code 276 = .ok (.aload_n 0, 1) := by decide +kernel
theorem dL_277 : decode code 277 = .ok (.iload_n 3, 1) := by decide +kernel
theorem dL_278 : decode code 278 = .ok (.iconst 2, 1) := by decide +kernel
theorem dL_279 : decode code 279 = .ok (.iadd, 1) := by decide +kernel
theorem dL_280 : decode code 280 = .ok (.iaload, 1) := by decide +kernel
theorem dL_281 : decode code 281 = .ok (.invokevirtual 44, 3) := by decide +kernel
theorem dL_284 : decode code 284 = .ok (.aload_n 2, 1) := by decide +kernel
theorem dL_285 : decode code 285 = .ok (.aload_n 0, 1) := by decide +kernel
theorem dL_286 : decode code 286 = .ok (.iload_n 3, 1) := by decide +kernel
theorem dL_287 : decode code 287 = .ok (.iconst 1, 1) := by decide +kernel
theorem dL_288 : decode code 288 = .ok (.iadd, 1) := by decide +kernel
theorem dL_289 : decode code 289 = .ok (.iaload, 1) := by decide +kernel
theorem dL_290 : decode code 290 = .ok (.aload_n 0, 1) := by decide +kernel
theorem dL_291 : decode code 291 = .ok (.iload_n 3, 1) := by decide +kernel
theorem dL_292 : decode code 292 = .ok (.iconst 2, 1) := by decide +kernel
theorem dL_293 : decode code 293 = .ok (.iadd, 1) := by decide +kernel
theorem dL_294 : decode code 294 = .ok (.iaload, 1) := by decide +kernel
theorem dL_295 : decode code 295 = .ok (.invokevirtual 48, 3) := by decide +kernel
theorem dL_298 : decode code 298 = .ok (.if_icmp .eq 342, 3) := by decide +kernel
theorem dL_301 : decode code 301 = .ok (.iconst 0, 1) := by decide +kernel
theorem dL_302 : decode code 302 = .ok (.ireturn, 1) := by decide +kernel
theorem dL_303 : decode code 303 = .ok (.aload_n 1, 1) := by decide +kernel
theorem dL_304 : decode code 304 = .ok (.invokevirtual 49, 3) := by decide +kernel
theorem dL_307 : decode code 307 = .ok (.aload_n 2, 1) := by decide +kernel
theorem dL_308 : decode code 308 = .ok (.invokevirtual 52, 3) := by decide +kernel
theorem dL_311 : decode code 311 = .ok (.if_icmp .eq 329, 3) := by decide +kernel
theorem dL_314 : decode code 314 = .ok (.iconst 0, 1) := by decide +kernel
theorem dL_315 : decode code 315 = .ok (.ireturn, 1) := by decide +kernel
theorem dL_316 : decode code 316 = .ok (.aload_n 1, 1) := by decide +kernel
theorem dL_317 : decode code 317 = .ok (.invokevirtual 53, 3) := by decide +kernel
theorem dL_320 : decode code 320 = .ok (.aload_n 2, 1) := by decide +kernel
theorem dL_321 : decode code 321 = .ok (.invokevirtual 56, 3) := by decide +kernel
theorem dL_324 : decode code 324 = .ok (.if_icmp .eq 316, 3) := by decide +kernel
theorem dL_327 : decode code 327 = .ok (.iconst 0, 1) := by decide +kernel
theorem dL_328 : decode code 328 = .ok (.ireturn, 1) := by decide +kernel
theorem dL_329 : decode code 329 = .ok (.aload_n 1, 1) := by decide +kernel
theorem dL_330 : decode code 330 = .ok (.invokevirtual 57, 3) := by decide +kernel
theorem dL_333 : decode code 333 = .ok (.aload_n 2, 1) := by decide +kernel
theorem dL_334 : decode code 334 = .ok (.invokevirtual 60, 3) := by decide +kernel
theorem dL_337 : decode code 337 = .ok (.if_icmp .eq 303, 3) := by decide +kernel
theorem dL_340 : decode code 340 = .ok (.iconst 0, 1) := by decide +kernel
theorem dL_341 : decode code 341 = .ok (.ireturn, 1) := by decide +kernel
theorem dL_342 : decode code 342 = .ok (.aload_n 1, 1) := by decide +kernel
theorem dL_343 : decode code 343 = .ok (.invokevirtual 61, 3) := by decide +kernel
theorem dL_346 : decode code 346 = .ok (.aload_n 2, 1) := by decide +kernel
theorem dL_347 : decode code 347 = .ok (.invokevirtual 64, 3) := by decide +kernel
theorem dL_350 : decode code 350 = .ok (.if_icmp .eq 290, 3) := by decide +kernel
theorem dL_353 : decode code 353 = .ok (.iconst 0, 1) := by decide +kernel
theorem dL_354 : decode code 354 = .ok (.ireturn, 1) := by decide +kernel
theorem dL_355 : decode code 355 = .ok (.aload_n 1, 1) := by decide +kernel
theorem dL_356 : decode code 356 = .ok (.aload_n 0, 1) := by decide +kernel
theorem dL_357 : decode code 357 = .ok (.iload_n 3, 1) := by decide +kernel
theorem dL_358 : decode code 358 = .ok (.iconst 1, 1) := by decide +kernel
theorem dL_359 : decode code 359 = .ok (.iadd, 1) := by decide +kernel
theorem dL_360 : decode code 360 = .ok (.iaload, 1) := by decide +kernel
theorem dL_361 : decode code 361 = .ok (.invokevirtual 65, 3) := by decide +kernel
theorem dL_364 : decode code 364 = .ok (.aload_n 2, 1) := by decide +kernel
theorem dL_365 : decode code 365 = .ok (.aload_n 0, 1) := by decide +kernel
theorem dL_366 : decode code 366 = .ok (.iload_n 3, 1) := by decide +kernel
theorem dL_367 : decode code 367 = .ok (.iconst 1, 1) := by decide +kernel
theorem dL_368 : decode code 368 = .ok (.iadd, 1) := by decide +kernel
theorem dL_369 : decode code 369 = .ok (.iaload, 1) := by decide +kernel
theorem dL_370 : decode code 370 = .ok (.invokevirtual 68, 3) := by decide +kernel
theorem dL_373 : decode code 373 = .ok (.if_icmp .eq 267, 3) := by decide +kernel
theorem dL_376 : decode code 376 = .ok (.iconst 0, 1) := by decide +kernel
theorem dL_377 : decode code 377 = .ok (.ireturn, 1) := by decide +kernel
theorem dL_378 : decode code 378 = .ok (.aload_n 1, 1) := by decide +kernel
theorem dL_379 : decode code 379 = .ok (.aload_n 0, 1) := by decide +kernel
theorem dL_380 : decode code 380 = .ok (.iload_n 3, 1) := by decide +kernel
theorem dL_381 : decode code 381 = .ok (.iconst 1, 1) := by decide +kernel
theorem dL_382 : decode code 382 = .ok (.iadd, 1) := by decide +kernel
theorem dL_383 : decode code 383 = .ok (.iaload, 1) := by decide +kernel
theorem dL_384 : decode code 384 = .ok (.invokevirtual 69, 3) := by decide +kernel
theorem dL_387 : decode code 387 = .ok (.aload_n 2, 1) := by decide +kernel
theorem dL_388 : decode code 388 = .ok (.aload_n 0, 1) := by decide +kernel
theorem dL_389 : decode code 389 = .ok (.iload_n 3, 1) := by decide +kernel
theorem dL_390 : decode code 390 = .ok (.iconst 1, 1) := by decide +kernel
theorem dL_391 : decode code 391 = .ok (.iadd, 1) := by decide +kernel
theorem dL_392 : decode code 392 = .ok (.iaload, 1) := by decide +kernel
theorem dL_393 : decode code 393 = .ok (.invokevirtual 72, 3) := by decide +kernel
theorem dL_396 : decode code 396 = .ok (.if_icmp .eq 244, 3) := by decide +kernel
theorem dL_399 : decode code 399 = .ok (.iconst 0, 1) := by decide +kernel
theorem dL_400 : decode code 400 = .ok (.ireturn, 1) := by decide +kernel
theorem dL_401 : decode code 401 = .ok (.aload_n 1, 1) := by decide +kernel
theorem dL_402 : decode code 402 = .ok (.aload_n 0, 1) := by decide +kernel
theorem dL_403 : decode code 403 = .ok (.iload_n 3, 1) := by decide +kernel
theorem dL_404 : decode code 404 = .ok (.iconst 1, 1) := by decide +kernel
theorem dL_405 : decode code 405 = .ok (.iadd, 1) := by decide +kernel
theorem dL_406 : decode code 406 = .ok (.iaload, 1) := by decide +kernel
theorem dL_407 : decode code 407 = .ok (.invokevirtual 73, 3) := by decide +kernel
theorem dL_410 : decode code 410 = .ok (.aload_n 2, 1) := by decide +kernel
theorem dL_411 : decode code 411 = .ok (.aload_n 0, 1) := by decide +kernel
theorem dL_412 : decode code 412 = .ok (.iload_n 3, 1) := by decide +kernel
theorem dL_413 : decode code 413 = .ok (.iconst 1, 1) := by decide +kernel
theorem dL_414 : decode code 414 = .ok (.iadd, 1) := by decide +kernel
theorem dL_415 : decode code 415 = .ok (.iaload, 1) := by decide +kernel
theorem dL_416 : decode code 416 = .ok (.invokevirtual 76, 3) := by decide +kernel
theorem dL_419 : decode code 419 = .ok (.if_icmp .eq 221, 3) := by decide +kernel
theorem dL_422 : decode code 422 = .ok (.iconst 0, 1) := by decide +kernel
theorem dL_423 : decode code 423 = .ok (.ireturn, 1) := by decide +kernel
theorem dL_424 : decode code 424 = .ok (.aload_n 1, 1) := by decide +kernel
theorem dL_425 : decode code 425 = .ok (.invokevirtual 77, 3) := by decide +kernel
theorem dL_428 : decode code 428 = .ok (.aload_n 2, 1) := by decide +kernel
theorem dL_429 : decode code 429 = .ok (.invokevirtual 80, 3) := by decide +kernel
theorem dL_432 : decode code 432 = .ok (.if_icmp .eq 208, 3) := by decide +kernel
theorem dL_435 : decode code 435 = .ok (.iconst 0, 1) := by decide +kernel
theorem dL_436 : decode code 436 = .ok (.ireturn, 1) := by decide +kernel
theorem dL_437 : decode code 437 = .ok (.aload_n 1, 1) := by decide +kernel
theorem dL_438 : decode code 438 = .ok (.invokevirtual 81, 3) := by decide +kernel
theorem dL_441 : decode code 441 = .ok (.aload_n 2, 1) := by decide +kernel
theorem dL_442 : decode code 442 = .ok (.invokevirtual 84, 3) := by decide +kernel
theorem dL_445 : decode code 445 = .ok (.if_icmp .eq 195, 3) := by decide +kernel
theorem dL_448 : decode code 448 = .ok (.iconst 0, 1) := by decide +kernel
theorem dL_449 : decode code 449 = .ok (.ireturn, 1) := by decide +kernel
theorem dL_450 : decode code 450 = .ok (.aload_n 1, 1) := by decide +kernel
theorem dL_451 : decode code 451 = .ok (.invokevirtual 85, 3) := by decide +kernel
theorem dL_454 : decode code 454 = .ok (.aload_n 2, 1) := by decide +kernel
theorem dL_455 : decode code 455 = .ok (.invokevirtual 88, 3) := by decide +kernel
theorem dL_458 : decode code 458 = .ok (.if_icmp .eq 182, 3) := by decide +kernel
theorem dL_461 : decode code 461 = .ok (.iconst 0, 1) := by decide +kernel
theorem dL_462 : decode code 462 = .ok (.ireturn, 1) := by decide +kernel
theorem dL_463 : decode code 463 = .ok (.aload_n 1, 1) := by decide +kernel
theorem dL_464 : decode code 464 = .ok (.invokevirtual 89, 3) := by decide +kernel
theorem dL_467 : decode code 467 = .ok (.aload_n 2, 1) := by decide +kernel
theorem dL_468 : decode code 468 = .ok (.invokevirtual 92, 3) := by decide +kernel
theorem dL_471 : decode code 471 = .ok (.if_icmp .eq 169, 3) := by decide +kernel
theorem dL_474 : decode code 474 = .ok (.iconst 0, 1) := by decide +kernel
theorem dL_475 : decode code 475 = .ok (.ireturn, 1) := by decide +kernel
theorem dL_476 : decode code 476 = .ok (.aload_n 1, 1) := by decide +kernel
theorem dL_477 : decode code 477 = .ok (.invokevirtual 93, 3) := by decide +kernel
theorem dL_480 : decode code 480 = .ok (.aload_n 2, 1) := by decide +kernel
theorem dL_481 : decode code 481 = .ok (.invokevirtual 96, 3) := by decide +kernel
theorem dL_484 : decode code 484 = .ok (.if_icmp .eq 156, 3) := by decide +kernel
theorem dL_487 : decode code 487 = .ok (.iconst 0, 1) := by decide +kernel
theorem dL_488 : decode code 488 = .ok (.ireturn, 1) := by decide +kernel
theorem dL_489 : decode code 489 = .ok (.aload_n 1, 1) := by decide +kernel
theorem dL_490 : decode code 490 = .ok (.invokevirtual 97, 3) := by decide +kernel
theorem dL_493 : decode code 493 = .ok (.aload_n 2, 1) := by decide +kernel
theorem dL_494 : decode code 494 = .ok (.invokevirtual 100, 3) := by decide +kernel
theorem dL_497 : decode code 497 = .ok (.if_icmp .eq 143, 3) := by decide +kernel
theorem dL_500 : decode code 500 = .ok (.iconst 0, 1) := by decide +kernel
theorem dL_501 : decode code 501 = .ok (.ireturn, 1) := by decide +kernel
theorem dL_502 : decode code 502 = .ok (.aload_n 1, 1) := by decide +kernel
theorem dL_503 : decode code 503 = .ok (.invokevirtual 101, 3) := by decide +kernel
theorem dL_506 : decode code 506 = .ok (.aload_n 2, 1) := by decide +kernel
theorem dL_507 : decode code 507 = .ok (.invokevirtual 104, 3) := by decide +kernel
theorem dL_510 : decode code 510 = .ok (.if_icmp .eq 130, 3) := by decide +kernel
theorem dL_513 : decode code 513 = .ok (.iconst 0, 1) := by decide +kernel
theorem dL_514 : decode code 514 = .ok (.ireturn, 1) := by decide +kernel
theorem dL_515 : decode code 515 = .ok (.aload_n 1, 1) := by decide +kernel
theorem dL_516 : decode code 516 = .ok (.invokevirtual 105, 3) := by decide +kernel
theorem dL_519 : decode code 519 = .ok (.aload_n 2, 1) := by decide +kernel
theorem dL_520 : decode code 520 = .ok (.invokevirtual 108, 3) := by decide +kernel
theorem dL_523 : decode code 523 = .ok (.if_icmp .eq 117, 3) := by decide +kernel
theorem dL_526 : decode code 526 = .ok (.iconst 0, 1) := by decide +kernel
theorem dL_527 : decode code 527 = .ok (.ireturn, 1) := by decide +kernel
theorem dL_528 : decode code 528 = .ok (.aload_n 1, 1) := by decide +kernel
theorem dL_529 : decode code 529 = .ok (.invokevirtual 109, 3) := by decide +kernel
theorem dL_532 : decode code 532 = .ok (.aload_n 2, 1) := by decide +kernel
theorem dL_533 : decode code 533 = .ok (.invokevirtual 112, 3) := by decide +kernel
theorem dL_536 : decode code 536 = .ok (.if_icmp .eq 104, 3) := by decide +kernel
theorem dL_539 : decode code 539 = .ok (.iconst 0, 1) := by decide +kernel
theorem dL_540 : decode code 540 = .ok (.ireturn, 1) := by decide +kernel
theorem dL_541 : decode code 541 = .ok (.aload_n 1, 1) := by decide +kernel
theorem dL_542 : decode code 542 = .ok (.invokevirtual 113, 3) := by decide +kernel
theorem dL_545 : decode code 545 = .ok (.aload_n 2, 1) := by decide +kernel
theorem dL_546 : decode code 546 = .ok (.invokevirtual 116, 3) := by decide +kernel
theorem dL_549 : decode code 549 = .ok (.if_icmp .eq 91, 3) := by decide +kernel
theorem dL_552 : decode code 552 = .ok (.iconst 0, 1) := by decide +kernel
theorem dL_553 : decode code 553 = .ok (.ireturn, 1) := by decide +kernel
theorem dL_554 : decode code 554 = .ok (.aload_n 1, 1) := by decide +kernel
theorem dL_555 : decode code 555 = .ok (.invokevirtual 117, 3) := by decide +kernel
theorem dL_558 : decode code 558 = .ok (.aload_n 2, 1) := by decide +kernel
theorem dL_559 : decode code 559 = .ok (.invokevirtual 120, 3) := by decide +kernel
theorem dL_562 : decode code 562 = .ok (.if_icmp .eq 78, 3) := by decide +kernel
theorem dL_565 : decode code 565 = .ok (.iconst 0, 1) := by decide +kernel
theorem dL_566 : decode code 566 = .ok (.ireturn, 1) := by decide +kernel
theorem dL_567 : decode code 567 = .ok (.aload_n 1, 1) := by decide +kernel
theorem dL_568 : decode code 568 = .ok (.invokevirtual 121, 3) := by decide +kernel
theorem dL_571 : decode code 571 = .ok (.aload_n 2, 1) := by decide +kernel
theorem dL_572 : decode code 572 = .ok (.invokevirtual 124, 3) := by decide +kernel
theorem dL_575 : decode code 575 = .ok (.if_icmp .eq 65, 3) := by decide +kernel
theorem dL_578 : decode code 578 = .ok (.iconst 0, 1) := by decide +kernel
theorem dL_579 : decode code 579 = .ok (.ireturn, 1) := by decide +kernel
theorem dL_580 : decode code 580 = .ok (.aload_n 1, 1) := by decide +kernel
theorem dL_581 : decode code 581 = .ok (.aload_n 0, 1) := by decide +kernel
theorem dL_582 : decode code 582 = .ok (.iload_n 3, 1) := by decide +kernel
theorem dL_583 : decode code 583 = .ok (.iconst 1, 1) := by decide +kernel
theorem dL_584 : decode code 584 = .ok (.iadd, 1) := by decide +kernel
theorem dL_585 : decode code 585 = .ok (.iaload, 1) := by decide +kernel
theorem dL_586 : decode code 586 = .ok (.invokevirtual 125, 3) := by decide +kernel
theorem dL_589 : decode code 589 = .ok (.aload_n 2, 1) := by decide +kernel
theorem dL_590 : decode code 590 = .ok (.aload_n 0, 1) := by decide +kernel
theorem dL_591 : decode code 591 = .ok (.iload_n 3, 1) := by decide +kernel
theorem dL_592 : decode code 592 = .ok (.iconst 1, 1) := by decide +kernel
theorem dL_593 : decode code 593 = .ok (.iadd, 1) := by decide +kernel
theorem dL_594 : decode code 594 = .ok (.iaload, 1) := by decide +kernel
theorem dL_595 : decode code 595 = .ok (.invokevirtual 128, 3) := by decide +kernel
theorem dL_598 : decode code 598 = .ok (.if_icmp .eq 42, 3) := by decide +kernel
theorem dL_601 : decode code 601 = .ok (.iconst 0, 1) := by decide +kernel
theorem dL_602 : decode code 602 = .ok (.ireturn, 1) := by decide +kernel
theorem dL_603 : decode code 603 = .ok (.aload_n 1, 1) := by decide +kernel
theorem dL_604 : decode code 604 = .ok (.aload_n 0, 1) := by decide +kernel
theorem dL_605 : decode code 605 = .ok (.iload_n 3, 1) := by decide +kernel
theorem dL_606 : decode code 606 = .ok (.iconst 1, 1) := by decide +kernel
theorem dL_607 : decode code 607 = .ok (.iadd, 1) := by decide +kernel
theorem dL_608 : decode code 608 = .ok (.iaload, 1) := by decide +kernel
theorem dL_609 : decode code 609 = .ok (.invokevirtual 129, 3) := by decide +kernel
theorem dL_612 : decode code 612 = .ok (.aload_n 2, 1) := by decide +kernel
theorem dL_613 : decode code 613 = .ok (.aload_n 0, 1) := by decide +kernel
theorem dL_614 : decode code 614 = .ok (.iload_n 3, 1) := by decide +kernel
theorem dL_615 : decode code 615 = .ok (.iconst 1, 1) := by decide +kernel
theorem dL_616 : decode code 616 = .ok (.iadd, 1) := by decide +kernel
theorem dL_617 : decode code 617 = .ok (.iaload, 1) := by decide +kernel
theorem dL_618 : decode code 618 = .ok (.invokevirtual 132, 3) := by decide +kernel
theorem dL_621 : decode code 621 = .ok (.if_icmp .eq 19, 3) := by decide +kernel
theorem dL_624 : decode code 624 = .ok (.iconst 0, 1) := by decide +kernel
theorem dL_625 : decode code 625 = .ok (.ireturn, 1) := by decide +kernel
theorem dL_626 : decode code 626 = .ok (.aload_n 1, 1) := by decide +kernel
theorem dL_627 : decode code 627 = .ok (.invokevirtual 133, 3) := by decide +kernel
theorem dL_630 : decode code 630 = .ok (.aload_n 2, 1) := by decide +kernel
theorem dL_631 : decode code 631 = .ok (.invokevirtual 136, 3) := by decide +kernel
theorem dL_634 : decode code 634 = .ok (.lcmp, 1) := by decide +kernel
theorem dL_635 : decode code 635 = .ok (.ifCond .eq 5, 3) := by decide +kernel
theorem dL_638 : decode code 638 = .ok (.iconst 0, 1) := by decide +kernel
theorem dL_639 : decode code 639 = .ok (.ireturn, 1) := by decide +kernel
theorem dL_640 : decode code 640 = .ok (.iinc 3 3, 3) := by decide +kernel
theorem dL_643 : decode code 643 = .ok (.goto ((-625)), 3) := by decide +kernel
theorem dL_646 : decode code 646 = .ok (.iconst 1, 1) := by decide +kernel
theorem dL_647 : decode code 647 = .ok (.ireturn, 1) := by decide +kernel
end
section
/-! printed by gen5.py: the law out of thirty facts -/
def lw_facts (I : si_M → Prop) : Prop := (∀ a : Int32, ∀ σ, I σ → ∃ (r : Int32) (σ1 σ2 : si_M), si_sc gP nX8_append (.ref 0 :: [.int a]) σ = some (some (.int r), σ1) ∧ si_sc gP nX9_append (.ref 29 :: [.int a]) σ1 = some (some (.int r), σ2) ∧ I σ2) ∧ (∀ σ, I σ → ∃ (r : Int32) (σ1 σ2 : si_M), si_sc gP nX8_clearInput (.ref 0 :: []) σ = some (some (.int r), σ1) ∧ si_sc gP nX9_clearInput (.ref 29 :: []) σ1 = some (some (.int r), σ2) ∧ I σ2) ∧ (∀ σ, I σ → ∃ (r : Int32) (σ1 σ2 : si_M), si_sc gP nX8_firstError (.ref 0 :: []) σ = some (some (.int r), σ1) ∧ si_sc gP nX9_firstError (.ref 29 :: []) σ1 = some (some (.int r), σ2) ∧ I σ2) ∧ (∀ σ, I σ → ∃ (r : Int32) (σ1 σ2 : si_M), si_sc gP nX8_load (.ref 0 :: []) σ = some (some (.int r), σ1) ∧ si_sc gP nX9_load (.ref 29 :: []) σ1 = some (some (.int r), σ2) ∧ I σ2) ∧ (∀ σ, I σ → ∃ (r : Int32) (σ1 σ2 : si_M), si_sc gP nX8_accepts (.ref 0 :: []) σ = some (some (.int r), σ1) ∧ si_sc gP nX9_accepts (.ref 29 :: []) σ1 = some (some (.int r), σ2) ∧ I σ2) ∧ (∀ σ, I σ → ∃ (r : Int64) (σ1 σ2 : si_M), si_sc gP nX8_countTrees (.ref 0 :: []) σ = some (some (.long r), σ1) ∧ si_sc gP nX9_countTrees (.ref 29 :: []) σ1 = some (some (.long r), σ2) ∧ I σ2) ∧ (∀ σ, I σ → ∃ (r : Int32) (σ1 σ2 : si_M), si_sc gP nX8_productionCount (.ref 0 :: []) σ = some (some (.int r), σ1) ∧ si_sc gP nX9_productionCount (.ref 29 :: []) σ1 = some (some (.int r), σ2) ∧ I σ2) ∧ (∀ a b : Int32, ∀ σ, I σ → ∃ (r : Int32) (σ1 σ2 : si_M), si_sc gP nX8_symbol (.ref 0 :: [.int a, .int b]) σ = some (some (.int r), σ1) ∧ si_sc gP nX9_symbol (.ref 29 :: [.int a, .int b]) σ1 = some (some (.int r), σ2) ∧ I σ2) ∧ (∀ σ, I σ → ∃ (r : Int32) (σ1 σ2 : si_M), si_sc gP nX8_nullableSet (.ref 0 :: []) σ = some (some (.int r), σ1) ∧ si_sc gP nX9_nullableSet (.ref 29 :: []) σ1 = some (some (.int r), σ2) ∧ I σ2) ∧ (∀ σ, I σ → ∃ (r : Int32) (σ1 σ2 : si_M), si_sc gP nX8_productiveSet (.ref 0 :: []) σ = some (some (.int r), σ1) ∧ si_sc gP nX9_productiveSet (.ref 29 :: []) σ1 = some (some (.int r), σ2) ∧ I σ2) ∧ (∀ σ, I σ → ∃ (r : Int32) (σ1 σ2 : si_M), si_sc gP nX8_reachableSet (.ref 0 :: []) σ = some (some (.int r), σ1) ∧ si_sc gP nX9_reachableSet (.ref 29 :: []) σ1 = some (some (.int r), σ2) ∧ I σ2) ∧ (∀ σ, I σ → ∃ (r : Int32) (σ1 σ2 : si_M), si_sc gP nX8_leftRecursiveSet (.ref 0 :: []) σ = some (some (.int r), σ1) ∧ si_sc gP nX9_leftRecursiveSet (.ref 29 :: []) σ1 = some (some (.int r), σ2) ∧ I σ2) ∧ (∀ a : Int32, ∀ σ, I σ → ∃ (r : Int32) (σ1 σ2 : si_M), si_sc gP nX8_unitReach (.ref 0 :: [.int a]) σ = some (some (.int r), σ1) ∧ si_sc gP nX9_unitReach (.ref 29 :: [.int a]) σ1 = some (some (.int r), σ2) ∧ I σ2) ∧ (∀ a : Int32, ∀ σ, I σ → ∃ (r : Int32) (σ1 σ2 : si_M), si_sc gP nX8_firstSet (.ref 0 :: [.int a]) σ = some (some (.int r), σ1) ∧ si_sc gP nX9_firstSet (.ref 29 :: [.int a]) σ1 = some (some (.int r), σ2) ∧ I σ2) ∧ (∀ a : Int32, ∀ σ, I σ → ∃ (r : Int32) (σ1 σ2 : si_M), si_sc gP nX8_followSet (.ref 0 :: [.int a]) σ = some (some (.int r), σ1) ∧ si_sc gP nX9_followSet (.ref 29 :: [.int a]) σ1 = some (some (.int r), σ2) ∧ I σ2) ∧ (∀ σ, I σ → ∃ (r : Int32) (σ1 σ2 : si_M), si_sc gP nX8_isLl1 (.ref 0 :: []) σ = some (some (.int r), σ1) ∧ si_sc gP nX9_isLl1 (.ref 29 :: []) σ1 = some (some (.int r), σ2) ∧ I σ2) ∧ (∀ σ, I σ → ∃ (r : Int32) (σ1 σ2 : si_M), si_sc gP nX8_isChomsky (.ref 0 :: []) σ = some (some (.int r), σ1) ∧ si_sc gP nX9_isChomsky (.ref 29 :: []) σ1 = some (some (.int r), σ2) ∧ I σ2) ∧ (∀ σ, I σ → ∃ (r : Int32) (σ1 σ2 : si_M), si_sc gP nX8_isGreibach (.ref 0 :: []) σ = some (some (.int r), σ1) ∧ si_sc gP nX9_isGreibach (.ref 29 :: []) σ1 = some (some (.int r), σ2) ∧ I σ2) ∧ (∀ σ, I σ → ∃ (r : Int32) (σ1 σ2 : si_M), si_sc gP nX8_removeUseless (.ref 0 :: []) σ = some (some (.int r), σ1) ∧ si_sc gP nX9_removeUseless (.ref 29 :: []) σ1 = some (some (.int r), σ2) ∧ I σ2) ∧ (∀ σ, I σ → ∃ (r : Int32) (σ1 σ2 : si_M), si_sc gP nX8_removeEmpty (.ref 0 :: []) σ = some (some (.int r), σ1) ∧ si_sc gP nX9_removeEmpty (.ref 29 :: []) σ1 = some (some (.int r), σ2) ∧ I σ2) ∧ (∀ σ, I σ → ∃ (r : Int32) (σ1 σ2 : si_M), si_sc gP nX8_removeUnits (.ref 0 :: []) σ = some (some (.int r), σ1) ∧ si_sc gP nX9_removeUnits (.ref 29 :: []) σ1 = some (some (.int r), σ2) ∧ I σ2) ∧ (∀ σ, I σ → ∃ (r : Int32) (σ1 σ2 : si_M), si_sc gP nX8_toChomsky (.ref 0 :: []) σ = some (some (.int r), σ1) ∧ si_sc gP nX9_toChomsky (.ref 29 :: []) σ1 = some (some (.int r), σ2) ∧ I σ2) ∧ (∀ σ, I σ → ∃ (r : Int32) (σ1 σ2 : si_M), si_sc gP nX8_removeLeftRecursion (.ref 0 :: []) σ = some (some (.int r), σ1) ∧ si_sc gP nX9_removeLeftRecursion (.ref 29 :: []) σ1 = some (some (.int r), σ2) ∧ I σ2) ∧ (∀ σ, I σ → ∃ (r : Int32) (σ1 σ2 : si_M), si_sc gP nX8_leftFactor (.ref 0 :: []) σ = some (some (.int r), σ1) ∧ si_sc gP nX9_leftFactor (.ref 29 :: []) σ1 = some (some (.int r), σ2) ∧ I σ2) ∧ (∀ σ, I σ → ∃ (r : Int32) (σ1 σ2 : si_M), si_sc gP nX8_toGreibach (.ref 0 :: []) σ = some (some (.int r), σ1) ∧ si_sc gP nX9_toGreibach (.ref 29 :: []) σ1 = some (some (.int r), σ2) ∧ I σ2) ∧ (∀ σ, I σ → ∃ (r : Int32) (σ1 σ2 : si_M), si_sc gP nX8_save (.ref 0 :: []) σ = some (some (.int r), σ1) ∧ si_sc gP nX9_save (.ref 29 :: []) σ1 = some (some (.int r), σ2) ∧ I σ2) ∧ (∀ σ, I σ → ∃ (r : Int32) (σ1 σ2 : si_M), si_sc gP nX8_restore (.ref 0 :: []) σ = some (some (.int r), σ1) ∧ si_sc gP nX9_restore (.ref 29 :: []) σ1 = some (some (.int r), σ2) ∧ I σ2) ∧ (∀ a : Int32, ∀ σ, I σ → ∃ (r : Int32) (σ1 σ2 : si_M), si_sc gP nX8_countWords (.ref 0 :: [.int a]) σ = some (some (.int r), σ1) ∧ si_sc gP nX9_countWords (.ref 29 :: [.int a]) σ1 = some (some (.int r), σ2) ∧ I σ2) ∧ (∀ a : Int32, ∀ σ, I σ → ∃ (r : Int32) (σ1 σ2 : si_M), si_sc gP nX8_countDifferences (.ref 0 :: [.int a]) σ = some (some (.int r), σ1) ∧ si_sc gP nX9_countDifferences (.ref 29 :: [.int a]) σ1 = some (some (.int r), σ2) ∧ I σ2) ∧ (∀ σ, I σ → ∃ (r : Int64) (σ1 σ2 : si_M), si_sc gP nX8_digest (.ref 0 :: []) σ = some (some (.long r), σ1) ∧ si_sc gP nX9_digest (.ref 29 :: []) σ1 = some (some (.long r), σ2) ∧ I σ2)
theorem lw_call {p : Program} {l : Launch} {e : Env} {s : State} {m : MethodId} {args : Array Value} {below : List Frame} {meth : Method} {c : Code} {D : va_G} {dA : Bool → ClassId} {sz : Nat} {R : Room} {cells slots : Nat} {Q : State → Prop} {bs : ByteArray} {own : String} {mL : Nat} {H0 H : Heap} {locs : List Loc} {ls : Array Slot} (X : si_Ctx p s m args c D dA gcl bs own mL) {pc idx c2 na rc ct q w1 w2 w3 w4 w5 fr lo : Nat} {cs : List Nat} {as rest : List Value} {σ : si_M} {o : si_O} (hfr : fr ≤ R.frames) (hlo : lo ≤ R.locals) (hce : cells ≤ R.cells) (hsl : slots ≤ R.slots)
    (hok : si_cok gmt gcl own fr lo idx [c2, na, rc, ct, w1, w2, w3, w4, w5] true = true) (hna : as.length = na) (hsk : gsh[q]? = some (.inl (ct, cs))) (hcat : si_cat rest ≤ 8) (h : si_sc gP c2 (.ref q :: as) σ = some o) (hP : va_P D gcl (si_W dA sz gsh σ) H) (hS : va_S (fun q => sz ≤ q) H0 H locs) (hls : ls.size = mL) (hd : decode bs pc = .ok (.invokevirtual idx, 3))
    (hk : ∀ (H1 : Heap) (locs1 : List Loc), va_P D gcl (si_W dA sz gsh o.2) H1 → va_S (fun q => sz ≤ q) H0 H1 locs1 → W p l e R s m args below meth c H1 locs1 cells slots Q (F0 m (pc + 3) ls ((o.1.map (si_v sz)).toList ++ rest.map (si_v sz)))) : W p l e R s m args below meth c H locs cells slots Q (F0 m pc ls ((as.map (si_v sz)).reverse ++ .ref (sz + q) :: rest.map (si_v sz))) := by
  obtain ⟨hx, hb, hml, hown, hts, hK, hNk⟩ := X
  simp only [si_cok] at hok
  split at hok
  · rename_i y bs2 mL2 ret2 fr2 lo2 rows C T N hmt hct
    simp only [Bool.and_eq_true] at hok
    obtain ⟨⟨⟨⟨⟨⟨⟨⟨q0, q1⟩, q2⟩, q3⟩, q4⟩, q5⟩, q6⟩, q7⟩, q8⟩ := hok
    have e0 : y.cls = C := of_decide_eq_true q0
    have e7 : fr2 + 1 ≤ fr := Nat.le_of_ble_eq_true q7
    have e8 : 8 + (mL2 + 11) + lo2 ≤ lo := Nat.le_of_ble_eq_true q8
    have hMet := si_met gok l D dA sz (m := c2) hmt h
    have hcw : Jvm.Cond.code y bs2 mL2 ret2 ∈ si_tb := si_wi_mem q4
    have hpre : PreV s H y.cls (sz + q) (si_Pc D dA gcl sz gP.2 (.ref q :: as) σ) (as.map (si_v sz)) := ⟨si_K_blind, by rw [e0]; exact va_recv hK hP hct (si_W_at hsk), fun U hU hW => ⟨rfl, by rw [hU]; exact hP, va_K.moved hW.alike hK, hNk.warm hW⟩⟩
    refine si_goes (va_runV ⟨hx, hb, hml, hown, hts⟩ hMet ⟨callB_of na hts (si_goodw ggood hcw) rfl rfl rfl (hts _ (si_wi_mem q3)) (hts _ (si_wi_mem q1)) (si_npw q6) ⟨?_, ?_⟩, hts _ (si_wi_mem q2), hts _ (si_wi_mem q5)⟩ hpre rfl ?_ hls rfl ?_ hd ⟨hce, hsl⟩) hS hk
    · exact Nat.le_trans e7 hfr
    · exact Nat.le_trans e8 hlo
    · rw [List.length_map]; exact hna
    · exact lv_room (m := m) (pc := pc) (ls := ls) (rest := []) (by rw [si_catm]; exact hcat)
  · cases hok
set_option maxHeartbeats 4000000 in
theorem lw_c0 {p : Program} {l : Launch} {e : Env} {s : State} {m : MethodId} {below : List Frame} {meth : Method} {c : Code} {D : va_G} {dA : Bool → ClassId} {b L : Nat} {xs : Nat → Int32} (C0 : lw_At p s m meth c b L xs) (X : si_Ctx p s m #[Value.ref b] c D dA gcl code RL 4) (I : si_M → Prop) (hf : (∀ a : Int32, ∀ σ, I σ → ∃ (r : Int32) (σ1 σ2 : si_M), si_sc gP nX8_append (.ref 0 :: [.int a]) σ = some (some (.int r), σ1) ∧ si_sc gP nX9_append (.ref 29 :: [.int a]) σ1 = some (some (.int r), σ2) ∧ I σ2)) (i : Nat) (hi : 3 * i + 3 ≤ L) (hL : L ≤ 1536) (σ : si_M) (hI : I σ) (H : Heap) (locs : List Loc) (ls : Array Slot) (hP : va_P D gcl (si_W dA s.heap.size gsh σ) H) (hS : va_S (fun q => s.heap.size ≤ q) s.heap H locs) (hl : lv_has ls 4 [(0, .ref b), (1, .ref (s.heap.size + 0)), (2, .ref (s.heap.size + 29)), (3, .int (nI (3 * i)))])
    (hk : ∀ (σ2 : si_M) (H2 : Heap) (locs2 : List Loc), I σ2 → va_P D gcl (si_W dA s.heap.size gsh σ2) H2 → va_S (fun q => s.heap.size ≤ q) s.heap H2 locs2 → W p l e room_1 s m #[Value.ref b] below meth c H2 locs2 45 5189 (lw_Z below #[Value.ref b] s) (F0 m 640 ls [])) : W p l e room_1 s m #[Value.ref b] below meth c H locs 45 5189 (lw_Z below #[Value.ref b] s) (F0 m 168 ls []) := by
  obtain ⟨hx, hb, hr, hml, hown, htsw, hX, hbl, hlocks, hgv⟩ := C0
  have hbA : ¬ (fun q : Nat => s.heap.size ≤ q) b := Nat.not_le.mpr hbl
  have e1 : nI (3 * i) + 1 = nI (3 * i + 1) := nI_add _ _
  have v1 : vp_in (nI (3 * i) + 1) L := by rw [e1]; exact vp_in_nI (by omega) (by omega)
  obtain ⟨r, σ1, σ2, f1, f2, f3⟩ := hf (xs (nI (3 * i) + 1).toNatClampNeg) σ hI
  refine lv_aload_n hx hb dL_168 rfl (lv_at hl 1 rfl) ?_
  refine lv_aload_n hx hb dL_169 rfl (lv_at hl 0 rfl) ?_
  refine lv_iload_n hx hb dL_170 rfl (lv_at hl 3 rfl) ?_
  refine lv_iconst (v := 1) hx hb dL_171 (by decide) ?_
  refine lv_iadd hx hb dL_172 ?_
  refine va_sld hx hb hX hbl hbA hS v1 dL_173 ?_
  have ok0 : si_cok gmt gcl RL 11 418 13 [2, 1, 1, 7, 270, 271, 91, 273, 272] true = true := by decide +kernel
  refine lw_call X (rc := 1) (q := 0) (as := [.int (xs (nI (3 * i) + 1).toNatClampNeg)]) (rest := []) (fr := 11) (lo := 418) (Nat.le_refl 11) (Nat.le_refl 418) (Nat.le_refl 45) (Nat.le_refl 5189) ok0 rfl rfl (Nat.le_of_ble_eq_true rfl) f1 hP hS hl.1 dL_174 (fun H1 locs1 hP hS => ?_)
  refine lv_aload_n hx hb dL_177 rfl (lv_at hl 2 rfl) ?_
  refine lv_aload_n hx hb dL_178 rfl (lv_at hl 0 rfl) ?_
  refine lv_iload_n hx hb dL_179 rfl (lv_at hl 3 rfl) ?_
  refine lv_iconst (v := 1) hx hb dL_180 (by decide) ?_
  refine lv_iadd hx hb dL_181 ?_
  refine va_sld hx hb hX hbl hbA hS v1 dL_182 ?_
  have ok1 : si_cok gmt gcl RL 11 418 17 [4, 1, 1, 8, 1029, 1030, 99, 1032, 1031] true = true := by decide +kernel
  refine lw_call X (rc := 1) (q := 29) (as := [.int (xs (nI (3 * i) + 1).toNatClampNeg)]) (rest := [.int r]) (fr := 11) (lo := 418) (Nat.le_refl 11) (Nat.le_refl 418) (Nat.le_refl 45) (Nat.le_refl 5189) ok1 rfl rfl (Nat.le_of_ble_eq_true rfl) f2 hP hS hl.1 dL_183 (fun H2 locs2 hP hS => ?_)
  refine lv_icmp_eq (tgt := 640) hx hb dL_186 (by decide) (fun _ => ?_) (fun hne => absurd rfl hne)
  exact hk σ2 _ _ f3 hP hS
set_option maxHeartbeats 4000000 in
theorem lw_c1 {p : Program} {l : Launch} {e : Env} {s : State} {m : MethodId} {below : List Frame} {meth : Method} {c : Code} {D : va_G} {dA : Bool → ClassId} {b L : Nat} {xs : Nat → Int32} (C0 : lw_At p s m meth c b L xs) (X : si_Ctx p s m #[Value.ref b] c D dA gcl code RL 4) (I : si_M → Prop) (hf : (∀ σ, I σ → ∃ (r : Int32) (σ1 σ2 : si_M), si_sc gP nX8_clearInput (.ref 0 :: []) σ = some (some (.int r), σ1) ∧ si_sc gP nX9_clearInput (.ref 29 :: []) σ1 = some (some (.int r), σ2) ∧ I σ2)) (i : Nat) (hi : 3 * i + 3 ≤ L) (hL : L ≤ 1536) (σ : si_M) (hI : I σ) (H : Heap) (locs : List Loc) (ls : Array Slot) (hP : va_P D gcl (si_W dA s.heap.size gsh σ) H) (hS : va_S (fun q => s.heap.size ≤ q) s.heap H locs) (hl : lv_has ls 4 [(0, .ref b), (1, .ref (s.heap.size + 0)), (2, .ref (s.heap.size + 29)), (3, .int (nI (3 * i)))])
    (hk : ∀ (σ2 : si_M) (H2 : Heap) (locs2 : List Loc), I σ2 → va_P D gcl (si_W dA s.heap.size gsh σ2) H2 → va_S (fun q => s.heap.size ≤ q) s.heap H2 locs2 → W p l e room_1 s m #[Value.ref b] below meth c H2 locs2 45 5189 (lw_Z below #[Value.ref b] s) (F0 m 640 ls [])) : W p l e room_1 s m #[Value.ref b] below meth c H locs 45 5189 (lw_Z below #[Value.ref b] s) (F0 m 191 ls []) := by
  obtain ⟨hx, hb, hr, hml, hown, htsw, hX, hbl, hlocks, hgv⟩ := C0
  have hbA : ¬ (fun q : Nat => s.heap.size ≤ q) b := Nat.not_le.mpr hbl
  obtain ⟨r, σ1, σ2, f1, f2, f3⟩ := hf  σ hI
  refine lv_aload_n hx hb dL_191 rfl (lv_at hl 1 rfl) ?_
  have ok0 : si_cok gmt gcl RL 11 418 18 [6, 0, 1, 7, 282, 283, 91, 285, 284] true = true := by decide +kernel
  refine lw_call X (rc := 1) (q := 0) (as := []) (rest := []) (fr := 11) (lo := 418) (Nat.le_refl 11) (Nat.le_refl 418) (Nat.le_refl 45) (Nat.le_refl 5189) ok0 rfl rfl (Nat.le_of_ble_eq_true rfl) f1 hP hS hl.1 dL_192 (fun H1 locs1 hP hS => ?_)
  refine lv_aload_n hx hb dL_195 rfl (lv_at hl 2 rfl) ?_
  have ok1 : si_cok gmt gcl RL 11 418 22 [7, 0, 1, 8, 1036, 1037, 99, 1039, 1038] true = true := by decide +kernel
  refine lw_call X (rc := 1) (q := 29) (as := []) (rest := [.int r]) (fr := 11) (lo := 418) (Nat.le_refl 11) (Nat.le_refl 418) (Nat.le_refl 45) (Nat.le_refl 5189) ok1 rfl rfl (Nat.le_of_ble_eq_true rfl) f2 hP hS hl.1 dL_196 (fun H2 locs2 hP hS => ?_)
  refine lv_icmp_eq (tgt := 640) hx hb dL_199 (by decide) (fun _ => ?_) (fun hne => absurd rfl hne)
  exact hk σ2 _ _ f3 hP hS
set_option maxHeartbeats 4000000 in
theorem lw_c2 {p : Program} {l : Launch} {e : Env} {s : State} {m : MethodId} {below : List Frame} {meth : Method} {c : Code} {D : va_G} {dA : Bool → ClassId} {b L : Nat} {xs : Nat → Int32} (C0 : lw_At p s m meth c b L xs) (X : si_Ctx p s m #[Value.ref b] c D dA gcl code RL 4) (I : si_M → Prop) (hf : (∀ σ, I σ → ∃ (r : Int32) (σ1 σ2 : si_M), si_sc gP nX8_firstError (.ref 0 :: []) σ = some (some (.int r), σ1) ∧ si_sc gP nX9_firstError (.ref 29 :: []) σ1 = some (some (.int r), σ2) ∧ I σ2)) (i : Nat) (hi : 3 * i + 3 ≤ L) (hL : L ≤ 1536) (σ : si_M) (hI : I σ) (H : Heap) (locs : List Loc) (ls : Array Slot) (hP : va_P D gcl (si_W dA s.heap.size gsh σ) H) (hS : va_S (fun q => s.heap.size ≤ q) s.heap H locs) (hl : lv_has ls 4 [(0, .ref b), (1, .ref (s.heap.size + 0)), (2, .ref (s.heap.size + 29)), (3, .int (nI (3 * i)))])
    (hk : ∀ (σ2 : si_M) (H2 : Heap) (locs2 : List Loc), I σ2 → va_P D gcl (si_W dA s.heap.size gsh σ2) H2 → va_S (fun q => s.heap.size ≤ q) s.heap H2 locs2 → W p l e room_1 s m #[Value.ref b] below meth c H2 locs2 45 5189 (lw_Z below #[Value.ref b] s) (F0 m 640 ls [])) : W p l e room_1 s m #[Value.ref b] below meth c H locs 45 5189 (lw_Z below #[Value.ref b] s) (F0 m 204 ls []) := by
  obtain ⟨hx, hb, hr, hml, hown, htsw, hX, hbl, hlocks, hgv⟩ := C0
  have hbA : ¬ (fun q : Nat => s.heap.size ≤ q) b := Nat.not_le.mpr hbl
  obtain ⟨r, σ1, σ2, f1, f2, f3⟩ := hf  σ hI
  refine lv_aload_n hx hb dL_204 rfl (lv_at hl 1 rfl) ?_
  have ok0 : si_cok gmt gcl RL 11 418 23 [12, 0, 1, 7, 290, 291, 91, 293, 292] true = true := by decide +kernel
  refine lw_call X (rc := 1) (q := 0) (as := []) (rest := []) (fr := 11) (lo := 418) (Nat.le_refl 11) (Nat.le_refl 418) (Nat.le_refl 45) (Nat.le_refl 5189) ok0 rfl rfl (Nat.le_of_ble_eq_true rfl) f1 hP hS hl.1 dL_205 (fun H1 locs1 hP hS => ?_)
  refine lv_aload_n hx hb dL_208 rfl (lv_at hl 2 rfl) ?_
  have ok1 : si_cok gmt gcl RL 11 418 26 [20, 0, 1, 8, 1040, 1041, 99, 1043, 1042] true = true := by decide +kernel
  refine lw_call X (rc := 1) (q := 29) (as := []) (rest := [.int r]) (fr := 11) (lo := 418) (Nat.le_refl 11) (Nat.le_refl 418) (Nat.le_refl 45) (Nat.le_refl 5189) ok1 rfl rfl (Nat.le_of_ble_eq_true rfl) f2 hP hS hl.1 dL_209 (fun H2 locs2 hP hS => ?_)
  refine lv_icmp_eq (tgt := 640) hx hb dL_212 (by decide) (fun _ => ?_) (fun hne => absurd rfl hne)
  exact hk σ2 _ _ f3 hP hS
set_option maxHeartbeats 4000000 in
theorem lw_c3 {p : Program} {l : Launch} {e : Env} {s : State} {m : MethodId} {below : List Frame} {meth : Method} {c : Code} {D : va_G} {dA : Bool → ClassId} {b L : Nat} {xs : Nat → Int32} (C0 : lw_At p s m meth c b L xs) (X : si_Ctx p s m #[Value.ref b] c D dA gcl code RL 4) (I : si_M → Prop) (hf : (∀ σ, I σ → ∃ (r : Int32) (σ1 σ2 : si_M), si_sc gP nX8_load (.ref 0 :: []) σ = some (some (.int r), σ1) ∧ si_sc gP nX9_load (.ref 29 :: []) σ1 = some (some (.int r), σ2) ∧ I σ2)) (i : Nat) (hi : 3 * i + 3 ≤ L) (hL : L ≤ 1536) (σ : si_M) (hI : I σ) (H : Heap) (locs : List Loc) (ls : Array Slot) (hP : va_P D gcl (si_W dA s.heap.size gsh σ) H) (hS : va_S (fun q => s.heap.size ≤ q) s.heap H locs) (hl : lv_has ls 4 [(0, .ref b), (1, .ref (s.heap.size + 0)), (2, .ref (s.heap.size + 29)), (3, .int (nI (3 * i)))])
    (hk : ∀ (σ2 : si_M) (H2 : Heap) (locs2 : List Loc), I σ2 → va_P D gcl (si_W dA s.heap.size gsh σ2) H2 → va_S (fun q => s.heap.size ≤ q) s.heap H2 locs2 → W p l e room_1 s m #[Value.ref b] below meth c H2 locs2 45 5189 (lw_Z below #[Value.ref b] s) (F0 m 640 ls [])) : W p l e room_1 s m #[Value.ref b] below meth c H locs 45 5189 (lw_Z below #[Value.ref b] s) (F0 m 217 ls []) := by
  obtain ⟨hx, hb, hr, hml, hown, htsw, hX, hbl, hlocks, hgv⟩ := C0
  have hbA : ¬ (fun q : Nat => s.heap.size ≤ q) b := Nat.not_le.mpr hbl
  obtain ⟨r, σ1, σ2, f1, f2, f3⟩ := hf  σ hI
  refine lv_aload_n hx hb dL_217 rfl (lv_at hl 1 rfl) ?_
  have ok0 : si_cok gmt gcl RL 11 418 27 [31, 0, 1, 7, 307, 308, 91, 310, 309] true = true := by decide +kernel
  refine lw_call X (rc := 1) (q := 0) (as := []) (rest := []) (fr := 11) (lo := 418) (Nat.le_refl 11) (Nat.le_refl 418) (Nat.le_refl 45) (Nat.le_refl 5189) ok0 rfl rfl (Nat.le_of_ble_eq_true rfl) f1 hP hS hl.1 dL_218 (fun H1 locs1 hP hS => ?_)
  refine lv_aload_n hx hb dL_221 rfl (lv_at hl 2 rfl) ?_
  have ok1 : si_cok gmt gcl RL 11 418 30 [32, 0, 1, 8, 1069, 1070, 99, 1072, 1071] true = true := by decide +kernel
  refine lw_call X (rc := 1) (q := 29) (as := []) (rest := [.int r]) (fr := 11) (lo := 418) (Nat.le_refl 11) (Nat.le_refl 418) (Nat.le_refl 45) (Nat.le_refl 5189) ok1 rfl rfl (Nat.le_of_ble_eq_true rfl) f2 hP hS hl.1 dL_222 (fun H2 locs2 hP hS => ?_)
  refine lv_icmp_eq (tgt := 640) hx hb dL_225 (by decide) (fun _ => ?_) (fun hne => absurd rfl hne)
  exact hk σ2 _ _ f3 hP hS
set_option maxHeartbeats 4000000 in
theorem lw_c4 {p : Program} {l : Launch} {e : Env} {s : State} {m : MethodId} {below : List Frame} {meth : Method} {c : Code} {D : va_G} {dA : Bool → ClassId} {b L : Nat} {xs : Nat → Int32} (C0 : lw_At p s m meth c b L xs) (X : si_Ctx p s m #[Value.ref b] c D dA gcl code RL 4) (I : si_M → Prop) (hf : (∀ σ, I σ → ∃ (r : Int32) (σ1 σ2 : si_M), si_sc gP nX8_accepts (.ref 0 :: []) σ = some (some (.int r), σ1) ∧ si_sc gP nX9_accepts (.ref 29 :: []) σ1 = some (some (.int r), σ2) ∧ I σ2)) (i : Nat) (hi : 3 * i + 3 ≤ L) (hL : L ≤ 1536) (σ : si_M) (hI : I σ) (H : Heap) (locs : List Loc) (ls : Array Slot) (hP : va_P D gcl (si_W dA s.heap.size gsh σ) H) (hS : va_S (fun q => s.heap.size ≤ q) s.heap H locs) (hl : lv_has ls 4 [(0, .ref b), (1, .ref (s.heap.size + 0)), (2, .ref (s.heap.size + 29)), (3, .int (nI (3 * i)))])
    (hk : ∀ (σ2 : si_M) (H2 : Heap) (locs2 : List Loc), I σ2 → va_P D gcl (si_W dA s.heap.size gsh σ2) H2 → va_S (fun q => s.heap.size ≤ q) s.heap H2 locs2 → W p l e room_1 s m #[Value.ref b] below meth c H2 locs2 45 5189 (lw_Z below #[Value.ref b] s) (F0 m 640 ls [])) : W p l e room_1 s m #[Value.ref b] below meth c H locs 45 5189 (lw_Z below #[Value.ref b] s) (F0 m 230 ls []) := by
  obtain ⟨hx, hb, hr, hml, hown, htsw, hX, hbl, hlocks, hgv⟩ := C0
  have hbA : ¬ (fun q : Nat => s.heap.size ≤ q) b := Nat.not_le.mpr hbl
  obtain ⟨r, σ1, σ2, f1, f2, f3⟩ := hf  σ hI
  refine lv_aload_n hx hb dL_230 rfl (lv_at hl 1 rfl) ?_
  have ok0 : si_cok gmt gcl RL 11 418 31 [47, 0, 1, 7, 353, 354, 91, 356, 355] true = true := by decide +kernel
  refine lw_call X (rc := 1) (q := 0) (as := []) (rest := []) (fr := 11) (lo := 418) (Nat.le_refl 11) (Nat.le_refl 418) (Nat.le_refl 45) (Nat.le_refl 5189) ok0 rfl rfl (Nat.le_of_ble_eq_true rfl) f1 hP hS hl.1 dL_231 (fun H1 locs1 hP hS => ?_)
  refine lv_aload_n hx hb dL_234 rfl (lv_at hl 2 rfl) ?_
  have ok1 : si_cok gmt gcl RL 11 418 34 [53, 0, 1, 8, 1073, 1074, 99, 1076, 1075] true = true := by decide +kernel
  refine lw_call X (rc := 1) (q := 29) (as := []) (rest := [.int r]) (fr := 11) (lo := 418) (Nat.le_refl 11) (Nat.le_refl 418) (Nat.le_refl 45) (Nat.le_refl 5189) ok1 rfl rfl (Nat.le_of_ble_eq_true rfl) f2 hP hS hl.1 dL_235 (fun H2 locs2 hP hS => ?_)
  refine lv_icmp_eq (tgt := 640) hx hb dL_238 (by decide) (fun _ => ?_) (fun hne => absurd rfl hne)
  exact hk σ2 _ _ f3 hP hS
set_option maxHeartbeats 4000000 in
theorem lw_c5 {p : Program} {l : Launch} {e : Env} {s : State} {m : MethodId} {below : List Frame} {meth : Method} {c : Code} {D : va_G} {dA : Bool → ClassId} {b L : Nat} {xs : Nat → Int32} (C0 : lw_At p s m meth c b L xs) (X : si_Ctx p s m #[Value.ref b] c D dA gcl code RL 4) (I : si_M → Prop) (hf : (∀ σ, I σ → ∃ (r : Int64) (σ1 σ2 : si_M), si_sc gP nX8_countTrees (.ref 0 :: []) σ = some (some (.long r), σ1) ∧ si_sc gP nX9_countTrees (.ref 29 :: []) σ1 = some (some (.long r), σ2) ∧ I σ2)) (i : Nat) (hi : 3 * i + 3 ≤ L) (hL : L ≤ 1536) (σ : si_M) (hI : I σ) (H : Heap) (locs : List Loc) (ls : Array Slot) (hP : va_P D gcl (si_W dA s.heap.size gsh σ) H) (hS : va_S (fun q => s.heap.size ≤ q) s.heap H locs) (hl : lv_has ls 4 [(0, .ref b), (1, .ref (s.heap.size + 0)), (2, .ref (s.heap.size + 29)), (3, .int (nI (3 * i)))])
    (hk : ∀ (σ2 : si_M) (H2 : Heap) (locs2 : List Loc), I σ2 → va_P D gcl (si_W dA s.heap.size gsh σ2) H2 → va_S (fun q => s.heap.size ≤ q) s.heap H2 locs2 → W p l e room_1 s m #[Value.ref b] below meth c H2 locs2 45 5189 (lw_Z below #[Value.ref b] s) (F0 m 640 ls [])) : W p l e room_1 s m #[Value.ref b] below meth c H locs 45 5189 (lw_Z below #[Value.ref b] s) (F0 m 243 ls []) := by
  obtain ⟨hx, hb, hr, hml, hown, htsw, hX, hbl, hlocks, hgv⟩ := C0
  have hbA : ¬ (fun q : Nat => s.heap.size ≤ q) b := Nat.not_le.mpr hbl
  obtain ⟨r, σ1, σ2, f1, f2, f3⟩ := hf  σ hI
  refine lv_aload_n hx hb dL_243 rfl (lv_at hl 1 rfl) ?_
  have ok0 : si_cok gmt gcl RL 11 418 35 [72, 0, 2, 7, 416, 417, 91, 419, 418] true = true := by decide +kernel
  refine lw_call X (rc := 2) (q := 0) (as := []) (rest := []) (fr := 11) (lo := 418) (Nat.le_refl 11) (Nat.le_refl 418) (Nat.le_refl 45) (Nat.le_refl 5189) ok0 rfl rfl (Nat.le_of_ble_eq_true rfl) f1 hP hS hl.1 dL_244 (fun H1 locs1 hP hS => ?_)
  refine lv_aload_n hx hb dL_247 rfl (lv_at hl 2 rfl) ?_
  have ok1 : si_cok gmt gcl RL 11 418 39 [83, 0, 2, 8, 1096, 1097, 99, 1099, 1098] true = true := by decide +kernel
  refine lw_call X (rc := 2) (q := 29) (as := []) (rest := [.long r]) (fr := 11) (lo := 418) (Nat.le_refl 11) (Nat.le_refl 418) (Nat.le_refl 45) (Nat.le_refl 5189) ok1 rfl rfl (Nat.le_of_ble_eq_true rfl) f2 hP hS hl.1 dL_248 (fun H2 locs2 hP hS => ?_)
  refine W.lcmp hx hb dL_251 ?_
  refine lv_if_eq (tgt := 640) hx hb dL_252 (by decide) (fun _ => ?_) (fun hne => absurd (by simp [lg_cmp, Int64.lt_irrefl]) hne)
  exact hk σ2 _ _ f3 hP hS
set_option maxHeartbeats 4000000 in
theorem lw_c6 {p : Program} {l : Launch} {e : Env} {s : State} {m : MethodId} {below : List Frame} {meth : Method} {c : Code} {D : va_G} {dA : Bool → ClassId} {b L : Nat} {xs : Nat → Int32} (C0 : lw_At p s m meth c b L xs) (X : si_Ctx p s m #[Value.ref b] c D dA gcl code RL 4) (I : si_M → Prop) (hf : (∀ σ, I σ → ∃ (r : Int32) (σ1 σ2 : si_M), si_sc gP nX8_productionCount (.ref 0 :: []) σ = some (some (.int r), σ1) ∧ si_sc gP nX9_productionCount (.ref 29 :: []) σ1 = some (some (.int r), σ2) ∧ I σ2)) (i : Nat) (hi : 3 * i + 3 ≤ L) (hL : L ≤ 1536) (σ : si_M) (hI : I σ) (H : Heap) (locs : List Loc) (ls : Array Slot) (hP : va_P D gcl (si_W dA s.heap.size gsh σ) H) (hS : va_S (fun q => s.heap.size ≤ q) s.heap H locs) (hl : lv_has ls 4 [(0, .ref b), (1, .ref (s.heap.size + 0)), (2, .ref (s.heap.size + 29)), (3, .int (nI (3 * i)))])
    (hk : ∀ (σ2 : si_M) (H2 : Heap) (locs2 : List Loc), I σ2 → va_P D gcl (si_W dA s.heap.size gsh σ2) H2 → va_S (fun q => s.heap.size ≤ q) s.heap H2 locs2 → W p l e room_1 s m #[Value.ref b] below meth c H2 locs2 45 5189 (lw_Z below #[Value.ref b] s) (F0 m 640 ls [])) : W p l e room_1 s m #[Value.ref b] below meth c H locs 45 5189 (lw_Z below #[Value.ref b] s) (F0 m 257 ls []) := by
  obtain ⟨hx, hb, hr, hml, hown, htsw, hX, hbl, hlocks, hgv⟩ := C0
  have hbA : ¬ (fun q : Nat => s.heap.size ≤ q) b := Nat.not_le.mpr hbl
  obtain ⟨r, σ1, σ2, f1, f2, f3⟩ := hf  σ hI
  refine lv_aload_n hx hb dL_257 rfl (lv_at hl 1 rfl) ?_
  have ok0 : si_cok gmt gcl RL 11 418 40 [84, 0, 1, 7, 500, 501, 91, 503, 502] true = true := by decide +kernel
  refine lw_call X (rc := 1) (q := 0) (as := []) (rest := []) (fr := 11) (lo := 418) (Nat.le_refl 11) (Nat.le_refl 418) (Nat.le_refl 45) (Nat.le_refl 5189) ok0 rfl rfl (Nat.le_of_ble_eq_true rfl) f1 hP hS hl.1 dL_258 (fun H1 locs1 hP hS => ?_)
  refine lv_aload_n hx hb dL_261 rfl (lv_at hl 2 rfl) ?_
  have ok1 : si_cok gmt gcl RL 11 418 43 [85, 0, 1, 8, 1140, 1141, 99, 1143, 1142] true = true := by decide +kernel
  refine lw_call X (rc := 1) (q := 29) (as := []) (rest := [.int r]) (fr := 11) (lo := 418) (Nat.le_refl 11) (Nat.le_refl 418) (Nat.le_refl 45) (Nat.le_refl 5189) ok1 rfl rfl (Nat.le_of_ble_eq_true rfl) f2 hP hS hl.1 dL_262 (fun H2 locs2 hP hS => ?_)
  refine lv_icmp_eq (tgt := 640) hx hb dL_265 (by decide) (fun _ => ?_) (fun hne => absurd rfl hne)
  exact hk σ2 _ _ f3 hP hS
set_option maxHeartbeats 4000000 in
theorem lw_c7 {p : Program} {l : Launch} {e : Env} {s : State} {m : MethodId} {below : List Frame} {meth : Method} {c : Code} {D : va_G} {dA : Bool → ClassId} {b L : Nat} {xs : Nat → Int32} (C0 : lw_At p s m meth c b L xs) (X : si_Ctx p s m #[Value.ref b] c D dA gcl code RL 4) (I : si_M → Prop) (hf : (∀ a b : Int32, ∀ σ, I σ → ∃ (r : Int32) (σ1 σ2 : si_M), si_sc gP nX8_symbol (.ref 0 :: [.int a, .int b]) σ = some (some (.int r), σ1) ∧ si_sc gP nX9_symbol (.ref 29 :: [.int a, .int b]) σ1 = some (some (.int r), σ2) ∧ I σ2)) (i : Nat) (hi : 3 * i + 3 ≤ L) (hL : L ≤ 1536) (σ : si_M) (hI : I σ) (H : Heap) (locs : List Loc) (ls : Array Slot) (hP : va_P D gcl (si_W dA s.heap.size gsh σ) H) (hS : va_S (fun q => s.heap.size ≤ q) s.heap H locs) (hl : lv_has ls 4 [(0, .ref b), (1, .ref (s.heap.size + 0)), (2, .ref (s.heap.size + 29)), (3, .int (nI (3 * i)))])
    (hk : ∀ (σ2 : si_M) (H2 : Heap) (locs2 : List Loc), I σ2 → va_P D gcl (si_W dA s.heap.size gsh σ2) H2 → va_S (fun q => s.heap.size ≤ q) s.heap H2 locs2 → W p l e room_1 s m #[Value.ref b] below meth c H2 locs2 45 5189 (lw_Z below #[Value.ref b] s) (F0 m 640 ls [])) : W p l e room_1 s m #[Value.ref b] below meth c H locs 45 5189 (lw_Z below #[Value.ref b] s) (F0 m 270 ls []) := by
  obtain ⟨hx, hb, hr, hml, hown, htsw, hX, hbl, hlocks, hgv⟩ := C0
  have hbA : ¬ (fun q : Nat => s.heap.size ≤ q) b := Nat.not_le.mpr hbl
  have e1 : nI (3 * i) + 1 = nI (3 * i + 1) := nI_add _ _
  have v1 : vp_in (nI (3 * i) + 1) L := by rw [e1]; exact vp_in_nI (by omega) (by omega)
  have e2 : nI (3 * i) + 2 = nI (3 * i + 2) := nI_add _ _
  have v2 : vp_in (nI (3 * i) + 2) L := by rw [e2]; exact vp_in_nI (by omega) (by omega)
  obtain ⟨r, σ1, σ2, f1, f2, f3⟩ := hf (xs (nI (3 * i) + 1).toNatClampNeg) (xs (nI (3 * i) + 2).toNatClampNeg) σ hI
  refine lv_aload_n hx hb dL_270 rfl (lv_at hl 1 rfl) ?_
  refine lv_aload_n hx hb dL_271 rfl (lv_at hl 0 rfl) ?_
  refine lv_iload_n hx hb dL_272 rfl (lv_at hl 3 rfl) ?_
  refine lv_iconst (v := 1) hx hb dL_273 (by decide) ?_
  refine lv_iadd hx hb dL_274 ?_
  refine va_sld hx hb hX hbl hbA hS v1 dL_275 ?_
  refine lv_aload_n hx hb dL_276 rfl (lv_at hl 0 rfl) ?_
  refine lv_iload_n hx hb dL_277 rfl (lv_at hl 3 rfl) ?_
  refine lv_iconst (v := 2) hx hb dL_278 (by decide) ?_
  refine lv_iadd hx hb dL_279 ?_
  refine va_sld hx hb hX hbl hbA hS v2 dL_280 ?_
  have ok0 : si_cok gmt gcl RL 11 418 44 [87, 2, 1, 7, 504, 505, 91, 507, 506] true = true := by decide +kernel
  refine lw_call X (rc := 1) (q := 0) (as := [.int (xs (nI (3 * i) + 1).toNatClampNeg), .int (xs (nI (3 * i) + 2).toNatClampNeg)]) (rest := []) (fr := 11) (lo := 418) (Nat.le_refl 11) (Nat.le_refl 418) (Nat.le_refl 45) (Nat.le_refl 5189) ok0 rfl rfl (Nat.le_of_ble_eq_true rfl) f1 hP hS hl.1 dL_281 (fun H1 locs1 hP hS => ?_)
  refine lv_aload_n hx hb dL_284 rfl (lv_at hl 2 rfl) ?_
  refine lv_aload_n hx hb dL_285 rfl (lv_at hl 0 rfl) ?_
  refine lv_iload_n hx hb dL_286 rfl (lv_at hl 3 rfl) ?_
  refine lv_iconst (v := 1) hx hb dL_287 (by decide) ?_
  refine lv_iadd hx hb dL_288 ?_
  refine va_sld hx hb hX hbl hbA hS v1 dL_289 ?_
  refine lv_aload_n hx hb dL_290 rfl (lv_at hl 0 rfl) ?_
  refine lv_iload_n hx hb dL_291 rfl (lv_at hl 3 rfl) ?_
  refine lv_iconst (v := 2) hx hb dL_292 (by decide) ?_
  refine lv_iadd hx hb dL_293 ?_
  refine va_sld hx hb hX hbl hbA hS v2 dL_294 ?_
  have ok1 : si_cok gmt gcl RL 11 418 48 [90, 2, 1, 8, 1144, 1145, 99, 1147, 1146] true = true := by decide +kernel
  refine lw_call X (rc := 1) (q := 29) (as := [.int (xs (nI (3 * i) + 1).toNatClampNeg), .int (xs (nI (3 * i) + 2).toNatClampNeg)]) (rest := [.int r]) (fr := 11) (lo := 418) (Nat.le_refl 11) (Nat.le_refl 418) (Nat.le_refl 45) (Nat.le_refl 5189) ok1 rfl rfl (Nat.le_of_ble_eq_true rfl) f2 hP hS hl.1 dL_295 (fun H2 locs2 hP hS => ?_)
  refine lv_icmp_eq (tgt := 640) hx hb dL_298 (by decide) (fun _ => ?_) (fun hne => absurd rfl hne)
  exact hk σ2 _ _ f3 hP hS
set_option maxHeartbeats 4000000 in
theorem lw_c8 {p : Program} {l : Launch} {e : Env} {s : State} {m : MethodId} {below : List Frame} {meth : Method} {c : Code} {D : va_G} {dA : Bool → ClassId} {b L : Nat} {xs : Nat → Int32} (C0 : lw_At p s m meth c b L xs) (X : si_Ctx p s m #[Value.ref b] c D dA gcl code RL 4) (I : si_M → Prop) (hf : (∀ σ, I σ → ∃ (r : Int32) (σ1 σ2 : si_M), si_sc gP nX8_nullableSet (.ref 0 :: []) σ = some (some (.int r), σ1) ∧ si_sc gP nX9_nullableSet (.ref 29 :: []) σ1 = some (some (.int r), σ2) ∧ I σ2)) (i : Nat) (hi : 3 * i + 3 ≤ L) (hL : L ≤ 1536) (σ : si_M) (hI : I σ) (H : Heap) (locs : List Loc) (ls : Array Slot) (hP : va_P D gcl (si_W dA s.heap.size gsh σ) H) (hS : va_S (fun q => s.heap.size ≤ q) s.heap H locs) (hl : lv_has ls 4 [(0, .ref b), (1, .ref (s.heap.size + 0)), (2, .ref (s.heap.size + 29)), (3, .int (nI (3 * i)))])
    (hk : ∀ (σ2 : si_M) (H2 : Heap) (locs2 : List Loc), I σ2 → va_P D gcl (si_W dA s.heap.size gsh σ2) H2 → va_S (fun q => s.heap.size ≤ q) s.heap H2 locs2 → W p l e room_1 s m #[Value.ref b] below meth c H2 locs2 45 5189 (lw_Z below #[Value.ref b] s) (F0 m 640 ls [])) : W p l e room_1 s m #[Value.ref b] below meth c H locs 45 5189 (lw_Z below #[Value.ref b] s) (F0 m 303 ls []) := by
  obtain ⟨hx, hb, hr, hml, hown, htsw, hX, hbl, hlocks, hgv⟩ := C0
  have hbA : ¬ (fun q : Nat => s.heap.size ≤ q) b := Nat.not_le.mpr hbl
  obtain ⟨r, σ1, σ2, f1, f2, f3⟩ := hf  σ hI
  refine lv_aload_n hx hb dL_303 rfl (lv_at hl 1 rfl) ?_
  have ok0 : si_cok gmt gcl RL 11 418 49 [94, 0, 1, 7, 516, 517, 91, 519, 518] true = true := by decide +kernel
  refine lw_call X (rc := 1) (q := 0) (as := []) (rest := []) (fr := 11) (lo := 418) (Nat.le_refl 11) (Nat.le_refl 418) (Nat.le_refl 45) (Nat.le_refl 5189) ok0 rfl rfl (Nat.le_of_ble_eq_true rfl) f1 hP hS hl.1 dL_304 (fun H1 locs1 hP hS => ?_)
  refine lv_aload_n hx hb dL_307 rfl (lv_at hl 2 rfl) ?_
  have ok1 : si_cok gmt gcl RL 11 418 52 [98, 0, 1, 8, 1154, 1155, 99, 1157, 1156] true = true := by decide +kernel
  refine lw_call X (rc := 1) (q := 29) (as := []) (rest := [.int r]) (fr := 11) (lo := 418) (Nat.le_refl 11) (Nat.le_refl 418) (Nat.le_refl 45) (Nat.le_refl 5189) ok1 rfl rfl (Nat.le_of_ble_eq_true rfl) f2 hP hS hl.1 dL_308 (fun H2 locs2 hP hS => ?_)
  refine lv_icmp_eq (tgt := 640) hx hb dL_311 (by decide) (fun _ => ?_) (fun hne => absurd rfl hne)
  exact hk σ2 _ _ f3 hP hS
set_option maxHeartbeats 4000000 in
theorem lw_c9 {p : Program} {l : Launch} {e : Env} {s : State} {m : MethodId} {below : List Frame} {meth : Method} {c : Code} {D : va_G} {dA : Bool → ClassId} {b L : Nat} {xs : Nat → Int32} (C0 : lw_At p s m meth c b L xs) (X : si_Ctx p s m #[Value.ref b] c D dA gcl code RL 4) (I : si_M → Prop) (hf : (∀ σ, I σ → ∃ (r : Int32) (σ1 σ2 : si_M), si_sc gP nX8_productiveSet (.ref 0 :: []) σ = some (some (.int r), σ1) ∧ si_sc gP nX9_productiveSet (.ref 29 :: []) σ1 = some (some (.int r), σ2) ∧ I σ2)) (i : Nat) (hi : 3 * i + 3 ≤ L) (hL : L ≤ 1536) (σ : si_M) (hI : I σ) (H : Heap) (locs : List Loc) (ls : Array Slot) (hP : va_P D gcl (si_W dA s.heap.size gsh σ) H) (hS : va_S (fun q => s.heap.size ≤ q) s.heap H locs) (hl : lv_has ls 4 [(0, .ref b), (1, .ref (s.heap.size + 0)), (2, .ref (s.heap.size + 29)), (3, .int (nI (3 * i)))])
    (hk : ∀ (σ2 : si_M) (H2 : Heap) (locs2 : List Loc), I σ2 → va_P D gcl (si_W dA s.heap.size gsh σ2) H2 → va_S (fun q => s.heap.size ≤ q) s.heap H2 locs2 → W p l e room_1 s m #[Value.ref b] below meth c H2 locs2 45 5189 (lw_Z below #[Value.ref b] s) (F0 m 640 ls [])) : W p l e room_1 s m #[Value.ref b] below meth c H locs 45 5189 (lw_Z below #[Value.ref b] s) (F0 m 316 ls []) := by
  obtain ⟨hx, hb, hr, hml, hown, htsw, hX, hbl, hlocks, hgv⟩ := C0
  have hbA : ¬ (fun q : Nat => s.heap.size ≤ q) b := Nat.not_le.mpr hbl
  obtain ⟨r, σ1, σ2, f1, f2, f3⟩ := hf  σ hI
  refine lv_aload_n hx hb dL_316 rfl (lv_at hl 1 rfl) ?_
  have ok0 : si_cok gmt gcl RL 11 418 53 [100, 0, 1, 7, 533, 534, 91, 536, 535] true = true := by decide +kernel
  refine lw_call X (rc := 1) (q := 0) (as := []) (rest := []) (fr := 11) (lo := 418) (Nat.le_refl 11) (Nat.le_refl 418) (Nat.le_refl 45) (Nat.le_refl 5189) ok0 rfl rfl (Nat.le_of_ble_eq_true rfl) f1 hP hS hl.1 dL_317 (fun H1 locs1 hP hS => ?_)
  refine lv_aload_n hx hb dL_320 rfl (lv_at hl 2 rfl) ?_
  have ok1 : si_cok gmt gcl RL 11 418 56 [102, 0, 1, 8, 1169, 1170, 99, 1172, 1171] true = true := by decide +kernel
  refine lw_call X (rc := 1) (q := 29) (as := []) (rest := [.int r]) (fr := 11) (lo := 418) (Nat.le_refl 11) (Nat.le_refl 418) (Nat.le_refl 45) (Nat.le_refl 5189) ok1 rfl rfl (Nat.le_of_ble_eq_true rfl) f2 hP hS hl.1 dL_321 (fun H2 locs2 hP hS => ?_)
  refine lv_icmp_eq (tgt := 640) hx hb dL_324 (by decide) (fun _ => ?_) (fun hne => absurd rfl hne)
  exact hk σ2 _ _ f3 hP hS
set_option maxHeartbeats 4000000 in
theorem lw_c10 {p : Program} {l : Launch} {e : Env} {s : State} {m : MethodId} {below : List Frame} {meth : Method} {c : Code} {D : va_G} {dA : Bool → ClassId} {b L : Nat} {xs : Nat → Int32} (C0 : lw_At p s m meth c b L xs) (X : si_Ctx p s m #[Value.ref b] c D dA gcl code RL 4) (I : si_M → Prop) (hf : (∀ σ, I σ → ∃ (r : Int32) (σ1 σ2 : si_M), si_sc gP nX8_reachableSet (.ref 0 :: []) σ = some (some (.int r), σ1) ∧ si_sc gP nX9_reachableSet (.ref 29 :: []) σ1 = some (some (.int r), σ2) ∧ I σ2)) (i : Nat) (hi : 3 * i + 3 ≤ L) (hL : L ≤ 1536) (σ : si_M) (hI : I σ) (H : Heap) (locs : List Loc) (ls : Array Slot) (hP : va_P D gcl (si_W dA s.heap.size gsh σ) H) (hS : va_S (fun q => s.heap.size ≤ q) s.heap H locs) (hl : lv_has ls 4 [(0, .ref b), (1, .ref (s.heap.size + 0)), (2, .ref (s.heap.size + 29)), (3, .int (nI (3 * i)))])
    (hk : ∀ (σ2 : si_M) (H2 : Heap) (locs2 : List Loc), I σ2 → va_P D gcl (si_W dA s.heap.size gsh σ2) H2 → va_S (fun q => s.heap.size ≤ q) s.heap H2 locs2 → W p l e room_1 s m #[Value.ref b] below meth c H2 locs2 45 5189 (lw_Z below #[Value.ref b] s) (F0 m 640 ls [])) : W p l e room_1 s m #[Value.ref b] below meth c H locs 45 5189 (lw_Z below #[Value.ref b] s) (F0 m 329 ls []) := by
  obtain ⟨hx, hb, hr, hml, hown, htsw, hX, hbl, hlocks, hgv⟩ := C0
  have hbA : ¬ (fun q : Nat => s.heap.size ≤ q) b := Nat.not_le.mpr hbl
  obtain ⟨r, σ1, σ2, f1, f2, f3⟩ := hf  σ hI
  refine lv_aload_n hx hb dL_329 rfl (lv_at hl 1 rfl) ?_
  have ok0 : si_cok gmt gcl RL 11 418 57 [105, 0, 1, 7, 542, 543, 91, 545, 544] true = true := by decide +kernel
  refine lw_call X (rc := 1) (q := 0) (as := []) (rest := []) (fr := 11) (lo := 418) (Nat.le_refl 11) (Nat.le_refl 418) (Nat.le_refl 45) (Nat.le_refl 5189) ok0 rfl rfl (Nat.le_of_ble_eq_true rfl) f1 hP hS hl.1 dL_330 (fun H1 locs1 hP hS => ?_)
  refine lv_aload_n hx hb dL_333 rfl (lv_at hl 2 rfl) ?_
  have ok1 : si_cok gmt gcl RL 11 418 60 [107, 0, 1, 8, 1177, 1178, 99, 1180, 1179] true = true := by decide +kernel
  refine lw_call X (rc := 1) (q := 29) (as := []) (rest := [.int r]) (fr := 11) (lo := 418) (Nat.le_refl 11) (Nat.le_refl 418) (Nat.le_refl 45) (Nat.le_refl 5189) ok1 rfl rfl (Nat.le_of_ble_eq_true rfl) f2 hP hS hl.1 dL_334 (fun H2 locs2 hP hS => ?_)
  refine lv_icmp_eq (tgt := 640) hx hb dL_337 (by decide) (fun _ => ?_) (fun hne => absurd rfl hne)
  exact hk σ2 _ _ f3 hP hS
set_option maxHeartbeats 4000000 in
theorem lw_c11 {p : Program} {l : Launch} {e : Env} {s : State} {m : MethodId} {below : List Frame} {meth : Method} {c : Code} {D : va_G} {dA : Bool → ClassId} {b L : Nat} {xs : Nat → Int32} (C0 : lw_At p s m meth c b L xs) (X : si_Ctx p s m #[Value.ref b] c D dA gcl code RL 4) (I : si_M → Prop) (hf : (∀ σ, I σ → ∃ (r : Int32) (σ1 σ2 : si_M), si_sc gP nX8_leftRecursiveSet (.ref 0 :: []) σ = some (some (.int r), σ1) ∧ si_sc gP nX9_leftRecursiveSet (.ref 29 :: []) σ1 = some (some (.int r), σ2) ∧ I σ2)) (i : Nat) (hi : 3 * i + 3 ≤ L) (hL : L ≤ 1536) (σ : si_M) (hI : I σ) (H : Heap) (locs : List Loc) (ls : Array Slot) (hP : va_P D gcl (si_W dA s.heap.size gsh σ) H) (hS : va_S (fun q => s.heap.size ≤ q) s.heap H locs) (hl : lv_has ls 4 [(0, .ref b), (1, .ref (s.heap.size + 0)), (2, .ref (s.heap.size + 29)), (3, .int (nI (3 * i)))])
    (hk : ∀ (σ2 : si_M) (H2 : Heap) (locs2 : List Loc), I σ2 → va_P D gcl (si_W dA s.heap.size gsh σ2) H2 → va_S (fun q => s.heap.size ≤ q) s.heap H2 locs2 → W p l e room_1 s m #[Value.ref b] below meth c H2 locs2 45 5189 (lw_Z below #[Value.ref b] s) (F0 m 640 ls [])) : W p l e room_1 s m #[Value.ref b] below meth c H locs 45 5189 (lw_Z below #[Value.ref b] s) (F0 m 342 ls []) := by
  obtain ⟨hx, hb, hr, hml, hown, htsw, hX, hbl, hlocks, hgv⟩ := C0
  have hbA : ¬ (fun q : Nat => s.heap.size ≤ q) b := Nat.not_le.mpr hbl
  obtain ⟨r, σ1, σ2, f1, f2, f3⟩ := hf  σ hI
  refine lv_aload_n hx hb dL_342 rfl (lv_at hl 1 rfl) ?_
  have ok0 : si_cok gmt gcl RL 11 418 61 [110, 0, 1, 7, 556, 557, 91, 559, 558] true = true := by decide +kernel
  refine lw_call X (rc := 1) (q := 0) (as := []) (rest := []) (fr := 11) (lo := 418) (Nat.le_refl 11) (Nat.le_refl 418) (Nat.le_refl 45) (Nat.le_refl 5189) ok0 rfl rfl (Nat.le_of_ble_eq_true rfl) f1 hP hS hl.1 dL_343 (fun H1 locs1 hP hS => ?_)
  refine lv_aload_n hx hb dL_346 rfl (lv_at hl 2 rfl) ?_
  have ok1 : si_cok gmt gcl RL 11 418 64 [112, 0, 1, 8, 1184, 1185, 99, 1187, 1186] true = true := by decide +kernel
  refine lw_call X (rc := 1) (q := 29) (as := []) (rest := [.int r]) (fr := 11) (lo := 418) (Nat.le_refl 11) (Nat.le_refl 418) (Nat.le_refl 45) (Nat.le_refl 5189) ok1 rfl rfl (Nat.le_of_ble_eq_true rfl) f2 hP hS hl.1 dL_347 (fun H2 locs2 hP hS => ?_)
  refine lv_icmp_eq (tgt := 640) hx hb dL_350 (by decide) (fun _ => ?_) (fun hne => absurd rfl hne)
  exact hk σ2 _ _ f3 hP hS
set_option maxHeartbeats 4000000 in
theorem lw_c12 {p : Program} {l : Launch} {e : Env} {s : State} {m : MethodId} {below : List Frame} {meth : Method} {c : Code} {D : va_G} {dA : Bool → ClassId} {b L : Nat} {xs : Nat → Int32} (C0 : lw_At p s m meth c b L xs) (X : si_Ctx p s m #[Value.ref b] c D dA gcl code RL 4) (I : si_M → Prop) (hf : (∀ a : Int32, ∀ σ, I σ → ∃ (r : Int32) (σ1 σ2 : si_M), si_sc gP nX8_unitReach (.ref 0 :: [.int a]) σ = some (some (.int r), σ1) ∧ si_sc gP nX9_unitReach (.ref 29 :: [.int a]) σ1 = some (some (.int r), σ2) ∧ I σ2)) (i : Nat) (hi : 3 * i + 3 ≤ L) (hL : L ≤ 1536) (σ : si_M) (hI : I σ) (H : Heap) (locs : List Loc) (ls : Array Slot) (hP : va_P D gcl (si_W dA s.heap.size gsh σ) H) (hS : va_S (fun q => s.heap.size ≤ q) s.heap H locs) (hl : lv_has ls 4 [(0, .ref b), (1, .ref (s.heap.size + 0)), (2, .ref (s.heap.size + 29)), (3, .int (nI (3 * i)))])
    (hk : ∀ (σ2 : si_M) (H2 : Heap) (locs2 : List Loc), I σ2 → va_P D gcl (si_W dA s.heap.size gsh σ2) H2 → va_S (fun q => s.heap.size ≤ q) s.heap H2 locs2 → W p l e room_1 s m #[Value.ref b] below meth c H2 locs2 45 5189 (lw_Z below #[Value.ref b] s) (F0 m 640 ls [])) : W p l e room_1 s m #[Value.ref b] below meth c H locs 45 5189 (lw_Z below #[Value.ref b] s) (F0 m 355 ls []) := by
  obtain ⟨hx, hb, hr, hml, hown, htsw, hX, hbl, hlocks, hgv⟩ := C0
  have hbA : ¬ (fun q : Nat => s.heap.size ≤ q) b := Nat.not_le.mpr hbl
  have e1 : nI (3 * i) + 1 = nI (3 * i + 1) := nI_add _ _
  have v1 : vp_in (nI (3 * i) + 1) L := by rw [e1]; exact vp_in_nI (by omega) (by omega)
  obtain ⟨r, σ1, σ2, f1, f2, f3⟩ := hf (xs (nI (3 * i) + 1).toNatClampNeg) σ hI
  refine lv_aload_n hx hb dL_355 rfl (lv_at hl 1 rfl) ?_
  refine lv_aload_n hx hb dL_356 rfl (lv_at hl 0 rfl) ?_
  refine lv_iload_n hx hb dL_357 rfl (lv_at hl 3 rfl) ?_
  refine lv_iconst (v := 1) hx hb dL_358 (by decide) ?_
  refine lv_iadd hx hb dL_359 ?_
  refine va_sld hx hb hX hbl hbA hS v1 dL_360 ?_
  have ok0 : si_cok gmt gcl RL 11 418 65 [113, 1, 1, 7, 568, 569, 91, 571, 570] true = true := by decide +kernel
  refine lw_call X (rc := 1) (q := 0) (as := [.int (xs (nI (3 * i) + 1).toNatClampNeg)]) (rest := []) (fr := 11) (lo := 418) (Nat.le_refl 11) (Nat.le_refl 418) (Nat.le_refl 45) (Nat.le_refl 5189) ok0 rfl rfl (Nat.le_of_ble_eq_true rfl) f1 hP hS hl.1 dL_361 (fun H1 locs1 hP hS => ?_)
  refine lv_aload_n hx hb dL_364 rfl (lv_at hl 2 rfl) ?_
  refine lv_aload_n hx hb dL_365 rfl (lv_at hl 0 rfl) ?_
  refine lv_iload_n hx hb dL_366 rfl (lv_at hl 3 rfl) ?_
  refine lv_iconst (v := 1) hx hb dL_367 (by decide) ?_
  refine lv_iadd hx hb dL_368 ?_
  refine va_sld hx hb hX hbl hbA hS v1 dL_369 ?_
  have ok1 : si_cok gmt gcl RL 11 418 68 [115, 1, 1, 8, 1192, 1193, 99, 1195, 1194] true = true := by decide +kernel
  refine lw_call X (rc := 1) (q := 29) (as := [.int (xs (nI (3 * i) + 1).toNatClampNeg)]) (rest := [.int r]) (fr := 11) (lo := 418) (Nat.le_refl 11) (Nat.le_refl 418) (Nat.le_refl 45) (Nat.le_refl 5189) ok1 rfl rfl (Nat.le_of_ble_eq_true rfl) f2 hP hS hl.1 dL_370 (fun H2 locs2 hP hS => ?_)
  refine lv_icmp_eq (tgt := 640) hx hb dL_373 (by decide) (fun _ => ?_) (fun hne => absurd rfl hne)
  exact hk σ2 _ _ f3 hP hS
set_option maxHeartbeats 4000000 in
theorem lw_c13 {p : Program} {l : Launch} {e : Env} {s : State} {m : MethodId} {below : List Frame} {meth : Method} {c : Code} {D : va_G} {dA : Bool → ClassId} {b L : Nat} {xs : Nat → Int32} (C0 : lw_At p s m meth c b L xs) (X : si_Ctx p s m #[Value.ref b] c D dA gcl code RL 4) (I : si_M → Prop) (hf : (∀ a : Int32, ∀ σ, I σ → ∃ (r : Int32) (σ1 σ2 : si_M), si_sc gP nX8_firstSet (.ref 0 :: [.int a]) σ = some (some (.int r), σ1) ∧ si_sc gP nX9_firstSet (.ref 29 :: [.int a]) σ1 = some (some (.int r), σ2) ∧ I σ2)) (i : Nat) (hi : 3 * i + 3 ≤ L) (hL : L ≤ 1536) (σ : si_M) (hI : I σ) (H : Heap) (locs : List Loc) (ls : Array Slot) (hP : va_P D gcl (si_W dA s.heap.size gsh σ) H) (hS : va_S (fun q => s.heap.size ≤ q) s.heap H locs) (hl : lv_has ls 4 [(0, .ref b), (1, .ref (s.heap.size + 0)), (2, .ref (s.heap.size + 29)), (3, .int (nI (3 * i)))])
    (hk : ∀ (σ2 : si_M) (H2 : Heap) (locs2 : List Loc), I σ2 → va_P D gcl (si_W dA s.heap.size gsh σ2) H2 → va_S (fun q => s.heap.size ≤ q) s.heap H2 locs2 → W p l e room_1 s m #[Value.ref b] below meth c H2 locs2 45 5189 (lw_Z below #[Value.ref b] s) (F0 m 640 ls [])) : W p l e room_1 s m #[Value.ref b] below meth c H locs 45 5189 (lw_Z below #[Value.ref b] s) (F0 m 378 ls []) := by
  obtain ⟨hx, hb, hr, hml, hown, htsw, hX, hbl, hlocks, hgv⟩ := C0
  have hbA : ¬ (fun q : Nat => s.heap.size ≤ q) b := Nat.not_le.mpr hbl
  have e1 : nI (3 * i) + 1 = nI (3 * i + 1) := nI_add _ _
  have v1 : vp_in (nI (3 * i) + 1) L := by rw [e1]; exact vp_in_nI (by omega) (by omega)
  obtain ⟨r, σ1, σ2, f1, f2, f3⟩ := hf (xs (nI (3 * i) + 1).toNatClampNeg) σ hI
  refine lv_aload_n hx hb dL_378 rfl (lv_at hl 1 rfl) ?_
  refine lv_aload_n hx hb dL_379 rfl (lv_at hl 0 rfl) ?_
  refine lv_iload_n hx hb dL_380 rfl (lv_at hl 3 rfl) ?_
  refine lv_iconst (v := 1) hx hb dL_381 (by decide) ?_
  refine lv_iadd hx hb dL_382 ?_
  refine va_sld hx hb hX hbl hbA hS v1 dL_383 ?_
  have ok0 : si_cok gmt gcl RL 11 418 69 [125, 1, 1, 7, 572, 573, 91, 575, 574] true = true := by decide +kernel
  refine lw_call X (rc := 1) (q := 0) (as := [.int (xs (nI (3 * i) + 1).toNatClampNeg)]) (rest := []) (fr := 11) (lo := 418) (Nat.le_refl 11) (Nat.le_refl 418) (Nat.le_refl 45) (Nat.le_refl 5189) ok0 rfl rfl (Nat.le_of_ble_eq_true rfl) f1 hP hS hl.1 dL_384 (fun H1 locs1 hP hS => ?_)
  refine lv_aload_n hx hb dL_387 rfl (lv_at hl 2 rfl) ?_
  refine lv_aload_n hx hb dL_388 rfl (lv_at hl 0 rfl) ?_
  refine lv_iload_n hx hb dL_389 rfl (lv_at hl 3 rfl) ?_
  refine lv_iconst (v := 1) hx hb dL_390 (by decide) ?_
  refine lv_iadd hx hb dL_391 ?_
  refine va_sld hx hb hX hbl hbA hS v1 dL_392 ?_
  have ok1 : si_cok gmt gcl RL 11 418 72 [129, 1, 1, 8, 1199, 1200, 99, 1202, 1201] true = true := by decide +kernel
  refine lw_call X (rc := 1) (q := 29) (as := [.int (xs (nI (3 * i) + 1).toNatClampNeg)]) (rest := [.int r]) (fr := 11) (lo := 418) (Nat.le_refl 11) (Nat.le_refl 418) (Nat.le_refl 45) (Nat.le_refl 5189) ok1 rfl rfl (Nat.le_of_ble_eq_true rfl) f2 hP hS hl.1 dL_393 (fun H2 locs2 hP hS => ?_)
  refine lv_icmp_eq (tgt := 640) hx hb dL_396 (by decide) (fun _ => ?_) (fun hne => absurd rfl hne)
  exact hk σ2 _ _ f3 hP hS
set_option maxHeartbeats 4000000 in
theorem lw_c14 {p : Program} {l : Launch} {e : Env} {s : State} {m : MethodId} {below : List Frame} {meth : Method} {c : Code} {D : va_G} {dA : Bool → ClassId} {b L : Nat} {xs : Nat → Int32} (C0 : lw_At p s m meth c b L xs) (X : si_Ctx p s m #[Value.ref b] c D dA gcl code RL 4) (I : si_M → Prop) (hf : (∀ a : Int32, ∀ σ, I σ → ∃ (r : Int32) (σ1 σ2 : si_M), si_sc gP nX8_followSet (.ref 0 :: [.int a]) σ = some (some (.int r), σ1) ∧ si_sc gP nX9_followSet (.ref 29 :: [.int a]) σ1 = some (some (.int r), σ2) ∧ I σ2)) (i : Nat) (hi : 3 * i + 3 ≤ L) (hL : L ≤ 1536) (σ : si_M) (hI : I σ) (H : Heap) (locs : List Loc) (ls : Array Slot) (hP : va_P D gcl (si_W dA s.heap.size gsh σ) H) (hS : va_S (fun q => s.heap.size ≤ q) s.heap H locs) (hl : lv_has ls 4 [(0, .ref b), (1, .ref (s.heap.size + 0)), (2, .ref (s.heap.size + 29)), (3, .int (nI (3 * i)))])
    (hk : ∀ (σ2 : si_M) (H2 : Heap) (locs2 : List Loc), I σ2 → va_P D gcl (si_W dA s.heap.size gsh σ2) H2 → va_S (fun q => s.heap.size ≤ q) s.heap H2 locs2 → W p l e room_1 s m #[Value.ref b] below meth c H2 locs2 45 5189 (lw_Z below #[Value.ref b] s) (F0 m 640 ls [])) : W p l e room_1 s m #[Value.ref b] below meth c H locs 45 5189 (lw_Z below #[Value.ref b] s) (F0 m 401 ls []) := by
  obtain ⟨hx, hb, hr, hml, hown, htsw, hX, hbl, hlocks, hgv⟩ := C0
  have hbA : ¬ (fun q : Nat => s.heap.size ≤ q) b := Nat.not_le.mpr hbl
  have e1 : nI (3 * i) + 1 = nI (3 * i + 1) := nI_add _ _
  have v1 : vp_in (nI (3 * i) + 1) L := by rw [e1]; exact vp_in_nI (by omega) (by omega)
  obtain ⟨r, σ1, σ2, f1, f2, f3⟩ := hf (xs (nI (3 * i) + 1).toNatClampNeg) σ hI
  refine lv_aload_n hx hb dL_401 rfl (lv_at hl 1 rfl) ?_
  refine lv_aload_n hx hb dL_402 rfl (lv_at hl 0 rfl) ?_
  refine lv_iload_n hx hb dL_403 rfl (lv_at hl 3 rfl) ?_
  refine lv_iconst (v := 1) hx hb dL_404 (by decide) ?_
  refine lv_iadd hx hb dL_405 ?_
  refine va_sld hx hb hX hbl hbA hS v1 dL_406 ?_
  have ok0 : si_cok gmt gcl RL 11 418 73 [130, 1, 1, 7, 622, 623, 91, 625, 624] true = true := by decide +kernel
  refine lw_call X (rc := 1) (q := 0) (as := [.int (xs (nI (3 * i) + 1).toNatClampNeg)]) (rest := []) (fr := 11) (lo := 418) (Nat.le_refl 11) (Nat.le_refl 418) (Nat.le_refl 45) (Nat.le_refl 5189) ok0 rfl rfl (Nat.le_of_ble_eq_true rfl) f1 hP hS hl.1 dL_407 (fun H1 locs1 hP hS => ?_)
  refine lv_aload_n hx hb dL_410 rfl (lv_at hl 2 rfl) ?_
  refine lv_aload_n hx hb dL_411 rfl (lv_at hl 0 rfl) ?_
  refine lv_iload_n hx hb dL_412 rfl (lv_at hl 3 rfl) ?_
  refine lv_iconst (v := 1) hx hb dL_413 (by decide) ?_
  refine lv_iadd hx hb dL_414 ?_
  refine va_sld hx hb hX hbl hbA hS v1 dL_415 ?_
  have ok1 : si_cok gmt gcl RL 11 418 76 [133, 1, 1, 8, 1215, 1216, 99, 1218, 1217] true = true := by decide +kernel
  refine lw_call X (rc := 1) (q := 29) (as := [.int (xs (nI (3 * i) + 1).toNatClampNeg)]) (rest := [.int r]) (fr := 11) (lo := 418) (Nat.le_refl 11) (Nat.le_refl 418) (Nat.le_refl 45) (Nat.le_refl 5189) ok1 rfl rfl (Nat.le_of_ble_eq_true rfl) f2 hP hS hl.1 dL_416 (fun H2 locs2 hP hS => ?_)
  refine lv_icmp_eq (tgt := 640) hx hb dL_419 (by decide) (fun _ => ?_) (fun hne => absurd rfl hne)
  exact hk σ2 _ _ f3 hP hS
set_option maxHeartbeats 4000000 in
theorem lw_c15 {p : Program} {l : Launch} {e : Env} {s : State} {m : MethodId} {below : List Frame} {meth : Method} {c : Code} {D : va_G} {dA : Bool → ClassId} {b L : Nat} {xs : Nat → Int32} (C0 : lw_At p s m meth c b L xs) (X : si_Ctx p s m #[Value.ref b] c D dA gcl code RL 4) (I : si_M → Prop) (hf : (∀ σ, I σ → ∃ (r : Int32) (σ1 σ2 : si_M), si_sc gP nX8_isLl1 (.ref 0 :: []) σ = some (some (.int r), σ1) ∧ si_sc gP nX9_isLl1 (.ref 29 :: []) σ1 = some (some (.int r), σ2) ∧ I σ2)) (i : Nat) (hi : 3 * i + 3 ≤ L) (hL : L ≤ 1536) (σ : si_M) (hI : I σ) (H : Heap) (locs : List Loc) (ls : Array Slot) (hP : va_P D gcl (si_W dA s.heap.size gsh σ) H) (hS : va_S (fun q => s.heap.size ≤ q) s.heap H locs) (hl : lv_has ls 4 [(0, .ref b), (1, .ref (s.heap.size + 0)), (2, .ref (s.heap.size + 29)), (3, .int (nI (3 * i)))])
    (hk : ∀ (σ2 : si_M) (H2 : Heap) (locs2 : List Loc), I σ2 → va_P D gcl (si_W dA s.heap.size gsh σ2) H2 → va_S (fun q => s.heap.size ≤ q) s.heap H2 locs2 → W p l e room_1 s m #[Value.ref b] below meth c H2 locs2 45 5189 (lw_Z below #[Value.ref b] s) (F0 m 640 ls [])) : W p l e room_1 s m #[Value.ref b] below meth c H locs 45 5189 (lw_Z below #[Value.ref b] s) (F0 m 424 ls []) := by
  obtain ⟨hx, hb, hr, hml, hown, htsw, hX, hbl, hlocks, hgv⟩ := C0
  have hbA : ¬ (fun q : Nat => s.heap.size ≤ q) b := Nat.not_le.mpr hbl
  obtain ⟨r, σ1, σ2, f1, f2, f3⟩ := hf  σ hI
  refine lv_aload_n hx hb dL_424 rfl (lv_at hl 1 rfl) ?_
  have ok0 : si_cok gmt gcl RL 11 418 77 [135, 0, 1, 7, 627, 628, 91, 630, 629] true = true := by decide +kernel
  refine lw_call X (rc := 1) (q := 0) (as := []) (rest := []) (fr := 11) (lo := 418) (Nat.le_refl 11) (Nat.le_refl 418) (Nat.le_refl 45) (Nat.le_refl 5189) ok0 rfl rfl (Nat.le_of_ble_eq_true rfl) f1 hP hS hl.1 dL_425 (fun H1 locs1 hP hS => ?_)
  refine lv_aload_n hx hb dL_428 rfl (lv_at hl 2 rfl) ?_
  have ok1 : si_cok gmt gcl RL 11 418 80 [137, 0, 1, 8, 1227, 1228, 99, 1230, 1229] true = true := by decide +kernel
  refine lw_call X (rc := 1) (q := 29) (as := []) (rest := [.int r]) (fr := 11) (lo := 418) (Nat.le_refl 11) (Nat.le_refl 418) (Nat.le_refl 45) (Nat.le_refl 5189) ok1 rfl rfl (Nat.le_of_ble_eq_true rfl) f2 hP hS hl.1 dL_429 (fun H2 locs2 hP hS => ?_)
  refine lv_icmp_eq (tgt := 640) hx hb dL_432 (by decide) (fun _ => ?_) (fun hne => absurd rfl hne)
  exact hk σ2 _ _ f3 hP hS
set_option maxHeartbeats 4000000 in
theorem lw_c16 {p : Program} {l : Launch} {e : Env} {s : State} {m : MethodId} {below : List Frame} {meth : Method} {c : Code} {D : va_G} {dA : Bool → ClassId} {b L : Nat} {xs : Nat → Int32} (C0 : lw_At p s m meth c b L xs) (X : si_Ctx p s m #[Value.ref b] c D dA gcl code RL 4) (I : si_M → Prop) (hf : (∀ σ, I σ → ∃ (r : Int32) (σ1 σ2 : si_M), si_sc gP nX8_isChomsky (.ref 0 :: []) σ = some (some (.int r), σ1) ∧ si_sc gP nX9_isChomsky (.ref 29 :: []) σ1 = some (some (.int r), σ2) ∧ I σ2)) (i : Nat) (hi : 3 * i + 3 ≤ L) (hL : L ≤ 1536) (σ : si_M) (hI : I σ) (H : Heap) (locs : List Loc) (ls : Array Slot) (hP : va_P D gcl (si_W dA s.heap.size gsh σ) H) (hS : va_S (fun q => s.heap.size ≤ q) s.heap H locs) (hl : lv_has ls 4 [(0, .ref b), (1, .ref (s.heap.size + 0)), (2, .ref (s.heap.size + 29)), (3, .int (nI (3 * i)))])
    (hk : ∀ (σ2 : si_M) (H2 : Heap) (locs2 : List Loc), I σ2 → va_P D gcl (si_W dA s.heap.size gsh σ2) H2 → va_S (fun q => s.heap.size ≤ q) s.heap H2 locs2 → W p l e room_1 s m #[Value.ref b] below meth c H2 locs2 45 5189 (lw_Z below #[Value.ref b] s) (F0 m 640 ls [])) : W p l e room_1 s m #[Value.ref b] below meth c H locs 45 5189 (lw_Z below #[Value.ref b] s) (F0 m 437 ls []) := by
  obtain ⟨hx, hb, hr, hml, hown, htsw, hX, hbl, hlocks, hgv⟩ := C0
  have hbA : ¬ (fun q : Nat => s.heap.size ≤ q) b := Nat.not_le.mpr hbl
  obtain ⟨r, σ1, σ2, f1, f2, f3⟩ := hf  σ hI
  refine lv_aload_n hx hb dL_437 rfl (lv_at hl 1 rfl) ?_
  have ok0 : si_cok gmt gcl RL 11 418 81 [139, 0, 1, 7, 635, 636, 91, 638, 637] true = true := by decide +kernel
  refine lw_call X (rc := 1) (q := 0) (as := []) (rest := []) (fr := 11) (lo := 418) (Nat.le_refl 11) (Nat.le_refl 418) (Nat.le_refl 45) (Nat.le_refl 5189) ok0 rfl rfl (Nat.le_of_ble_eq_true rfl) f1 hP hS hl.1 dL_438 (fun H1 locs1 hP hS => ?_)
  refine lv_aload_n hx hb dL_441 rfl (lv_at hl 2 rfl) ?_
  have ok1 : si_cok gmt gcl RL 11 418 84 [141, 0, 1, 8, 1235, 1236, 99, 1238, 1237] true = true := by decide +kernel
  refine lw_call X (rc := 1) (q := 29) (as := []) (rest := [.int r]) (fr := 11) (lo := 418) (Nat.le_refl 11) (Nat.le_refl 418) (Nat.le_refl 45) (Nat.le_refl 5189) ok1 rfl rfl (Nat.le_of_ble_eq_true rfl) f2 hP hS hl.1 dL_442 (fun H2 locs2 hP hS => ?_)
  refine lv_icmp_eq (tgt := 640) hx hb dL_445 (by decide) (fun _ => ?_) (fun hne => absurd rfl hne)
  exact hk σ2 _ _ f3 hP hS
set_option maxHeartbeats 4000000 in
theorem lw_c17 {p : Program} {l : Launch} {e : Env} {s : State} {m : MethodId} {below : List Frame} {meth : Method} {c : Code} {D : va_G} {dA : Bool → ClassId} {b L : Nat} {xs : Nat → Int32} (C0 : lw_At p s m meth c b L xs) (X : si_Ctx p s m #[Value.ref b] c D dA gcl code RL 4) (I : si_M → Prop) (hf : (∀ σ, I σ → ∃ (r : Int32) (σ1 σ2 : si_M), si_sc gP nX8_isGreibach (.ref 0 :: []) σ = some (some (.int r), σ1) ∧ si_sc gP nX9_isGreibach (.ref 29 :: []) σ1 = some (some (.int r), σ2) ∧ I σ2)) (i : Nat) (hi : 3 * i + 3 ≤ L) (hL : L ≤ 1536) (σ : si_M) (hI : I σ) (H : Heap) (locs : List Loc) (ls : Array Slot) (hP : va_P D gcl (si_W dA s.heap.size gsh σ) H) (hS : va_S (fun q => s.heap.size ≤ q) s.heap H locs) (hl : lv_has ls 4 [(0, .ref b), (1, .ref (s.heap.size + 0)), (2, .ref (s.heap.size + 29)), (3, .int (nI (3 * i)))])
    (hk : ∀ (σ2 : si_M) (H2 : Heap) (locs2 : List Loc), I σ2 → va_P D gcl (si_W dA s.heap.size gsh σ2) H2 → va_S (fun q => s.heap.size ≤ q) s.heap H2 locs2 → W p l e room_1 s m #[Value.ref b] below meth c H2 locs2 45 5189 (lw_Z below #[Value.ref b] s) (F0 m 640 ls [])) : W p l e room_1 s m #[Value.ref b] below meth c H locs 45 5189 (lw_Z below #[Value.ref b] s) (F0 m 450 ls []) := by
  obtain ⟨hx, hb, hr, hml, hown, htsw, hX, hbl, hlocks, hgv⟩ := C0
  have hbA : ¬ (fun q : Nat => s.heap.size ≤ q) b := Nat.not_le.mpr hbl
  obtain ⟨r, σ1, σ2, f1, f2, f3⟩ := hf  σ hI
  refine lv_aload_n hx hb dL_450 rfl (lv_at hl 1 rfl) ?_
  have ok0 : si_cok gmt gcl RL 11 418 85 [143, 0, 1, 7, 645, 646, 91, 648, 647] true = true := by decide +kernel
  refine lw_call X (rc := 1) (q := 0) (as := []) (rest := []) (fr := 11) (lo := 418) (Nat.le_refl 11) (Nat.le_refl 418) (Nat.le_refl 45) (Nat.le_refl 5189) ok0 rfl rfl (Nat.le_of_ble_eq_true rfl) f1 hP hS hl.1 dL_451 (fun H1 locs1 hP hS => ?_)
  refine lv_aload_n hx hb dL_454 rfl (lv_at hl 2 rfl) ?_
  have ok1 : si_cok gmt gcl RL 11 418 88 [145, 0, 1, 8, 1243, 1244, 99, 1246, 1245] true = true := by decide +kernel
  refine lw_call X (rc := 1) (q := 29) (as := []) (rest := [.int r]) (fr := 11) (lo := 418) (Nat.le_refl 11) (Nat.le_refl 418) (Nat.le_refl 45) (Nat.le_refl 5189) ok1 rfl rfl (Nat.le_of_ble_eq_true rfl) f2 hP hS hl.1 dL_455 (fun H2 locs2 hP hS => ?_)
  refine lv_icmp_eq (tgt := 640) hx hb dL_458 (by decide) (fun _ => ?_) (fun hne => absurd rfl hne)
  exact hk σ2 _ _ f3 hP hS
set_option maxHeartbeats 4000000 in
theorem lw_c18 {p : Program} {l : Launch} {e : Env} {s : State} {m : MethodId} {below : List Frame} {meth : Method} {c : Code} {D : va_G} {dA : Bool → ClassId} {b L : Nat} {xs : Nat → Int32} (C0 : lw_At p s m meth c b L xs) (X : si_Ctx p s m #[Value.ref b] c D dA gcl code RL 4) (I : si_M → Prop) (hf : (∀ σ, I σ → ∃ (r : Int32) (σ1 σ2 : si_M), si_sc gP nX8_removeUseless (.ref 0 :: []) σ = some (some (.int r), σ1) ∧ si_sc gP nX9_removeUseless (.ref 29 :: []) σ1 = some (some (.int r), σ2) ∧ I σ2)) (i : Nat) (hi : 3 * i + 3 ≤ L) (hL : L ≤ 1536) (σ : si_M) (hI : I σ) (H : Heap) (locs : List Loc) (ls : Array Slot) (hP : va_P D gcl (si_W dA s.heap.size gsh σ) H) (hS : va_S (fun q => s.heap.size ≤ q) s.heap H locs) (hl : lv_has ls 4 [(0, .ref b), (1, .ref (s.heap.size + 0)), (2, .ref (s.heap.size + 29)), (3, .int (nI (3 * i)))])
    (hk : ∀ (σ2 : si_M) (H2 : Heap) (locs2 : List Loc), I σ2 → va_P D gcl (si_W dA s.heap.size gsh σ2) H2 → va_S (fun q => s.heap.size ≤ q) s.heap H2 locs2 → W p l e room_1 s m #[Value.ref b] below meth c H2 locs2 45 5189 (lw_Z below #[Value.ref b] s) (F0 m 640 ls [])) : W p l e room_1 s m #[Value.ref b] below meth c H locs 45 5189 (lw_Z below #[Value.ref b] s) (F0 m 463 ls []) := by
  obtain ⟨hx, hb, hr, hml, hown, htsw, hX, hbl, hlocks, hgv⟩ := C0
  have hbA : ¬ (fun q : Nat => s.heap.size ≤ q) b := Nat.not_le.mpr hbl
  obtain ⟨r, σ1, σ2, f1, f2, f3⟩ := hf  σ hI
  refine lv_aload_n hx hb dL_463 rfl (lv_at hl 1 rfl) ?_
  have ok0 : si_cok gmt gcl RL 11 418 89 [152, 0, 1, 7, 652, 653, 91, 655, 654] true = true := by decide +kernel
  refine lw_call X (rc := 1) (q := 0) (as := []) (rest := []) (fr := 11) (lo := 418) (Nat.le_refl 11) (Nat.le_refl 418) (Nat.le_refl 45) (Nat.le_refl 5189) ok0 rfl rfl (Nat.le_of_ble_eq_true rfl) f1 hP hS hl.1 dL_464 (fun H1 locs1 hP hS => ?_)
  refine lv_aload_n hx hb dL_467 rfl (lv_at hl 2 rfl) ?_
  have ok1 : si_cok gmt gcl RL 11 418 92 [156, 0, 1, 8, 1251, 1252, 99, 1254, 1253] true = true := by decide +kernel
  refine lw_call X (rc := 1) (q := 29) (as := []) (rest := [.int r]) (fr := 11) (lo := 418) (Nat.le_refl 11) (Nat.le_refl 418) (Nat.le_refl 45) (Nat.le_refl 5189) ok1 rfl rfl (Nat.le_of_ble_eq_true rfl) f2 hP hS hl.1 dL_468 (fun H2 locs2 hP hS => ?_)
  refine lv_icmp_eq (tgt := 640) hx hb dL_471 (by decide) (fun _ => ?_) (fun hne => absurd rfl hne)
  exact hk σ2 _ _ f3 hP hS
set_option maxHeartbeats 4000000 in
theorem lw_c19 {p : Program} {l : Launch} {e : Env} {s : State} {m : MethodId} {below : List Frame} {meth : Method} {c : Code} {D : va_G} {dA : Bool → ClassId} {b L : Nat} {xs : Nat → Int32} (C0 : lw_At p s m meth c b L xs) (X : si_Ctx p s m #[Value.ref b] c D dA gcl code RL 4) (I : si_M → Prop) (hf : (∀ σ, I σ → ∃ (r : Int32) (σ1 σ2 : si_M), si_sc gP nX8_removeEmpty (.ref 0 :: []) σ = some (some (.int r), σ1) ∧ si_sc gP nX9_removeEmpty (.ref 29 :: []) σ1 = some (some (.int r), σ2) ∧ I σ2)) (i : Nat) (hi : 3 * i + 3 ≤ L) (hL : L ≤ 1536) (σ : si_M) (hI : I σ) (H : Heap) (locs : List Loc) (ls : Array Slot) (hP : va_P D gcl (si_W dA s.heap.size gsh σ) H) (hS : va_S (fun q => s.heap.size ≤ q) s.heap H locs) (hl : lv_has ls 4 [(0, .ref b), (1, .ref (s.heap.size + 0)), (2, .ref (s.heap.size + 29)), (3, .int (nI (3 * i)))])
    (hk : ∀ (σ2 : si_M) (H2 : Heap) (locs2 : List Loc), I σ2 → va_P D gcl (si_W dA s.heap.size gsh σ2) H2 → va_S (fun q => s.heap.size ≤ q) s.heap H2 locs2 → W p l e room_1 s m #[Value.ref b] below meth c H2 locs2 45 5189 (lw_Z below #[Value.ref b] s) (F0 m 640 ls [])) : W p l e room_1 s m #[Value.ref b] below meth c H locs 45 5189 (lw_Z below #[Value.ref b] s) (F0 m 476 ls []) := by
  obtain ⟨hx, hb, hr, hml, hown, htsw, hX, hbl, hlocks, hgv⟩ := C0
  have hbA : ¬ (fun q : Nat => s.heap.size ≤ q) b := Nat.not_le.mpr hbl
  obtain ⟨r, σ1, σ2, f1, f2, f3⟩ := hf  σ hI
  refine lv_aload_n hx hb dL_476 rfl (lv_at hl 1 rfl) ?_
  have ok0 : si_cok gmt gcl RL 11 418 93 [161, 0, 1, 7, 691, 692, 91, 694, 693] true = true := by decide +kernel
  refine lw_call X (rc := 1) (q := 0) (as := []) (rest := []) (fr := 11) (lo := 418) (Nat.le_refl 11) (Nat.le_refl 418) (Nat.le_refl 45) (Nat.le_refl 5189) ok0 rfl rfl (Nat.le_of_ble_eq_true rfl) f1 hP hS hl.1 dL_477 (fun H1 locs1 hP hS => ?_)
  refine lv_aload_n hx hb dL_480 rfl (lv_at hl 2 rfl) ?_
  have ok1 : si_cok gmt gcl RL 11 418 96 [164, 0, 1, 8, 1267, 1268, 99, 1270, 1269] true = true := by decide +kernel
  refine lw_call X (rc := 1) (q := 29) (as := []) (rest := [.int r]) (fr := 11) (lo := 418) (Nat.le_refl 11) (Nat.le_refl 418) (Nat.le_refl 45) (Nat.le_refl 5189) ok1 rfl rfl (Nat.le_of_ble_eq_true rfl) f2 hP hS hl.1 dL_481 (fun H2 locs2 hP hS => ?_)
  refine lv_icmp_eq (tgt := 640) hx hb dL_484 (by decide) (fun _ => ?_) (fun hne => absurd rfl hne)
  exact hk σ2 _ _ f3 hP hS
set_option maxHeartbeats 4000000 in
theorem lw_c20 {p : Program} {l : Launch} {e : Env} {s : State} {m : MethodId} {below : List Frame} {meth : Method} {c : Code} {D : va_G} {dA : Bool → ClassId} {b L : Nat} {xs : Nat → Int32} (C0 : lw_At p s m meth c b L xs) (X : si_Ctx p s m #[Value.ref b] c D dA gcl code RL 4) (I : si_M → Prop) (hf : (∀ σ, I σ → ∃ (r : Int32) (σ1 σ2 : si_M), si_sc gP nX8_removeUnits (.ref 0 :: []) σ = some (some (.int r), σ1) ∧ si_sc gP nX9_removeUnits (.ref 29 :: []) σ1 = some (some (.int r), σ2) ∧ I σ2)) (i : Nat) (hi : 3 * i + 3 ≤ L) (hL : L ≤ 1536) (σ : si_M) (hI : I σ) (H : Heap) (locs : List Loc) (ls : Array Slot) (hP : va_P D gcl (si_W dA s.heap.size gsh σ) H) (hS : va_S (fun q => s.heap.size ≤ q) s.heap H locs) (hl : lv_has ls 4 [(0, .ref b), (1, .ref (s.heap.size + 0)), (2, .ref (s.heap.size + 29)), (3, .int (nI (3 * i)))])
    (hk : ∀ (σ2 : si_M) (H2 : Heap) (locs2 : List Loc), I σ2 → va_P D gcl (si_W dA s.heap.size gsh σ2) H2 → va_S (fun q => s.heap.size ≤ q) s.heap H2 locs2 → W p l e room_1 s m #[Value.ref b] below meth c H2 locs2 45 5189 (lw_Z below #[Value.ref b] s) (F0 m 640 ls [])) : W p l e room_1 s m #[Value.ref b] below meth c H locs 45 5189 (lw_Z below #[Value.ref b] s) (F0 m 489 ls []) := by
  obtain ⟨hx, hb, hr, hml, hown, htsw, hX, hbl, hlocks, hgv⟩ := C0
  have hbA : ¬ (fun q : Nat => s.heap.size ≤ q) b := Nat.not_le.mpr hbl
  obtain ⟨r, σ1, σ2, f1, f2, f3⟩ := hf  σ hI
  refine lv_aload_n hx hb dL_489 rfl (lv_at hl 1 rfl) ?_
  have ok0 : si_cok gmt gcl RL 11 418 97 [168, 0, 1, 7, 718, 719, 91, 721, 720] true = true := by decide +kernel
  refine lw_call X (rc := 1) (q := 0) (as := []) (rest := []) (fr := 11) (lo := 418) (Nat.le_refl 11) (Nat.le_refl 418) (Nat.le_refl 45) (Nat.le_refl 5189) ok0 rfl rfl (Nat.le_of_ble_eq_true rfl) f1 hP hS hl.1 dL_490 (fun H1 locs1 hP hS => ?_)
  refine lv_aload_n hx hb dL_493 rfl (lv_at hl 2 rfl) ?_
  have ok1 : si_cok gmt gcl RL 11 418 100 [170, 0, 1, 8, 1279, 1280, 99, 1282, 1281] true = true := by decide +kernel
  refine lw_call X (rc := 1) (q := 29) (as := []) (rest := [.int r]) (fr := 11) (lo := 418) (Nat.le_refl 11) (Nat.le_refl 418) (Nat.le_refl 45) (Nat.le_refl 5189) ok1 rfl rfl (Nat.le_of_ble_eq_true rfl) f2 hP hS hl.1 dL_494 (fun H2 locs2 hP hS => ?_)
  refine lv_icmp_eq (tgt := 640) hx hb dL_497 (by decide) (fun _ => ?_) (fun hne => absurd rfl hne)
  exact hk σ2 _ _ f3 hP hS
set_option maxHeartbeats 4000000 in
theorem lw_c21 {p : Program} {l : Launch} {e : Env} {s : State} {m : MethodId} {below : List Frame} {meth : Method} {c : Code} {D : va_G} {dA : Bool → ClassId} {b L : Nat} {xs : Nat → Int32} (C0 : lw_At p s m meth c b L xs) (X : si_Ctx p s m #[Value.ref b] c D dA gcl code RL 4) (I : si_M → Prop) (hf : (∀ σ, I σ → ∃ (r : Int32) (σ1 σ2 : si_M), si_sc gP nX8_toChomsky (.ref 0 :: []) σ = some (some (.int r), σ1) ∧ si_sc gP nX9_toChomsky (.ref 29 :: []) σ1 = some (some (.int r), σ2) ∧ I σ2)) (i : Nat) (hi : 3 * i + 3 ≤ L) (hL : L ≤ 1536) (σ : si_M) (hI : I σ) (H : Heap) (locs : List Loc) (ls : Array Slot) (hP : va_P D gcl (si_W dA s.heap.size gsh σ) H) (hS : va_S (fun q => s.heap.size ≤ q) s.heap H locs) (hl : lv_has ls 4 [(0, .ref b), (1, .ref (s.heap.size + 0)), (2, .ref (s.heap.size + 29)), (3, .int (nI (3 * i)))])
    (hk : ∀ (σ2 : si_M) (H2 : Heap) (locs2 : List Loc), I σ2 → va_P D gcl (si_W dA s.heap.size gsh σ2) H2 → va_S (fun q => s.heap.size ≤ q) s.heap H2 locs2 → W p l e room_1 s m #[Value.ref b] below meth c H2 locs2 45 5189 (lw_Z below #[Value.ref b] s) (F0 m 640 ls [])) : W p l e room_1 s m #[Value.ref b] below meth c H locs 45 5189 (lw_Z below #[Value.ref b] s) (F0 m 502 ls []) := by
  obtain ⟨hx, hb, hr, hml, hown, htsw, hX, hbl, hlocks, hgv⟩ := C0
  have hbA : ¬ (fun q : Nat => s.heap.size ≤ q) b := Nat.not_le.mpr hbl
  obtain ⟨r, σ1, σ2, f1, f2, f3⟩ := hf  σ hI
  refine lv_aload_n hx hb dL_502 rfl (lv_at hl 1 rfl) ?_
  have ok0 : si_cok gmt gcl RL 11 418 101 [182, 0, 1, 7, 737, 738, 91, 740, 739] true = true := by decide +kernel
  refine lw_call X (rc := 1) (q := 0) (as := []) (rest := []) (fr := 11) (lo := 418) (Nat.le_refl 11) (Nat.le_refl 418) (Nat.le_refl 45) (Nat.le_refl 5189) ok0 rfl rfl (Nat.le_of_ble_eq_true rfl) f1 hP hS hl.1 dL_503 (fun H1 locs1 hP hS => ?_)
  refine lv_aload_n hx hb dL_506 rfl (lv_at hl 2 rfl) ?_
  have ok1 : si_cok gmt gcl RL 11 418 104 [189, 0, 1, 8, 1287, 1288, 99, 1290, 1289] true = true := by decide +kernel
  refine lw_call X (rc := 1) (q := 29) (as := []) (rest := [.int r]) (fr := 11) (lo := 418) (Nat.le_refl 11) (Nat.le_refl 418) (Nat.le_refl 45) (Nat.le_refl 5189) ok1 rfl rfl (Nat.le_of_ble_eq_true rfl) f2 hP hS hl.1 dL_507 (fun H2 locs2 hP hS => ?_)
  refine lv_icmp_eq (tgt := 640) hx hb dL_510 (by decide) (fun _ => ?_) (fun hne => absurd rfl hne)
  exact hk σ2 _ _ f3 hP hS
set_option maxHeartbeats 4000000 in
theorem lw_c22 {p : Program} {l : Launch} {e : Env} {s : State} {m : MethodId} {below : List Frame} {meth : Method} {c : Code} {D : va_G} {dA : Bool → ClassId} {b L : Nat} {xs : Nat → Int32} (C0 : lw_At p s m meth c b L xs) (X : si_Ctx p s m #[Value.ref b] c D dA gcl code RL 4) (I : si_M → Prop) (hf : (∀ σ, I σ → ∃ (r : Int32) (σ1 σ2 : si_M), si_sc gP nX8_removeLeftRecursion (.ref 0 :: []) σ = some (some (.int r), σ1) ∧ si_sc gP nX9_removeLeftRecursion (.ref 29 :: []) σ1 = some (some (.int r), σ2) ∧ I σ2)) (i : Nat) (hi : 3 * i + 3 ≤ L) (hL : L ≤ 1536) (σ : si_M) (hI : I σ) (H : Heap) (locs : List Loc) (ls : Array Slot) (hP : va_P D gcl (si_W dA s.heap.size gsh σ) H) (hS : va_S (fun q => s.heap.size ≤ q) s.heap H locs) (hl : lv_has ls 4 [(0, .ref b), (1, .ref (s.heap.size + 0)), (2, .ref (s.heap.size + 29)), (3, .int (nI (3 * i)))])
    (hk : ∀ (σ2 : si_M) (H2 : Heap) (locs2 : List Loc), I σ2 → va_P D gcl (si_W dA s.heap.size gsh σ2) H2 → va_S (fun q => s.heap.size ≤ q) s.heap H2 locs2 → W p l e room_1 s m #[Value.ref b] below meth c H2 locs2 45 5189 (lw_Z below #[Value.ref b] s) (F0 m 640 ls [])) : W p l e room_1 s m #[Value.ref b] below meth c H locs 45 5189 (lw_Z below #[Value.ref b] s) (F0 m 515 ls []) := by
  obtain ⟨hx, hb, hr, hml, hown, htsw, hX, hbl, hlocks, hgv⟩ := C0
  have hbA : ¬ (fun q : Nat => s.heap.size ≤ q) b := Nat.not_le.mpr hbl
  obtain ⟨r, σ1, σ2, f1, f2, f3⟩ := hf  σ hI
  refine lv_aload_n hx hb dL_515 rfl (lv_at hl 1 rfl) ?_
  have ok0 : si_cok gmt gcl RL 11 418 105 [197, 0, 1, 7, 790, 791, 91, 793, 792] true = true := by decide +kernel
  refine lw_call X (rc := 1) (q := 0) (as := []) (rest := []) (fr := 11) (lo := 418) (Nat.le_refl 11) (Nat.le_refl 418) (Nat.le_refl 45) (Nat.le_refl 5189) ok0 rfl rfl (Nat.le_of_ble_eq_true rfl) f1 hP hS hl.1 dL_516 (fun H1 locs1 hP hS => ?_)
  refine lv_aload_n hx hb dL_519 rfl (lv_at hl 2 rfl) ?_
  have ok1 : si_cok gmt gcl RL 11 418 108 [204, 0, 1, 8, 1314, 1315, 99, 1317, 1316] true = true := by decide +kernel
  refine lw_call X (rc := 1) (q := 29) (as := []) (rest := [.int r]) (fr := 11) (lo := 418) (Nat.le_refl 11) (Nat.le_refl 418) (Nat.le_refl 45) (Nat.le_refl 5189) ok1 rfl rfl (Nat.le_of_ble_eq_true rfl) f2 hP hS hl.1 dL_520 (fun H2 locs2 hP hS => ?_)
  refine lv_icmp_eq (tgt := 640) hx hb dL_523 (by decide) (fun _ => ?_) (fun hne => absurd rfl hne)
  exact hk σ2 _ _ f3 hP hS
set_option maxHeartbeats 4000000 in
theorem lw_c23 {p : Program} {l : Launch} {e : Env} {s : State} {m : MethodId} {below : List Frame} {meth : Method} {c : Code} {D : va_G} {dA : Bool → ClassId} {b L : Nat} {xs : Nat → Int32} (C0 : lw_At p s m meth c b L xs) (X : si_Ctx p s m #[Value.ref b] c D dA gcl code RL 4) (I : si_M → Prop) (hf : (∀ σ, I σ → ∃ (r : Int32) (σ1 σ2 : si_M), si_sc gP nX8_leftFactor (.ref 0 :: []) σ = some (some (.int r), σ1) ∧ si_sc gP nX9_leftFactor (.ref 29 :: []) σ1 = some (some (.int r), σ2) ∧ I σ2)) (i : Nat) (hi : 3 * i + 3 ≤ L) (hL : L ≤ 1536) (σ : si_M) (hI : I σ) (H : Heap) (locs : List Loc) (ls : Array Slot) (hP : va_P D gcl (si_W dA s.heap.size gsh σ) H) (hS : va_S (fun q => s.heap.size ≤ q) s.heap H locs) (hl : lv_has ls 4 [(0, .ref b), (1, .ref (s.heap.size + 0)), (2, .ref (s.heap.size + 29)), (3, .int (nI (3 * i)))])
    (hk : ∀ (σ2 : si_M) (H2 : Heap) (locs2 : List Loc), I σ2 → va_P D gcl (si_W dA s.heap.size gsh σ2) H2 → va_S (fun q => s.heap.size ≤ q) s.heap H2 locs2 → W p l e room_1 s m #[Value.ref b] below meth c H2 locs2 45 5189 (lw_Z below #[Value.ref b] s) (F0 m 640 ls [])) : W p l e room_1 s m #[Value.ref b] below meth c H locs 45 5189 (lw_Z below #[Value.ref b] s) (F0 m 528 ls []) := by
  obtain ⟨hx, hb, hr, hml, hown, htsw, hX, hbl, hlocks, hgv⟩ := C0
  have hbA : ¬ (fun q : Nat => s.heap.size ≤ q) b := Nat.not_le.mpr hbl
  obtain ⟨r, σ1, σ2, f1, f2, f3⟩ := hf  σ hI
  refine lv_aload_n hx hb dL_528 rfl (lv_at hl 1 rfl) ?_
  have ok0 : si_cok gmt gcl RL 11 418 109 [209, 0, 1, 7, 822, 823, 91, 825, 824] true = true := by decide +kernel
  refine lw_call X (rc := 1) (q := 0) (as := []) (rest := []) (fr := 11) (lo := 418) (Nat.le_refl 11) (Nat.le_refl 418) (Nat.le_refl 45) (Nat.le_refl 5189) ok0 rfl rfl (Nat.le_of_ble_eq_true rfl) f1 hP hS hl.1 dL_529 (fun H1 locs1 hP hS => ?_)
  refine lv_aload_n hx hb dL_532 rfl (lv_at hl 2 rfl) ?_
  have ok1 : si_cok gmt gcl RL 11 418 112 [211, 0, 1, 8, 1342, 1343, 99, 1345, 1344] true = true := by decide +kernel
  refine lw_call X (rc := 1) (q := 29) (as := []) (rest := [.int r]) (fr := 11) (lo := 418) (Nat.le_refl 11) (Nat.le_refl 418) (Nat.le_refl 45) (Nat.le_refl 5189) ok1 rfl rfl (Nat.le_of_ble_eq_true rfl) f2 hP hS hl.1 dL_533 (fun H2 locs2 hP hS => ?_)
  refine lv_icmp_eq (tgt := 640) hx hb dL_536 (by decide) (fun _ => ?_) (fun hne => absurd rfl hne)
  exact hk σ2 _ _ f3 hP hS
set_option maxHeartbeats 4000000 in
theorem lw_c24 {p : Program} {l : Launch} {e : Env} {s : State} {m : MethodId} {below : List Frame} {meth : Method} {c : Code} {D : va_G} {dA : Bool → ClassId} {b L : Nat} {xs : Nat → Int32} (C0 : lw_At p s m meth c b L xs) (X : si_Ctx p s m #[Value.ref b] c D dA gcl code RL 4) (I : si_M → Prop) (hf : (∀ σ, I σ → ∃ (r : Int32) (σ1 σ2 : si_M), si_sc gP nX8_toGreibach (.ref 0 :: []) σ = some (some (.int r), σ1) ∧ si_sc gP nX9_toGreibach (.ref 29 :: []) σ1 = some (some (.int r), σ2) ∧ I σ2)) (i : Nat) (hi : 3 * i + 3 ≤ L) (hL : L ≤ 1536) (σ : si_M) (hI : I σ) (H : Heap) (locs : List Loc) (ls : Array Slot) (hP : va_P D gcl (si_W dA s.heap.size gsh σ) H) (hS : va_S (fun q => s.heap.size ≤ q) s.heap H locs) (hl : lv_has ls 4 [(0, .ref b), (1, .ref (s.heap.size + 0)), (2, .ref (s.heap.size + 29)), (3, .int (nI (3 * i)))])
    (hk : ∀ (σ2 : si_M) (H2 : Heap) (locs2 : List Loc), I σ2 → va_P D gcl (si_W dA s.heap.size gsh σ2) H2 → va_S (fun q => s.heap.size ≤ q) s.heap H2 locs2 → W p l e room_1 s m #[Value.ref b] below meth c H2 locs2 45 5189 (lw_Z below #[Value.ref b] s) (F0 m 640 ls [])) : W p l e room_1 s m #[Value.ref b] below meth c H locs 45 5189 (lw_Z below #[Value.ref b] s) (F0 m 541 ls []) := by
  obtain ⟨hx, hb, hr, hml, hown, htsw, hX, hbl, hlocks, hgv⟩ := C0
  have hbA : ¬ (fun q : Nat => s.heap.size ≤ q) b := Nat.not_le.mpr hbl
  obtain ⟨r, σ1, σ2, f1, f2, f3⟩ := hf  σ hI
  refine lv_aload_n hx hb dL_541 rfl (lv_at hl 1 rfl) ?_
  have ok0 : si_cok gmt gcl RL 11 418 113 [214, 0, 1, 7, 842, 843, 91, 845, 844] true = true := by decide +kernel
  refine lw_call X (rc := 1) (q := 0) (as := []) (rest := []) (fr := 11) (lo := 418) (Nat.le_refl 11) (Nat.le_refl 418) (Nat.le_refl 45) (Nat.le_refl 5189) ok0 rfl rfl (Nat.le_of_ble_eq_true rfl) f1 hP hS hl.1 dL_542 (fun H1 locs1 hP hS => ?_)
  refine lv_aload_n hx hb dL_545 rfl (lv_at hl 2 rfl) ?_
  have ok1 : si_cok gmt gcl RL 11 418 116 [216, 0, 1, 8, 1350, 1351, 99, 1353, 1352] true = true := by decide +kernel
  refine lw_call X (rc := 1) (q := 29) (as := []) (rest := [.int r]) (fr := 11) (lo := 418) (Nat.le_refl 11) (Nat.le_refl 418) (Nat.le_refl 45) (Nat.le_refl 5189) ok1 rfl rfl (Nat.le_of_ble_eq_true rfl) f2 hP hS hl.1 dL_546 (fun H2 locs2 hP hS => ?_)
  refine lv_icmp_eq (tgt := 640) hx hb dL_549 (by decide) (fun _ => ?_) (fun hne => absurd rfl hne)
  exact hk σ2 _ _ f3 hP hS
set_option maxHeartbeats 4000000 in
theorem lw_c25 {p : Program} {l : Launch} {e : Env} {s : State} {m : MethodId} {below : List Frame} {meth : Method} {c : Code} {D : va_G} {dA : Bool → ClassId} {b L : Nat} {xs : Nat → Int32} (C0 : lw_At p s m meth c b L xs) (X : si_Ctx p s m #[Value.ref b] c D dA gcl code RL 4) (I : si_M → Prop) (hf : (∀ σ, I σ → ∃ (r : Int32) (σ1 σ2 : si_M), si_sc gP nX8_save (.ref 0 :: []) σ = some (some (.int r), σ1) ∧ si_sc gP nX9_save (.ref 29 :: []) σ1 = some (some (.int r), σ2) ∧ I σ2)) (i : Nat) (hi : 3 * i + 3 ≤ L) (hL : L ≤ 1536) (σ : si_M) (hI : I σ) (H : Heap) (locs : List Loc) (ls : Array Slot) (hP : va_P D gcl (si_W dA s.heap.size gsh σ) H) (hS : va_S (fun q => s.heap.size ≤ q) s.heap H locs) (hl : lv_has ls 4 [(0, .ref b), (1, .ref (s.heap.size + 0)), (2, .ref (s.heap.size + 29)), (3, .int (nI (3 * i)))])
    (hk : ∀ (σ2 : si_M) (H2 : Heap) (locs2 : List Loc), I σ2 → va_P D gcl (si_W dA s.heap.size gsh σ2) H2 → va_S (fun q => s.heap.size ≤ q) s.heap H2 locs2 → W p l e room_1 s m #[Value.ref b] below meth c H2 locs2 45 5189 (lw_Z below #[Value.ref b] s) (F0 m 640 ls [])) : W p l e room_1 s m #[Value.ref b] below meth c H locs 45 5189 (lw_Z below #[Value.ref b] s) (F0 m 554 ls []) := by
  obtain ⟨hx, hb, hr, hml, hown, htsw, hX, hbl, hlocks, hgv⟩ := C0
  have hbA : ¬ (fun q : Nat => s.heap.size ≤ q) b := Nat.not_le.mpr hbl
  obtain ⟨r, σ1, σ2, f1, f2, f3⟩ := hf  σ hI
  refine lv_aload_n hx hb dL_554 rfl (lv_at hl 1 rfl) ?_
  have ok0 : si_cok gmt gcl RL 11 418 117 [217, 0, 1, 7, 856, 857, 91, 859, 858] true = true := by decide +kernel
  refine lw_call X (rc := 1) (q := 0) (as := []) (rest := []) (fr := 11) (lo := 418) (Nat.le_refl 11) (Nat.le_refl 418) (Nat.le_refl 45) (Nat.le_refl 5189) ok0 rfl rfl (Nat.le_of_ble_eq_true rfl) f1 hP hS hl.1 dL_555 (fun H1 locs1 hP hS => ?_)
  refine lv_aload_n hx hb dL_558 rfl (lv_at hl 2 rfl) ?_
  have ok1 : si_cok gmt gcl RL 11 418 120 [218, 0, 1, 8, 1358, 1359, 99, 1361, 1360] true = true := by decide +kernel
  refine lw_call X (rc := 1) (q := 29) (as := []) (rest := [.int r]) (fr := 11) (lo := 418) (Nat.le_refl 11) (Nat.le_refl 418) (Nat.le_refl 45) (Nat.le_refl 5189) ok1 rfl rfl (Nat.le_of_ble_eq_true rfl) f2 hP hS hl.1 dL_559 (fun H2 locs2 hP hS => ?_)
  refine lv_icmp_eq (tgt := 640) hx hb dL_562 (by decide) (fun _ => ?_) (fun hne => absurd rfl hne)
  exact hk σ2 _ _ f3 hP hS
set_option maxHeartbeats 4000000 in
theorem lw_c26 {p : Program} {l : Launch} {e : Env} {s : State} {m : MethodId} {below : List Frame} {meth : Method} {c : Code} {D : va_G} {dA : Bool → ClassId} {b L : Nat} {xs : Nat → Int32} (C0 : lw_At p s m meth c b L xs) (X : si_Ctx p s m #[Value.ref b] c D dA gcl code RL 4) (I : si_M → Prop) (hf : (∀ σ, I σ → ∃ (r : Int32) (σ1 σ2 : si_M), si_sc gP nX8_restore (.ref 0 :: []) σ = some (some (.int r), σ1) ∧ si_sc gP nX9_restore (.ref 29 :: []) σ1 = some (some (.int r), σ2) ∧ I σ2)) (i : Nat) (hi : 3 * i + 3 ≤ L) (hL : L ≤ 1536) (σ : si_M) (hI : I σ) (H : Heap) (locs : List Loc) (ls : Array Slot) (hP : va_P D gcl (si_W dA s.heap.size gsh σ) H) (hS : va_S (fun q => s.heap.size ≤ q) s.heap H locs) (hl : lv_has ls 4 [(0, .ref b), (1, .ref (s.heap.size + 0)), (2, .ref (s.heap.size + 29)), (3, .int (nI (3 * i)))])
    (hk : ∀ (σ2 : si_M) (H2 : Heap) (locs2 : List Loc), I σ2 → va_P D gcl (si_W dA s.heap.size gsh σ2) H2 → va_S (fun q => s.heap.size ≤ q) s.heap H2 locs2 → W p l e room_1 s m #[Value.ref b] below meth c H2 locs2 45 5189 (lw_Z below #[Value.ref b] s) (F0 m 640 ls [])) : W p l e room_1 s m #[Value.ref b] below meth c H locs 45 5189 (lw_Z below #[Value.ref b] s) (F0 m 567 ls []) := by
  obtain ⟨hx, hb, hr, hml, hown, htsw, hX, hbl, hlocks, hgv⟩ := C0
  have hbA : ¬ (fun q : Nat => s.heap.size ≤ q) b := Nat.not_le.mpr hbl
  obtain ⟨r, σ1, σ2, f1, f2, f3⟩ := hf  σ hI
  refine lv_aload_n hx hb dL_567 rfl (lv_at hl 1 rfl) ?_
  have ok0 : si_cok gmt gcl RL 11 418 121 [219, 0, 1, 7, 861, 862, 91, 864, 863] true = true := by decide +kernel
  refine lw_call X (rc := 1) (q := 0) (as := []) (rest := []) (fr := 11) (lo := 418) (Nat.le_refl 11) (Nat.le_refl 418) (Nat.le_refl 45) (Nat.le_refl 5189) ok0 rfl rfl (Nat.le_of_ble_eq_true rfl) f1 hP hS hl.1 dL_568 (fun H1 locs1 hP hS => ?_)
  refine lv_aload_n hx hb dL_571 rfl (lv_at hl 2 rfl) ?_
  have ok1 : si_cok gmt gcl RL 11 418 124 [220, 0, 1, 8, 1362, 1363, 99, 1365, 1364] true = true := by decide +kernel
  refine lw_call X (rc := 1) (q := 29) (as := []) (rest := [.int r]) (fr := 11) (lo := 418) (Nat.le_refl 11) (Nat.le_refl 418) (Nat.le_refl 45) (Nat.le_refl 5189) ok1 rfl rfl (Nat.le_of_ble_eq_true rfl) f2 hP hS hl.1 dL_572 (fun H2 locs2 hP hS => ?_)
  refine lv_icmp_eq (tgt := 640) hx hb dL_575 (by decide) (fun _ => ?_) (fun hne => absurd rfl hne)
  exact hk σ2 _ _ f3 hP hS
set_option maxHeartbeats 4000000 in
theorem lw_c27 {p : Program} {l : Launch} {e : Env} {s : State} {m : MethodId} {below : List Frame} {meth : Method} {c : Code} {D : va_G} {dA : Bool → ClassId} {b L : Nat} {xs : Nat → Int32} (C0 : lw_At p s m meth c b L xs) (X : si_Ctx p s m #[Value.ref b] c D dA gcl code RL 4) (I : si_M → Prop) (hf : (∀ a : Int32, ∀ σ, I σ → ∃ (r : Int32) (σ1 σ2 : si_M), si_sc gP nX8_countWords (.ref 0 :: [.int a]) σ = some (some (.int r), σ1) ∧ si_sc gP nX9_countWords (.ref 29 :: [.int a]) σ1 = some (some (.int r), σ2) ∧ I σ2)) (i : Nat) (hi : 3 * i + 3 ≤ L) (hL : L ≤ 1536) (σ : si_M) (hI : I σ) (H : Heap) (locs : List Loc) (ls : Array Slot) (hP : va_P D gcl (si_W dA s.heap.size gsh σ) H) (hS : va_S (fun q => s.heap.size ≤ q) s.heap H locs) (hl : lv_has ls 4 [(0, .ref b), (1, .ref (s.heap.size + 0)), (2, .ref (s.heap.size + 29)), (3, .int (nI (3 * i)))])
    (hk : ∀ (σ2 : si_M) (H2 : Heap) (locs2 : List Loc), I σ2 → va_P D gcl (si_W dA s.heap.size gsh σ2) H2 → va_S (fun q => s.heap.size ≤ q) s.heap H2 locs2 → W p l e room_1 s m #[Value.ref b] below meth c H2 locs2 45 5189 (lw_Z below #[Value.ref b] s) (F0 m 640 ls [])) : W p l e room_1 s m #[Value.ref b] below meth c H locs 45 5189 (lw_Z below #[Value.ref b] s) (F0 m 580 ls []) := by
  obtain ⟨hx, hb, hr, hml, hown, htsw, hX, hbl, hlocks, hgv⟩ := C0
  have hbA : ¬ (fun q : Nat => s.heap.size ≤ q) b := Nat.not_le.mpr hbl
  have e1 : nI (3 * i) + 1 = nI (3 * i + 1) := nI_add _ _
  have v1 : vp_in (nI (3 * i) + 1) L := by rw [e1]; exact vp_in_nI (by omega) (by omega)
  obtain ⟨r, σ1, σ2, f1, f2, f3⟩ := hf (xs (nI (3 * i) + 1).toNatClampNeg) σ hI
  refine lv_aload_n hx hb dL_580 rfl (lv_at hl 1 rfl) ?_
  refine lv_aload_n hx hb dL_581 rfl (lv_at hl 0 rfl) ?_
  refine lv_iload_n hx hb dL_582 rfl (lv_at hl 3 rfl) ?_
  refine lv_iconst (v := 1) hx hb dL_583 (by decide) ?_
  refine lv_iadd hx hb dL_584 ?_
  refine va_sld hx hb hX hbl hbA hS v1 dL_585 ?_
  have ok0 : si_cok gmt gcl RL 11 418 125 [228, 1, 1, 7, 865, 866, 91, 868, 867] true = true := by decide +kernel
  refine lw_call X (rc := 1) (q := 0) (as := [.int (xs (nI (3 * i) + 1).toNatClampNeg)]) (rest := []) (fr := 11) (lo := 418) (Nat.le_refl 11) (Nat.le_refl 418) (Nat.le_refl 45) (Nat.le_refl 5189) ok0 rfl rfl (Nat.le_of_ble_eq_true rfl) f1 hP hS hl.1 dL_586 (fun H1 locs1 hP hS => ?_)
  refine lv_aload_n hx hb dL_589 rfl (lv_at hl 2 rfl) ?_
  refine lv_aload_n hx hb dL_590 rfl (lv_at hl 0 rfl) ?_
  refine lv_iload_n hx hb dL_591 rfl (lv_at hl 3 rfl) ?_
  refine lv_iconst (v := 1) hx hb dL_592 (by decide) ?_
  refine lv_iadd hx hb dL_593 ?_
  refine va_sld hx hb hX hbl hbA hS v1 dL_594 ?_
  have ok1 : si_cok gmt gcl RL 11 418 128 [232, 1, 1, 8, 1366, 1367, 99, 1369, 1368] true = true := by decide +kernel
  refine lw_call X (rc := 1) (q := 29) (as := [.int (xs (nI (3 * i) + 1).toNatClampNeg)]) (rest := [.int r]) (fr := 11) (lo := 418) (Nat.le_refl 11) (Nat.le_refl 418) (Nat.le_refl 45) (Nat.le_refl 5189) ok1 rfl rfl (Nat.le_of_ble_eq_true rfl) f2 hP hS hl.1 dL_595 (fun H2 locs2 hP hS => ?_)
  refine lv_icmp_eq (tgt := 640) hx hb dL_598 (by decide) (fun _ => ?_) (fun hne => absurd rfl hne)
  exact hk σ2 _ _ f3 hP hS
set_option maxHeartbeats 4000000 in
theorem lw_c28 {p : Program} {l : Launch} {e : Env} {s : State} {m : MethodId} {below : List Frame} {meth : Method} {c : Code} {D : va_G} {dA : Bool → ClassId} {b L : Nat} {xs : Nat → Int32} (C0 : lw_At p s m meth c b L xs) (X : si_Ctx p s m #[Value.ref b] c D dA gcl code RL 4) (I : si_M → Prop) (hf : (∀ a : Int32, ∀ σ, I σ → ∃ (r : Int32) (σ1 σ2 : si_M), si_sc gP nX8_countDifferences (.ref 0 :: [.int a]) σ = some (some (.int r), σ1) ∧ si_sc gP nX9_countDifferences (.ref 29 :: [.int a]) σ1 = some (some (.int r), σ2) ∧ I σ2)) (i : Nat) (hi : 3 * i + 3 ≤ L) (hL : L ≤ 1536) (σ : si_M) (hI : I σ) (H : Heap) (locs : List Loc) (ls : Array Slot) (hP : va_P D gcl (si_W dA s.heap.size gsh σ) H) (hS : va_S (fun q => s.heap.size ≤ q) s.heap H locs) (hl : lv_has ls 4 [(0, .ref b), (1, .ref (s.heap.size + 0)), (2, .ref (s.heap.size + 29)), (3, .int (nI (3 * i)))])
    (hk : ∀ (σ2 : si_M) (H2 : Heap) (locs2 : List Loc), I σ2 → va_P D gcl (si_W dA s.heap.size gsh σ2) H2 → va_S (fun q => s.heap.size ≤ q) s.heap H2 locs2 → W p l e room_1 s m #[Value.ref b] below meth c H2 locs2 45 5189 (lw_Z below #[Value.ref b] s) (F0 m 640 ls [])) : W p l e room_1 s m #[Value.ref b] below meth c H locs 45 5189 (lw_Z below #[Value.ref b] s) (F0 m 603 ls []) := by
  obtain ⟨hx, hb, hr, hml, hown, htsw, hX, hbl, hlocks, hgv⟩ := C0
  have hbA : ¬ (fun q : Nat => s.heap.size ≤ q) b := Nat.not_le.mpr hbl
  have e1 : nI (3 * i) + 1 = nI (3 * i + 1) := nI_add _ _
  have v1 : vp_in (nI (3 * i) + 1) L := by rw [e1]; exact vp_in_nI (by omega) (by omega)
  obtain ⟨r, σ1, σ2, f1, f2, f3⟩ := hf (xs (nI (3 * i) + 1).toNatClampNeg) σ hI
  refine lv_aload_n hx hb dL_603 rfl (lv_at hl 1 rfl) ?_
  refine lv_aload_n hx hb dL_604 rfl (lv_at hl 0 rfl) ?_
  refine lv_iload_n hx hb dL_605 rfl (lv_at hl 3 rfl) ?_
  refine lv_iconst (v := 1) hx hb dL_606 (by decide) ?_
  refine lv_iadd hx hb dL_607 ?_
  refine va_sld hx hb hX hbl hbA hS v1 dL_608 ?_
  have ok0 : si_cok gmt gcl RL 11 418 129 [233, 1, 1, 7, 906, 907, 91, 909, 908] true = true := by decide +kernel
  refine lw_call X (rc := 1) (q := 0) (as := [.int (xs (nI (3 * i) + 1).toNatClampNeg)]) (rest := []) (fr := 11) (lo := 418) (Nat.le_refl 11) (Nat.le_refl 418) (Nat.le_refl 45) (Nat.le_refl 5189) ok0 rfl rfl (Nat.le_of_ble_eq_true rfl) f1 hP hS hl.1 dL_609 (fun H1 locs1 hP hS => ?_)
  refine lv_aload_n hx hb dL_612 rfl (lv_at hl 2 rfl) ?_
  refine lv_aload_n hx hb dL_613 rfl (lv_at hl 0 rfl) ?_
  refine lv_iload_n hx hb dL_614 rfl (lv_at hl 3 rfl) ?_
  refine lv_iconst (v := 1) hx hb dL_615 (by decide) ?_
  refine lv_iadd hx hb dL_616 ?_
  refine va_sld hx hb hX hbl hbA hS v1 dL_617 ?_
  have ok1 : si_cok gmt gcl RL 11 418 132 [234, 1, 1, 8, 1381, 1382, 99, 1384, 1383] true = true := by decide +kernel
  refine lw_call X (rc := 1) (q := 29) (as := [.int (xs (nI (3 * i) + 1).toNatClampNeg)]) (rest := [.int r]) (fr := 11) (lo := 418) (Nat.le_refl 11) (Nat.le_refl 418) (Nat.le_refl 45) (Nat.le_refl 5189) ok1 rfl rfl (Nat.le_of_ble_eq_true rfl) f2 hP hS hl.1 dL_618 (fun H2 locs2 hP hS => ?_)
  refine lv_icmp_eq (tgt := 640) hx hb dL_621 (by decide) (fun _ => ?_) (fun hne => absurd rfl hne)
  exact hk σ2 _ _ f3 hP hS
set_option maxHeartbeats 4000000 in
theorem lw_c29 {p : Program} {l : Launch} {e : Env} {s : State} {m : MethodId} {below : List Frame} {meth : Method} {c : Code} {D : va_G} {dA : Bool → ClassId} {b L : Nat} {xs : Nat → Int32} (C0 : lw_At p s m meth c b L xs) (X : si_Ctx p s m #[Value.ref b] c D dA gcl code RL 4) (I : si_M → Prop) (hf : (∀ σ, I σ → ∃ (r : Int64) (σ1 σ2 : si_M), si_sc gP nX8_digest (.ref 0 :: []) σ = some (some (.long r), σ1) ∧ si_sc gP nX9_digest (.ref 29 :: []) σ1 = some (some (.long r), σ2) ∧ I σ2)) (i : Nat) (hi : 3 * i + 3 ≤ L) (hL : L ≤ 1536) (σ : si_M) (hI : I σ) (H : Heap) (locs : List Loc) (ls : Array Slot) (hP : va_P D gcl (si_W dA s.heap.size gsh σ) H) (hS : va_S (fun q => s.heap.size ≤ q) s.heap H locs) (hl : lv_has ls 4 [(0, .ref b), (1, .ref (s.heap.size + 0)), (2, .ref (s.heap.size + 29)), (3, .int (nI (3 * i)))])
    (hk : ∀ (σ2 : si_M) (H2 : Heap) (locs2 : List Loc), I σ2 → va_P D gcl (si_W dA s.heap.size gsh σ2) H2 → va_S (fun q => s.heap.size ≤ q) s.heap H2 locs2 → W p l e room_1 s m #[Value.ref b] below meth c H2 locs2 45 5189 (lw_Z below #[Value.ref b] s) (F0 m 640 ls [])) : W p l e room_1 s m #[Value.ref b] below meth c H locs 45 5189 (lw_Z below #[Value.ref b] s) (F0 m 626 ls []) := by
  obtain ⟨hx, hb, hr, hml, hown, htsw, hX, hbl, hlocks, hgv⟩ := C0
  have hbA : ¬ (fun q : Nat => s.heap.size ≤ q) b := Nat.not_le.mpr hbl
  obtain ⟨r, σ1, σ2, f1, f2, f3⟩ := hf  σ hI
  refine lv_aload_n hx hb dL_626 rfl (lv_at hl 1 rfl) ?_
  have ok0 : si_cok gmt gcl RL 11 418 133 [238, 0, 2, 7, 910, 911, 91, 913, 912] true = true := by decide +kernel
  refine lw_call X (rc := 2) (q := 0) (as := []) (rest := []) (fr := 11) (lo := 418) (Nat.le_refl 11) (Nat.le_refl 418) (Nat.le_refl 45) (Nat.le_refl 5189) ok0 rfl rfl (Nat.le_of_ble_eq_true rfl) f1 hP hS hl.1 dL_627 (fun H1 locs1 hP hS => ?_)
  refine lv_aload_n hx hb dL_630 rfl (lv_at hl 2 rfl) ?_
  have ok1 : si_cok gmt gcl RL 11 418 136 [240, 0, 2, 8, 1385, 1386, 99, 1388, 1387] true = true := by decide +kernel
  refine lw_call X (rc := 2) (q := 29) (as := []) (rest := [.long r]) (fr := 11) (lo := 418) (Nat.le_refl 11) (Nat.le_refl 418) (Nat.le_refl 45) (Nat.le_refl 5189) ok1 rfl rfl (Nat.le_of_ble_eq_true rfl) f2 hP hS hl.1 dL_631 (fun H2 locs2 hP hS => ?_)
  refine W.lcmp hx hb dL_634 ?_
  refine lv_if_eq (tgt := 640) hx hb dL_635 (by decide) (fun _ => ?_) (fun hne => absurd (by simp [lg_cmp, Int64.lt_irrefl]) hne)
  exact hk σ2 _ _ f3 hP hS
set_option maxHeartbeats 8000000 in
set_option maxRecDepth 100000 in
theorem lw_loop {p : Program} {l : Launch} {e : Env} {s : State} {m : MethodId} {below : List Frame} {meth : Method} {c : Code} {D : va_G} {dA : Bool → ClassId} {b L : Nat} {xs : Nat → Int32} (C0 : lw_At p s m meth c b L xs) (X : si_Ctx p s m #[Value.ref b] c D dA gcl code RL 4) (I : si_M → Prop) (hf : lw_facts I) (hL : L ≤ 1536) : ∀ (n i : Nat), 3 * i ≤ L + 3 → L + 3 < 3 * i + n → ∀ (σ : si_M), I σ → ∀ (H : Heap) (locs : List Loc) (ls : Array Slot), va_P D gcl (si_W dA s.heap.size gsh σ) H → va_S (fun q => s.heap.size ≤ q) s.heap H locs → lv_has ls 4 [(0, .ref b), (1, .ref (s.heap.size + 0)), (2, .ref (s.heap.size + 29)), (3, .int (nI (3 * i)))] → W p l e room_1 s m #[Value.ref b] below meth c H locs 45 5189 (lw_Z below #[Value.ref b] s) (F0 m 18 ls []) := by
  intro n
  induction n with
  | zero => intro i h1 h2; omega
  | succ n ih =>
    intro i h1 h2 σ hI H locs ls hP hS hl
    obtain ⟨hx, hb, hr, hml, hown, htsw, hX, hbl, hlocks, hgv⟩ := id C0
    have hbA : ¬ (fun q : Nat => s.heap.size ≤ q) b := Nat.not_le.mpr hbl
    refine lv_iload_n hx hb dL_18 rfl (lv_at hl 3 rfl) ?_
    refine lv_aload_n hx hb dL_19 rfl (lv_at hl 0 rfl) ?_
    refine va_slen hx hb hX hbl hbA hS dL_20 ?_
    refine lv_iconst (v := 3) hx hb dL_21 (by decide) ?_
    refine lv_isub hx hb dL_22 ?_
    refine lv_icmp_gt (tgt := 646) hx hb dL_23 (by decide) (fun hgt => ?_) (fun hgt => ?_)
    · refine lv_iconst (v := 1) hx hb dL_646 (by decide) ?_
      refine va_forget (fun q hq => hS.2.2 q hq) ?_
      exact lw_ret hx hb hr hlocks dL_647
    · have hle : 3 * i + 3 ≤ L := by
        by_cases h3 : 3 ≤ L
        · have e : Int32.ofNat L - 3 = nI (L - 3) := pk_sub h3
          rw [e] at hgt
          rw [nI_ltI (by omega) (by omega)] at hgt
          omega
        · exfalso
          apply hgt
          have e : (Int32.ofNat L - 3) < 0 := pk_sneg (a := L) (b := 3) (by decide) (by omega)
          exact Int32.lt_of_lt_of_le e (nI_pos' (by omega))
      have v0 : vp_in (nI (3 * i)) L := vp_in_nI (by omega) (by omega)
      have go : ∀ (σ2 : si_M) (H2 : Heap) (locs2 : List Loc), I σ2 → va_P D gcl (si_W dA s.heap.size gsh σ2) H2 → va_S (fun q => s.heap.size ≤ q) s.heap H2 locs2 → W p l e room_1 s m #[Value.ref b] below meth c H2 locs2 45 5189 (lw_Z below #[Value.ref b] s) (F0 m 640 ls []) := by
        intro σ2 H2 locs2 hI2 hP2 hS2
        refine lv_iinc (v := nI (3 * (i + 1))) (lv' := [(3, .int (nI (3 * (i + 1)))), (0, .ref b), (1, .ref (s.heap.size + 0)), (2, .ref (s.heap.size + 29))]) hx hb dL_640 hl (k := 3) rfl (by show nI (3 * i) + 3 = _; exact (nI_add (3 * i) 3).trans (by rw [Nat.mul_add])) (by decide) rfl (fun ls' hl' => ?_)
        refine lv_goto (tgt := 18) hx hb dL_643 (by decide) ?_
        exact ih (i + 1) (by omega) (by omega) σ2 hI2 H2 locs2 ls' hP2 hS2 (lv_sub hl' [1, 2, 3, 0] rfl)
      refine lv_aload_n hx hb dL_26 rfl (lv_at hl 0 rfl) ?_
      refine lv_iload_n hx hb dL_27 rfl (lv_at hl 3 rfl) ?_
      refine va_sld hx hb hX hbl hbA hS v0 dL_28 ?_
      refine lv_bipush (v := 31) hx hb dL_29 (by decide) ?_
      refine lv_iand hx hb dL_31 ?_
      obtain ⟨j, hj, ej⟩ := pk_andE (xs (nI (3 * i)).toNatClampNeg) (m := 31) 5 (by decide)
      rw [ej]
      obtain ⟨f0, f1, f2, f3, f4, f5, f6, f7, f8, f9, f10, f11, f12, f13, f14, f15, f16, f17, f18, f19, f20, f21, f22, f23, f24, f25, f26, f27, f28, f29⟩ := hf
      match j, hj with
      | 0, _ => exact lv_tableIn (tgt := 168) hx hb dL_32 (by decide) (by decide) rfl (by decide) (lw_c0 C0 X I f0 i hle hL σ hI H locs ls hP hS hl go)
      | 1, _ => exact lv_tableIn (tgt := 191) hx hb dL_32 (by decide) (by decide) rfl (by decide) (lw_c1 C0 X I f1 i hle hL σ hI H locs ls hP hS hl go)
      | 2, _ => exact lv_tableIn (tgt := 204) hx hb dL_32 (by decide) (by decide) rfl (by decide) (lw_c2 C0 X I f2 i hle hL σ hI H locs ls hP hS hl go)
      | 3, _ => exact lv_tableIn (tgt := 217) hx hb dL_32 (by decide) (by decide) rfl (by decide) (lw_c3 C0 X I f3 i hle hL σ hI H locs ls hP hS hl go)
      | 4, _ => exact lv_tableIn (tgt := 230) hx hb dL_32 (by decide) (by decide) rfl (by decide) (lw_c4 C0 X I f4 i hle hL σ hI H locs ls hP hS hl go)
      | 5, _ => exact lv_tableIn (tgt := 243) hx hb dL_32 (by decide) (by decide) rfl (by decide) (lw_c5 C0 X I f5 i hle hL σ hI H locs ls hP hS hl go)
      | 6, _ => exact lv_tableIn (tgt := 257) hx hb dL_32 (by decide) (by decide) rfl (by decide) (lw_c6 C0 X I f6 i hle hL σ hI H locs ls hP hS hl go)
      | 7, _ => exact lv_tableIn (tgt := 270) hx hb dL_32 (by decide) (by decide) rfl (by decide) (lw_c7 C0 X I f7 i hle hL σ hI H locs ls hP hS hl go)
      | 8, _ => exact lv_tableIn (tgt := 303) hx hb dL_32 (by decide) (by decide) rfl (by decide) (lw_c8 C0 X I f8 i hle hL σ hI H locs ls hP hS hl go)
      | 9, _ => exact lv_tableIn (tgt := 316) hx hb dL_32 (by decide) (by decide) rfl (by decide) (lw_c9 C0 X I f9 i hle hL σ hI H locs ls hP hS hl go)
      | 10, _ => exact lv_tableIn (tgt := 329) hx hb dL_32 (by decide) (by decide) rfl (by decide) (lw_c10 C0 X I f10 i hle hL σ hI H locs ls hP hS hl go)
      | 11, _ => exact lv_tableIn (tgt := 342) hx hb dL_32 (by decide) (by decide) rfl (by decide) (lw_c11 C0 X I f11 i hle hL σ hI H locs ls hP hS hl go)
      | 12, _ => exact lv_tableIn (tgt := 355) hx hb dL_32 (by decide) (by decide) rfl (by decide) (lw_c12 C0 X I f12 i hle hL σ hI H locs ls hP hS hl go)
      | 13, _ => exact lv_tableIn (tgt := 378) hx hb dL_32 (by decide) (by decide) rfl (by decide) (lw_c13 C0 X I f13 i hle hL σ hI H locs ls hP hS hl go)
      | 14, _ => exact lv_tableIn (tgt := 401) hx hb dL_32 (by decide) (by decide) rfl (by decide) (lw_c14 C0 X I f14 i hle hL σ hI H locs ls hP hS hl go)
      | 15, _ => exact lv_tableIn (tgt := 424) hx hb dL_32 (by decide) (by decide) rfl (by decide) (lw_c15 C0 X I f15 i hle hL σ hI H locs ls hP hS hl go)
      | 16, _ => exact lv_tableIn (tgt := 437) hx hb dL_32 (by decide) (by decide) rfl (by decide) (lw_c16 C0 X I f16 i hle hL σ hI H locs ls hP hS hl go)
      | 17, _ => exact lv_tableIn (tgt := 450) hx hb dL_32 (by decide) (by decide) rfl (by decide) (lw_c17 C0 X I f17 i hle hL σ hI H locs ls hP hS hl go)
      | 18, _ => exact lv_tableIn (tgt := 463) hx hb dL_32 (by decide) (by decide) rfl (by decide) (lw_c18 C0 X I f18 i hle hL σ hI H locs ls hP hS hl go)
      | 19, _ => exact lv_tableIn (tgt := 476) hx hb dL_32 (by decide) (by decide) rfl (by decide) (lw_c19 C0 X I f19 i hle hL σ hI H locs ls hP hS hl go)
      | 20, _ => exact lv_tableIn (tgt := 489) hx hb dL_32 (by decide) (by decide) rfl (by decide) (lw_c20 C0 X I f20 i hle hL σ hI H locs ls hP hS hl go)
      | 21, _ => exact lv_tableIn (tgt := 502) hx hb dL_32 (by decide) (by decide) rfl (by decide) (lw_c21 C0 X I f21 i hle hL σ hI H locs ls hP hS hl go)
      | 22, _ => exact lv_tableIn (tgt := 515) hx hb dL_32 (by decide) (by decide) rfl (by decide) (lw_c22 C0 X I f22 i hle hL σ hI H locs ls hP hS hl go)
      | 23, _ => exact lv_tableIn (tgt := 528) hx hb dL_32 (by decide) (by decide) rfl (by decide) (lw_c23 C0 X I f23 i hle hL σ hI H locs ls hP hS hl go)
      | 24, _ => exact lv_tableIn (tgt := 541) hx hb dL_32 (by decide) (by decide) rfl (by decide) (lw_c24 C0 X I f24 i hle hL σ hI H locs ls hP hS hl go)
      | 25, _ => exact lv_tableIn (tgt := 554) hx hb dL_32 (by decide) (by decide) rfl (by decide) (lw_c25 C0 X I f25 i hle hL σ hI H locs ls hP hS hl go)
      | 26, _ => exact lv_tableIn (tgt := 567) hx hb dL_32 (by decide) (by decide) rfl (by decide) (lw_c26 C0 X I f26 i hle hL σ hI H locs ls hP hS hl go)
      | 27, _ => exact lv_tableIn (tgt := 580) hx hb dL_32 (by decide) (by decide) rfl (by decide) (lw_c27 C0 X I f27 i hle hL σ hI H locs ls hP hS hl go)
      | 28, _ => exact lv_tableIn (tgt := 603) hx hb dL_32 (by decide) (by decide) rfl (by decide) (lw_c28 C0 X I f28 i hle hL σ hI H locs ls hP hS hl go)
      | 29, _ => exact lv_tableIn (tgt := 626) hx hb dL_32 (by decide) (by decide) rfl (by decide) (lw_c29 C0 X I f29 i hle hL σ hI H locs ls hP hS hl go)
      | j + 30, hj =>
        have e : (nI (j + 30)).toInt = ((j + 30 : Nat) : Int) := nI_toInt (by omega)
        exact lv_tableOut (tgt := 640) hx hb dL_32 (Or.inr (by rw [e]; omega)) (by decide) (go σ H locs hI hP hS)
end
section
/-! THE LAW FROM ITS ENTRY, out of the thirty facts and their start -/
theorem lw_arr {args : Array Value} {s : State} {ty : FieldType} (hp : ∀ C, ty ≠ .object C) (h : (Jvm.Cond.arrayClass ty).before args s = true) : ∃ cA : ClassId, ArrOfT s cA ty ∧ va_RA s cA ty := by
  obtain ⟨cA, kA, comp, h1, h2, h3⟩ := Cond.arrayClass_spec h
  refine ⟨cA, fun n z => ⟨fun k h => (by cases h), kA, h2, comp, h3⟩, ?_⟩
  cases ty with
  | object C => exact absurd rfl (hp C)
  | _ => exact h1
set_option maxHeartbeats 8000000 in
set_option maxRecDepth 100000 in
theorem lw_begin (I : si_M → Prop) (hI : I g0) (hf : lw_facts I) {p : Program} {e : Env} {s : State} {m : MethodId} {below : List Frame} {meth : Method} {c : Code} (l : Launch) {b L : Nat} {xs : Nat → Int32} (hL : L ≤ 1536) (C0 : lw_At p s m meth c b L xs) : W p l e room_1 s m #[Value.ref b] below meth c s.heap [] 0 0 (lw_Z below #[Value.ref b] s) (entryFrame m ([Value.ref b] : List Value).toArray 4) := by
  obtain ⟨hx, hb, hr, hml, hown, hts0, hX, hbl, hlocks, hgv⟩ := id C0
  have hts : ∀ w ∈ si_tb, w.before #[Value.ref b] s = true := fun w hw => hts0 w (List.mem_filter.mp hw).1
  have hNk : si_Nk s := by
    intro w hw
    have h1 := (List.mem_filter.mp hw).2
    have h2 := hts0 w (List.mem_filter.mp hw).1
    cases w with
    | methodLinkNest a i x hh => exact va_Nw.of rfl h2
    | _ => cases h1
  obtain ⟨cI, aI, rI⟩ := lw_arr (ty := .int) (fun C h => by cases h) (hts0 (.arrayClass .int) (by decide +kernel))
  obtain ⟨cJ, aJ, rJ⟩ := lw_arr (ty := .long) (fun C h => by cases h) (hts0 (.arrayClass .long) (by decide +kernel))
  obtain ⟨dA, hdI, hdJ⟩ : ∃ dA : Bool → ClassId, dA false = cI ∧ dA true = cJ := ⟨fun b => if b then cJ else cI, rfl, rfl⟩
  obtain ⟨c0, i0, k0⟩ := u_known (C := RX0) (T := TX0) (N := 3) (n := 3) hts gcw_0 (hts0 (.instantiable RX0 3) (by decide +kernel))
  obtain ⟨c1, i1, k1⟩ := u_known (C := RX1) (T := TX1) (N := 1) (n := 1) hts gcw_1 (hts0 (.instantiable RX1 1) (by decide +kernel))
  obtain ⟨c2, i2, k2⟩ := u_known (C := RX2) (T := TX2) (N := 3) (n := 3) hts gcw_2 (hts0 (.instantiable RX2 3) (by decide +kernel))
  obtain ⟨c3, i3, k3⟩ := u_known (C := RX3) (T := TX3) (N := 2) (n := 2) hts gcw_3 (hts0 (.instantiable RX3 2) (by decide +kernel))
  obtain ⟨c4, i4, k4⟩ := u_known (C := RX4) (T := TX4) (N := 8) (n := 8) hts gcw_4 (hts0 (.instantiable RX4 8) (by decide +kernel))
  obtain ⟨c6, i6, k6⟩ := u_known (C := RX6) (T := TX6) (N := 6) (n := 6) hts gcw_5 (hts0 (.instantiable RX6 6) (by decide +kernel))
  obtain ⟨c7, i7, k7⟩ := u_known (C := RX7) (T := TX7) (N := 2) (n := 2) hts gcw_6 (hts0 (.instantiable RX7 2) (by decide +kernel))
  obtain ⟨c8, i8, k8⟩ := u_known (C := RX8) (T := TX8) (N := 9) (n := 9) hts gcw_7 (hts0 (.instantiable RX8 9) (by decide +kernel))
  obtain ⟨c9, i9, k9⟩ := u_known (C := RX9) (T := TX9) (N := 29) (n := 29) hts gcw_8 (hts0 (.instantiable RX9 29) (by decide +kernel))
  obtain ⟨dC, dI, hKc⟩ : ∃ (dC : Nat → ClassId) (dI : Nat → Nat → Nat), ∀ (k : Nat) (q : vw_C), gcl[k]? = some q → u_Kn s q.1 q.2.1 q.2.2 (dC k) (dI k) := by
    refine ⟨fun k => [c0, c1, c2, c3, c4, c6, c7, c8, c9].getD k 0, fun k => [i0, i1, i2, i3, i4, i6, i7, i8, i9].getD k i0, ?_⟩
    intro k q hq
    match k, hq with
    | 0, hq => cases hq; exact k0
    | 1, hq => cases hq; exact k1
    | 2, hq => cases hq; exact k2
    | 3, hq => cases hq; exact k3
    | 4, hq => cases hq; exact k4
    | 5, hq => cases hq; exact k6
    | 6, hq => cases hq; exact k7
    | 7, hq => cases hq; exact k8
    | 8, hq => cases hq; exact k9
    | k + 9, hq => simp [gcl] at hq
  have hK : va_K (dC, dI) gcl [(dA false, .int), (dA true, .long)] s := by
    refine ⟨hKc, fun k q h => ?_⟩
    match k, h with
    | 0, h => cases h; rw [hdI]; exact ⟨aI, rI⟩
    | 1, h => cases h; rw [hdJ]; exact ⟨aJ, rJ⟩
    | k + 2, h => simp at h
  have hS : va_S (fun q : Nat => s.heap.size ≤ q) s.heap s.heap [] := va_S.rf
  have hP : va_P (dC, dI) gcl (sj_W dA s.heap.size []) s.heap := fun k q h => by simp [sj_W] at h
  have X : si_Ctx p s m #[Value.ref b] c (dC, dI) dA gcl code RL 4 := ⟨hx, hb, hml, hown, hts, hK, hNk⟩
  have hl := lv_entry ([.ref b]) (n := 4) (Nat.le_of_ble_eq_true rfl)
  rw [lg_entry_eq]
  generalize (lg_sl ([.ref b]) ++ List.replicate (4 - (lg_sl ([.ref b])).length) Slot.unset).toArray = ls at hl ⊢
  have hl : lv_has ls 4 [(0, .ref b)] := hl
  refine sj_new hx hb hts gcw_7 tyX8 tyX8_ok hown (hts0 (.classLink RL 7 RX8) (by decide +kernel)) (hts0 (.instantiable RX8 9) (by decide +kernel)) (hts0 (.initialized RX8) (by decide +kernel)) hK hP hS (ci := 7) rfl (fs := [.null, .null, .null, .int 0, .null, .null, .null, .null, .null]) (by decide) (Nat.le_of_ble_eq_true rfl) (Nat.le_of_ble_eq_true rfl) dL_0 (fun H z1 hP hS => ?_)
  have hB : sj_B (dC, dI) dA gcl s.heap.size gc0 H := ⟨hP, z1⟩
  refine lv_dup hx hb dL_3 rfl ?_
  refine sj_goes (va_runI (As := []) (rest := [.ref s.heap.size]) ⟨hx, hb, hml, hown, hts⟩ (sj_sim gTok l (dC, dI) dA s.heap.size 300 7 _ _ _ _ _ _ _ rfl 0 _ _ gcr1) ⟨callB_of 0 hts (si_goodw ggood (List.mem_filter.mpr (by decide +kernel))) rfl rfl rfl (hts0 (.initialized RX8) (by decide +kernel)) (hts0 (.methodLink RL 9 yX8_init) (by decide +kernel)) (by decide +kernel) ⟨Nat.le_of_ble_eq_true rfl, Nat.le_of_ble_eq_true rfl⟩, rfl, hts0 (.instanceMethod yX8_init) (by decide +kernel)⟩ ⟨sj_blind, fun U hU hW => ⟨rfl, by rw [hU]; exact hB, va_K.moved hW.alike hK, hNk.warm hW⟩⟩ rfl rfl hl.1 rfl (lv_room (m := m) (pc := 4) (ls := ls) (rest := []) (st := [.ref s.heap.size]) (Nat.le_of_ble_eq_true rfl)) dL_4 ⟨Nat.le_of_ble_eq_true rfl, Nat.le_of_ble_eq_true rfl⟩) hS (fun H1 locs1 hB1 hS1 => ?_)
  refine lv_astore_n (lv' := [(1, .ref (s.heap.size + 0)), (0, .ref b)]) hx hb dL_7 rfl hl (by decide) rfl (fun ls hl => ?_)
  obtain ⟨hP1, z2⟩ := hB1
  refine sj_new hx hb hts gcw_8 tyX9 tyX9_ok hown (hts0 (.classLink RL 10 RX9) (by decide +kernel)) (hts0 (.instantiable RX9 29) (by decide +kernel)) (hts0 (.initialized RX9) (by decide +kernel)) hK hP1 hS1 (ci := 8) rfl (fs := [.null, .int 0, .null, .int 0, .int 0, .int 0, .null, .int 0, .long 0, .int 0, .null, .int 0, .int 0, .null, .int 0, .null, .int 0, .null, .null, .null, .null, .null, .null, .null, .null, .null, .int 0, .int 0, .long 0]) (by decide) (Nat.le_of_ble_eq_true rfl) (Nat.le_of_ble_eq_true rfl) dL_8 (fun H2 z3 hP2 hS2 => ?_)
  rw [z2] at hP2 z3 ⊢
  have hB2 : sj_B (dC, dI) dA gcl s.heap.size (gc1 ++ [.inl (8, [.null, .int 0, .null, .int 0, .int 0, .int 0, .null, .int 0, .long 0, .int 0, .null, .int 0, .int 0, .null, .int 0, .null, .int 0, .null, .null, .null, .null, .null, .null, .null, .null, .null, .int 0, .int 0, .long 0])]) H2 := ⟨by rw [← sj_W_app]; exact hP2, z3⟩
  refine lv_dup hx hb dL_11 rfl ?_
  refine sj_goes (va_runI (As := []) (rest := [.ref (s.heap.size + 29)]) ⟨hx, hb, hml, hown, hts⟩ (sj_sim gTok l (dC, dI) dA s.heap.size 300 8 _ _ _ _ _ _ _ rfl 29 _ _ gcr2) ⟨callB_of 0 hts (si_goodw ggood (List.mem_filter.mpr (by decide +kernel))) rfl rfl rfl (hts0 (.initialized RX9) (by decide +kernel)) (hts0 (.methodLink RL 12 yX9_init) (by decide +kernel)) (by decide +kernel) ⟨Nat.le_of_ble_eq_true rfl, Nat.le_of_ble_eq_true rfl⟩, rfl, hts0 (.instanceMethod yX9_init) (by decide +kernel)⟩ ⟨sj_blind, fun U hU hW => ⟨rfl, by rw [hU]; exact hB2, va_K.moved hW.alike hK, hNk.warm hW⟩⟩ rfl rfl hl.1 rfl (lv_room (m := m) (pc := 12) (ls := ls) (rest := []) (st := [.ref (s.heap.size + 29)]) (Nat.le_of_ble_eq_true rfl)) dL_12 ⟨Nat.le_of_ble_eq_true rfl, Nat.le_of_ble_eq_true rfl⟩) hS2 (fun H3 locs3 hB3 hS3 => ?_)
  refine lv_astore_n (lv' := [(2, .ref (s.heap.size + 29)), (1, .ref (s.heap.size + 0)), (0, .ref b)]) hx hb dL_15 rfl hl (by decide) rfl (fun ls hl => ?_)
  refine lv_iconst (v := 0) hx hb dL_16 (by decide) ?_
  refine lv_istore_n (lv' := [(3, .int 0), (2, .ref (s.heap.size + 29)), (1, .ref (s.heap.size + 0)), (0, .ref b)]) hx hb dL_17 rfl hl (by decide) rfl (fun ls hl => ?_)
  obtain ⟨hP3, z4⟩ := hB3
  rw [gcW] at hP3
  refine W.widen (k := 45) (n := 5189) (Nat.le_of_ble_eq_true rfl) (Nat.le_of_ble_eq_true rfl) ?_
  exact lw_loop C0 X I hf hL (L + 4) 0 (by omega) (by omega) g0 hI H3 locs3 ls hP3 hS3 (lv_sub hl [3, 2, 1, 0] rfl)
end
