section
-- ===== PART A: goes FIRST, ahead of the names: the tables' words, and 'selects' of the private methods out of them =====
/-- a private method of a class that the tables say can be made, by its rows of tables_1 -/
def lw_okq (q : MethodName × Nat) : Prop := (q.1.cls ≠ "java/lang/invoke/MethodHandle" ∧ q.1.cls ≠ "java/lang/invoke/VarHandle") ∧ Cond.instantiable q.1.cls q.2 ∈ tables_1 ∧ Cond.privateMethod q.1 ∈ tables_1 ∧ Cond.instanceMethod q.1 ∈ tables_1
theorem lw_p0 : lw_okq (⟨"DialPlan$Pattern", "setFrom", "(III)V"⟩, 7) := ⟨⟨by decide +kernel, by decide +kernel⟩, List.mem_of_getElem? (i := 43) (by decide +kernel), List.mem_of_getElem? (i := 210) (by decide +kernel), List.mem_of_getElem? (i := 211) (by decide +kernel)⟩
theorem lw_p1 : lw_okq (⟨"DialPlan$PatternText", "take", "(I)Z"⟩, 4) := ⟨⟨by decide +kernel, by decide +kernel⟩, List.mem_of_getElem? (i := 37) (by decide +kernel), List.mem_of_getElem? (i := 221) (by decide +kernel), List.mem_of_getElem? (i := 222) (by decide +kernel)⟩
theorem lw_p2 : lw_okq (⟨"DialPlan$PatternText", "takePlaceOrTail", "(I)Z"⟩, 4) := ⟨⟨by decide +kernel, by decide +kernel⟩, List.mem_of_getElem? (i := 37) (by decide +kernel), List.mem_of_getElem? (i := 225) (by decide +kernel), List.mem_of_getElem? (i := 226) (by decide +kernel)⟩
theorem lw_p3 : lw_okq (⟨"DialPlan$PatternText", "takePlace", "(I)Z"⟩, 4) := ⟨⟨by decide +kernel, by decide +kernel⟩, List.mem_of_getElem? (i := 37) (by decide +kernel), List.mem_of_getElem? (i := 241) (by decide +kernel), List.mem_of_getElem? (i := 242) (by decide +kernel)⟩
theorem lw_p4 : lw_okq (⟨"DialPlan$PatternText", "takeLow", "(I)Z"⟩, 4) := ⟨⟨by decide +kernel, by decide +kernel⟩, List.mem_of_getElem? (i := 37) (by decide +kernel), List.mem_of_getElem? (i := 258) (by decide +kernel), List.mem_of_getElem? (i := 259) (by decide +kernel)⟩
theorem lw_p5 : lw_okq (⟨"DialPlan$PatternText", "takeSign", "(III)Z"⟩, 4) := ⟨⟨by decide +kernel, by decide +kernel⟩, List.mem_of_getElem? (i := 37) (by decide +kernel), List.mem_of_getElem? (i := 262) (by decide +kernel), List.mem_of_getElem? (i := 263) (by decide +kernel)⟩
theorem lw_p6 : lw_okq (⟨"DialPlan$PatternText", "takeHigh", "(I)Z"⟩, 4) := ⟨⟨by decide +kernel, by decide +kernel⟩, List.mem_of_getElem? (i := 37) (by decide +kernel), List.mem_of_getElem? (i := 266) (by decide +kernel), List.mem_of_getElem? (i := 267) (by decide +kernel)⟩
theorem lw_p7 : lw_okq (⟨"DialPlan$PatternText", "takeBracket", "(I)Z"⟩, 4) := ⟨⟨by decide +kernel, by decide +kernel⟩, List.mem_of_getElem? (i := 37) (by decide +kernel), List.mem_of_getElem? (i := 270) (by decide +kernel), List.mem_of_getElem? (i := 271) (by decide +kernel)⟩
theorem lw_p8 : lw_okq (⟨"DialPlan$PatternText", "takeWay", "(I)Z"⟩, 4) := ⟨⟨by decide +kernel, by decide +kernel⟩, List.mem_of_getElem? (i := 37) (by decide +kernel), List.mem_of_getElem? (i := 274) (by decide +kernel), List.mem_of_getElem? (i := 275) (by decide +kernel)⟩
theorem lw_p9 : lw_okq (⟨"DialPlan$PatternText", "takeDrop", "(I)Z"⟩, 4) := ⟨⟨by decide +kernel, by decide +kernel⟩, List.mem_of_getElem? (i := 37) (by decide +kernel), List.mem_of_getElem? (i := 285) (by decide +kernel), List.mem_of_getElem? (i := 286) (by decide +kernel)⟩
theorem lw_p10 : lw_okq (⟨"DialPlan$PatternText", "takeAhead", "(I)Z"⟩, 4) := ⟨⟨by decide +kernel, by decide +kernel⟩, List.mem_of_getElem? (i := 37) (by decide +kernel), List.mem_of_getElem? (i := 293) (by decide +kernel), List.mem_of_getElem? (i := 294) (by decide +kernel)⟩
theorem lw_p11 : lw_okq (⟨"DialPlan$Pattern", "sharesRowWith", "(LDialPlan$Pattern;)Z"⟩, 7) := ⟨⟨by decide +kernel, by decide +kernel⟩, List.mem_of_getElem? (i := 43) (by decide +kernel), List.mem_of_getElem? (i := 402) (by decide +kernel), List.mem_of_getElem? (i := 403) (by decide +kernel)⟩
theorem lw_p12 : lw_okq (⟨"DialPlan", "readsPageAsRow", "()Z"⟩, 6) := ⟨⟨by decide +kernel, by decide +kernel⟩, List.mem_of_getElem? (i := 12) (by decide +kernel), List.mem_of_getElem? (i := 419) (by decide +kernel), List.mem_of_getElem? (i := 420) (by decide +kernel)⟩
theorem lw_p13 : lw_okq (⟨"DialPlan$Reading", "rewrite", "(LDialPlan$Pattern;)Z"⟩, 4) := ⟨⟨by decide +kernel, by decide +kernel⟩, List.mem_of_getElem? (i := 102) (by decide +kernel), List.mem_of_getElem? (i := 448) (by decide +kernel), List.mem_of_getElem? (i := 449) (by decide +kernel)⟩
theorem lw_p14 : lw_okq (⟨"DialPlan$Line", "goOnWaiting", "(LDialPlan$Plan;)V"⟩, 9) := ⟨⟨by decide +kernel, by decide +kernel⟩, List.mem_of_getElem? (i := 123) (by decide +kernel), List.mem_of_getElem? (i := 491) (by decide +kernel), List.mem_of_getElem? (i := 492) (by decide +kernel)⟩
theorem lw_p15 : lw_okq (⟨"DialPlan$Plan", "isSureBy", "(LDialPlan$Row;I)Z"⟩, 2) := ⟨⟨by decide +kernel, by decide +kernel⟩, List.mem_of_getElem? (i := 86) (by decide +kernel), List.mem_of_getElem? (i := 567) (by decide +kernel), List.mem_of_getElem? (i := 568) (by decide +kernel)⟩
def lw_privs_1 : List (MethodName × Nat) := [(⟨"DialPlan$Pattern", "setFrom", "(III)V"⟩, 7), (⟨"DialPlan$PatternText", "take", "(I)Z"⟩, 4), (⟨"DialPlan$PatternText", "takePlaceOrTail", "(I)Z"⟩, 4), (⟨"DialPlan$PatternText", "takePlace", "(I)Z"⟩, 4), (⟨"DialPlan$PatternText", "takeLow", "(I)Z"⟩, 4), (⟨"DialPlan$PatternText", "takeSign", "(III)Z"⟩, 4), (⟨"DialPlan$PatternText", "takeHigh", "(I)Z"⟩, 4), (⟨"DialPlan$PatternText", "takeBracket", "(I)Z"⟩, 4), (⟨"DialPlan$PatternText", "takeWay", "(I)Z"⟩, 4), (⟨"DialPlan$PatternText", "takeDrop", "(I)Z"⟩, 4), (⟨"DialPlan$PatternText", "takeAhead", "(I)Z"⟩, 4), (⟨"DialPlan$Pattern", "sharesRowWith", "(LDialPlan$Pattern;)Z"⟩, 7), (⟨"DialPlan", "readsPageAsRow", "()Z"⟩, 6), (⟨"DialPlan$Reading", "rewrite", "(LDialPlan$Pattern;)Z"⟩, 4), (⟨"DialPlan$Line", "goOnWaiting", "(LDialPlan$Plan;)V"⟩, 9), (⟨"DialPlan$Plan", "isSureBy", "(LDialPlan$Row;I)Z"⟩, 2)]
theorem lw_r1 : ∀ q ∈ lw_privs_1, lw_okq q := List.forall_mem_cons.mpr ⟨lw_p0, List.forall_mem_cons.mpr ⟨lw_p1, List.forall_mem_cons.mpr ⟨lw_p2, List.forall_mem_cons.mpr ⟨lw_p3, List.forall_mem_cons.mpr ⟨lw_p4, List.forall_mem_cons.mpr ⟨lw_p5, List.forall_mem_cons.mpr ⟨lw_p6, List.forall_mem_cons.mpr ⟨lw_p7, List.forall_mem_cons.mpr ⟨lw_p8, List.forall_mem_cons.mpr ⟨lw_p9, List.forall_mem_cons.mpr ⟨lw_p10, List.forall_mem_cons.mpr ⟨lw_p11, List.forall_mem_cons.mpr ⟨lw_p12, List.forall_mem_cons.mpr ⟨lw_p13, List.forall_mem_cons.mpr ⟨lw_p14, List.forall_mem_cons.mpr ⟨lw_p15, fun _ h => absurd h List.not_mem_nil⟩⟩⟩⟩⟩⟩⟩⟩⟩⟩⟩⟩⟩⟩⟩⟩
theorem lw_p16 : lw_okq (⟨"DialPlan", "wayOfTheLine", "()I"⟩, 6) := ⟨⟨by decide +kernel, by decide +kernel⟩, List.mem_of_getElem? (i := 12) (by decide +kernel), List.mem_of_getElem? (i := 576) (by decide +kernel), List.mem_of_getElem? (i := 577) (by decide +kernel)⟩
theorem lw_p17 : lw_okq (⟨"DialPlan", "digestOfPatterns", "(J)J"⟩, 6) := ⟨⟨by decide +kernel, by decide +kernel⟩, List.mem_of_getElem? (i := 12) (by decide +kernel), List.mem_of_getElem? (i := 610) (by decide +kernel), List.mem_of_getElem? (i := 611) (by decide +kernel)⟩
theorem lw_p18 : lw_okq (⟨"DialPlan", "digestOfClashes", "(J)J"⟩, 6) := ⟨⟨by decide +kernel, by decide +kernel⟩, List.mem_of_getElem? (i := 12) (by decide +kernel), List.mem_of_getElem? (i := 617) (by decide +kernel), List.mem_of_getElem? (i := 618) (by decide +kernel)⟩
theorem lw_p19 : lw_okq (⟨"DialPlanModel", "goAlong", "()I"⟩, 33) := ⟨⟨by decide +kernel, by decide +kernel⟩, List.mem_of_getElem? (i := 623) (by decide +kernel), List.mem_of_getElem? (i := 745) (by decide +kernel), List.mem_of_getElem? (i := 746) (by decide +kernel)⟩
theorem lw_p20 : lw_okq (⟨"DialPlanModel", "takes", "(I)Z"⟩, 33) := ⟨⟨by decide +kernel, by decide +kernel⟩, List.mem_of_getElem? (i := 623) (by decide +kernel), List.mem_of_getElem? (i := 749) (by decide +kernel), List.mem_of_getElem? (i := 750) (by decide +kernel)⟩
theorem lw_p21 : lw_okq (⟨"DialPlanModel", "takesPlace", "(I)Z"⟩, 33) := ⟨⟨by decide +kernel, by decide +kernel⟩, List.mem_of_getElem? (i := 623) (by decide +kernel), List.mem_of_getElem? (i := 753) (by decide +kernel), List.mem_of_getElem? (i := 754) (by decide +kernel)⟩
theorem lw_p22 : lw_okq (⟨"DialPlanModel", "letsNext", "(I)Z"⟩, 33) := ⟨⟨by decide +kernel, by decide +kernel⟩, List.mem_of_getElem? (i := 623) (by decide +kernel), List.mem_of_getElem? (i := 757) (by decide +kernel), List.mem_of_getElem? (i := 758) (by decide +kernel)⟩
theorem lw_p23 : lw_okq (⟨"DialPlanModel", "takesSpan", "(I)Z"⟩, 33) := ⟨⟨by decide +kernel, by decide +kernel⟩, List.mem_of_getElem? (i := 623) (by decide +kernel), List.mem_of_getElem? (i := 761) (by decide +kernel), List.mem_of_getElem? (i := 762) (by decide +kernel)⟩
theorem lw_p24 : lw_okq (⟨"DialPlanModel", "takesWay", "(I)Z"⟩, 33) := ⟨⟨by decide +kernel, by decide +kernel⟩, List.mem_of_getElem? (i := 623) (by decide +kernel), List.mem_of_getElem? (i := 765) (by decide +kernel), List.mem_of_getElem? (i := 766) (by decide +kernel)⟩
theorem lw_p25 : lw_okq (⟨"DialPlanModel", "takesDrop", "(I)Z"⟩, 33) := ⟨⟨by decide +kernel, by decide +kernel⟩, List.mem_of_getElem? (i := 623) (by decide +kernel), List.mem_of_getElem? (i := 769) (by decide +kernel), List.mem_of_getElem? (i := 770) (by decide +kernel)⟩
theorem lw_p26 : lw_okq (⟨"DialPlanModel", "takesAhead", "(I)Z"⟩, 33) := ⟨⟨by decide +kernel, by decide +kernel⟩, List.mem_of_getElem? (i := 623) (by decide +kernel), List.mem_of_getElem? (i := 773) (by decide +kernel), List.mem_of_getElem? (i := 774) (by decide +kernel)⟩
theorem lw_p27 : lw_okq (⟨"DialPlanModel", "keepPattern", "(I)V"⟩, 33) := ⟨⟨by decide +kernel, by decide +kernel⟩, List.mem_of_getElem? (i := 623) (by decide +kernel), List.mem_of_getElem? (i := 781) (by decide +kernel), List.mem_of_getElem? (i := 782) (by decide +kernel)⟩
theorem lw_p28 : lw_okq (⟨"DialPlanModel", "isPattern", "(I)Z"⟩, 33) := ⟨⟨by decide +kernel, by decide +kernel⟩, List.mem_of_getElem? (i := 623) (by decide +kernel), List.mem_of_getElem? (i := 789) (by decide +kernel), List.mem_of_getElem? (i := 790) (by decide +kernel)⟩
theorem lw_p29 : lw_okq (⟨"DialPlanModel", "copy", "(II)V"⟩, 33) := ⟨⟨by decide +kernel, by decide +kernel⟩, List.mem_of_getElem? (i := 623) (by decide +kernel), List.mem_of_getElem? (i := 793) (by decide +kernel), List.mem_of_getElem? (i := 794) (by decide +kernel)⟩
theorem lw_p30 : lw_okq (⟨"DialPlanModel", "patternNow", "(II)I"⟩, 33) := ⟨⟨by decide +kernel, by decide +kernel⟩, List.mem_of_getElem? (i := 623) (by decide +kernel), List.mem_of_getElem? (i := 801) (by decide +kernel), List.mem_of_getElem? (i := 802) (by decide +kernel)⟩
theorem lw_p31 : lw_okq (⟨"DialPlanModel", "aheadNumber", "(I)I"⟩, 33) := ⟨⟨by decide +kernel, by decide +kernel⟩, List.mem_of_getElem? (i := 623) (by decide +kernel), List.mem_of_getElem? (i := 805) (by decide +kernel), List.mem_of_getElem? (i := 806) (by decide +kernel)⟩
def lw_privs_2 : List (MethodName × Nat) := [(⟨"DialPlan", "wayOfTheLine", "()I"⟩, 6), (⟨"DialPlan", "digestOfPatterns", "(J)J"⟩, 6), (⟨"DialPlan", "digestOfClashes", "(J)J"⟩, 6), (⟨"DialPlanModel", "goAlong", "()I"⟩, 33), (⟨"DialPlanModel", "takes", "(I)Z"⟩, 33), (⟨"DialPlanModel", "takesPlace", "(I)Z"⟩, 33), (⟨"DialPlanModel", "letsNext", "(I)Z"⟩, 33), (⟨"DialPlanModel", "takesSpan", "(I)Z"⟩, 33), (⟨"DialPlanModel", "takesWay", "(I)Z"⟩, 33), (⟨"DialPlanModel", "takesDrop", "(I)Z"⟩, 33), (⟨"DialPlanModel", "takesAhead", "(I)Z"⟩, 33), (⟨"DialPlanModel", "keepPattern", "(I)V"⟩, 33), (⟨"DialPlanModel", "isPattern", "(I)Z"⟩, 33), (⟨"DialPlanModel", "copy", "(II)V"⟩, 33), (⟨"DialPlanModel", "patternNow", "(II)I"⟩, 33), (⟨"DialPlanModel", "aheadNumber", "(I)I"⟩, 33)]
theorem lw_r2 : ∀ q ∈ lw_privs_2, lw_okq q := List.forall_mem_cons.mpr ⟨lw_p16, List.forall_mem_cons.mpr ⟨lw_p17, List.forall_mem_cons.mpr ⟨lw_p18, List.forall_mem_cons.mpr ⟨lw_p19, List.forall_mem_cons.mpr ⟨lw_p20, List.forall_mem_cons.mpr ⟨lw_p21, List.forall_mem_cons.mpr ⟨lw_p22, List.forall_mem_cons.mpr ⟨lw_p23, List.forall_mem_cons.mpr ⟨lw_p24, List.forall_mem_cons.mpr ⟨lw_p25, List.forall_mem_cons.mpr ⟨lw_p26, List.forall_mem_cons.mpr ⟨lw_p27, List.forall_mem_cons.mpr ⟨lw_p28, List.forall_mem_cons.mpr ⟨lw_p29, List.forall_mem_cons.mpr ⟨lw_p30, List.forall_mem_cons.mpr ⟨lw_p31, fun _ h => absurd h List.not_mem_nil⟩⟩⟩⟩⟩⟩⟩⟩⟩⟩⟩⟩⟩⟩⟩⟩
theorem lw_p32 : lw_okq (⟨"DialPlanModel", "letsOf", "(II)I"⟩, 33) := ⟨⟨by decide +kernel, by decide +kernel⟩, List.mem_of_getElem? (i := 623) (by decide +kernel), List.mem_of_getElem? (i := 813) (by decide +kernel), List.mem_of_getElem? (i := 814) (by decide +kernel)⟩
theorem lw_p33 : lw_okq (⟨"DialPlanModel", "compare", "(II)I"⟩, 33) := ⟨⟨by decide +kernel, by decide +kernel⟩, List.mem_of_getElem? (i := 623) (by decide +kernel), List.mem_of_getElem? (i := 821) (by decide +kernel), List.mem_of_getElem? (i := 822) (by decide +kernel)⟩
theorem lw_p34 : lw_okq (⟨"DialPlanModel", "wide", "(II)I"⟩, 33) := ⟨⟨by decide +kernel, by decide +kernel⟩, List.mem_of_getElem? (i := 623) (by decide +kernel), List.mem_of_getElem? (i := 825) (by decide +kernel), List.mem_of_getElem? (i := 826) (by decide +kernel)⟩
theorem lw_p35 : lw_okq (⟨"DialPlanModel", "clashAt", "(I)I"⟩, 33) := ⟨⟨by decide +kernel, by decide +kernel⟩, List.mem_of_getElem? (i := 623) (by decide +kernel), List.mem_of_getElem? (i := 836) (by decide +kernel), List.mem_of_getElem? (i := 837) (by decide +kernel)⟩
theorem lw_p36 : lw_okq (⟨"DialPlanModel", "isClash", "(II)Z"⟩, 33) := ⟨⟨by decide +kernel, by decide +kernel⟩, List.mem_of_getElem? (i := 623) (by decide +kernel), List.mem_of_getElem? (i := 840) (by decide +kernel), List.mem_of_getElem? (i := 841) (by decide +kernel)⟩
theorem lw_p37 : lw_okq (⟨"DialPlanModel", "areLike", "(II)Z"⟩, 33) := ⟨⟨by decide +kernel, by decide +kernel⟩, List.mem_of_getElem? (i := 623) (by decide +kernel), List.mem_of_getElem? (i := 844) (by decide +kernel), List.mem_of_getElem? (i := 845) (by decide +kernel)⟩
theorem lw_p38 : lw_okq (⟨"DialPlanModel", "isRow", "()Z"⟩, 33) := ⟨⟨by decide +kernel, by decide +kernel⟩, List.mem_of_getElem? (i := 623) (by decide +kernel), List.mem_of_getElem? (i := 852) (by decide +kernel), List.mem_of_getElem? (i := 853) (by decide +kernel)⟩
theorem lw_p39 : lw_okq (⟨"DialPlanModel", "rowNow", "(I)I"⟩, 33) := ⟨⟨by decide +kernel, by decide +kernel⟩, List.mem_of_getElem? (i := 623) (by decide +kernel), List.mem_of_getElem? (i := 856) (by decide +kernel), List.mem_of_getElem? (i := 857) (by decide +kernel)⟩
theorem lw_p40 : lw_okq (⟨"DialPlanModel", "fitting", "(I)I"⟩, 33) := ⟨⟨by decide +kernel, by decide +kernel⟩, List.mem_of_getElem? (i := 623) (by decide +kernel), List.mem_of_getElem? (i := 860) (by decide +kernel), List.mem_of_getElem? (i := 861) (by decide +kernel)⟩
theorem lw_p41 : lw_okq (⟨"DialPlanModel", "fits", "(II)Z"⟩, 33) := ⟨⟨by decide +kernel, by decide +kernel⟩, List.mem_of_getElem? (i := 623) (by decide +kernel), List.mem_of_getElem? (i := 864) (by decide +kernel), List.mem_of_getElem? (i := 865) (by decide +kernel)⟩
theorem lw_p42 : lw_okq (⟨"DialPlanModel", "begins", "(II)Z"⟩, 33) := ⟨⟨by decide +kernel, by decide +kernel⟩, List.mem_of_getElem? (i := 623) (by decide +kernel), List.mem_of_getElem? (i := 868) (by decide +kernel), List.mem_of_getElem? (i := 869) (by decide +kernel)⟩
theorem lw_p43 : lw_okq (⟨"DialPlanModel", "winner", "(I)I"⟩, 33) := ⟨⟨by decide +kernel, by decide +kernel⟩, List.mem_of_getElem? (i := 623) (by decide +kernel), List.mem_of_getElem? (i := 872) (by decide +kernel), List.mem_of_getElem? (i := 873) (by decide +kernel)⟩
theorem lw_p44 : lw_okq (⟨"DialPlanModel", "leading", "(I)I"⟩, 33) := ⟨⟨by decide +kernel, by decide +kernel⟩, List.mem_of_getElem? (i := 623) (by decide +kernel), List.mem_of_getElem? (i := 876) (by decide +kernel), List.mem_of_getElem? (i := 877) (by decide +kernel)⟩
theorem lw_p45 : lw_okq (⟨"DialPlanModel", "leads", "(II)Z"⟩, 33) := ⟨⟨by decide +kernel, by decide +kernel⟩, List.mem_of_getElem? (i := 623) (by decide +kernel), List.mem_of_getElem? (i := 880) (by decide +kernel), List.mem_of_getElem? (i := 881) (by decide +kernel)⟩
theorem lw_p46 : lw_okq (⟨"DialPlanModel", "read", "()I"⟩, 33) := ⟨⟨by decide +kernel, by decide +kernel⟩, List.mem_of_getElem? (i := 623) (by decide +kernel), List.mem_of_getElem? (i := 884) (by decide +kernel), List.mem_of_getElem? (i := 885) (by decide +kernel)⟩
theorem lw_p47 : lw_okq (⟨"DialPlanModel", "rewrite", "(I)V"⟩, 33) := ⟨⟨by decide +kernel, by decide +kernel⟩, List.mem_of_getElem? (i := 623) (by decide +kernel), List.mem_of_getElem? (i := 888) (by decide +kernel), List.mem_of_getElem? (i := 889) (by decide +kernel)⟩
def lw_privs_3 : List (MethodName × Nat) := [(⟨"DialPlanModel", "letsOf", "(II)I"⟩, 33), (⟨"DialPlanModel", "compare", "(II)I"⟩, 33), (⟨"DialPlanModel", "wide", "(II)I"⟩, 33), (⟨"DialPlanModel", "clashAt", "(I)I"⟩, 33), (⟨"DialPlanModel", "isClash", "(II)Z"⟩, 33), (⟨"DialPlanModel", "areLike", "(II)Z"⟩, 33), (⟨"DialPlanModel", "isRow", "()Z"⟩, 33), (⟨"DialPlanModel", "rowNow", "(I)I"⟩, 33), (⟨"DialPlanModel", "fitting", "(I)I"⟩, 33), (⟨"DialPlanModel", "fits", "(II)Z"⟩, 33), (⟨"DialPlanModel", "begins", "(II)Z"⟩, 33), (⟨"DialPlanModel", "winner", "(I)I"⟩, 33), (⟨"DialPlanModel", "leading", "(I)I"⟩, 33), (⟨"DialPlanModel", "leads", "(II)Z"⟩, 33), (⟨"DialPlanModel", "read", "()I"⟩, 33), (⟨"DialPlanModel", "rewrite", "(I)V"⟩, 33)]
theorem lw_r3 : ∀ q ∈ lw_privs_3, lw_okq q := List.forall_mem_cons.mpr ⟨lw_p32, List.forall_mem_cons.mpr ⟨lw_p33, List.forall_mem_cons.mpr ⟨lw_p34, List.forall_mem_cons.mpr ⟨lw_p35, List.forall_mem_cons.mpr ⟨lw_p36, List.forall_mem_cons.mpr ⟨lw_p37, List.forall_mem_cons.mpr ⟨lw_p38, List.forall_mem_cons.mpr ⟨lw_p39, List.forall_mem_cons.mpr ⟨lw_p40, List.forall_mem_cons.mpr ⟨lw_p41, List.forall_mem_cons.mpr ⟨lw_p42, List.forall_mem_cons.mpr ⟨lw_p43, List.forall_mem_cons.mpr ⟨lw_p44, List.forall_mem_cons.mpr ⟨lw_p45, List.forall_mem_cons.mpr ⟨lw_p46, List.forall_mem_cons.mpr ⟨lw_p47, fun _ h => absurd h List.not_mem_nil⟩⟩⟩⟩⟩⟩⟩⟩⟩⟩⟩⟩⟩⟩⟩⟩
theorem lw_p48 : lw_okq (⟨"DialPlanModel", "layPressed", "()V"⟩, 33) := ⟨⟨by decide +kernel, by decide +kernel⟩, List.mem_of_getElem? (i := 623) (by decide +kernel), List.mem_of_getElem? (i := 908) (by decide +kernel), List.mem_of_getElem? (i := 909) (by decide +kernel)⟩
theorem lw_p49 : lw_okq (⟨"DialPlanModel", "helps", "(I)I"⟩, 33) := ⟨⟨by decide +kernel, by decide +kernel⟩, List.mem_of_getElem? (i := 623) (by decide +kernel), List.mem_of_getElem? (i := 912) (by decide +kernel), List.mem_of_getElem? (i := 913) (by decide +kernel)⟩
theorem lw_p50 : lw_okq (⟨"DialPlanModel", "ends", "(I)I"⟩, 33) := ⟨⟨by decide +kernel, by decide +kernel⟩, List.mem_of_getElem? (i := 623) (by decide +kernel), List.mem_of_getElem? (i := 916) (by decide +kernel), List.mem_of_getElem? (i := 917) (by decide +kernel)⟩
theorem lw_p51 : lw_okq (⟨"DialPlanModel", "lineNow", "(I)I"⟩, 33) := ⟨⟨by decide +kernel, by decide +kernel⟩, List.mem_of_getElem? (i := 623) (by decide +kernel), List.mem_of_getElem? (i := 932) (by decide +kernel), List.mem_of_getElem? (i := 933) (by decide +kernel)⟩
theorem lw_p52 : lw_okq (⟨"DialPlanModel", "stageNow", "()I"⟩, 33) := ⟨⟨by decide +kernel, by decide +kernel⟩, List.mem_of_getElem? (i := 623) (by decide +kernel), List.mem_of_getElem? (i := 936) (by decide +kernel), List.mem_of_getElem? (i := 937) (by decide +kernel)⟩
theorem lw_p53 : lw_okq (⟨"DialPlanModel", "winsNow", "()I"⟩, 33) := ⟨⟨by decide +kernel, by decide +kernel⟩, List.mem_of_getElem? (i := 623) (by decide +kernel), List.mem_of_getElem? (i := 940) (by decide +kernel), List.mem_of_getElem? (i := 941) (by decide +kernel)⟩
theorem lw_p54 : lw_okq (⟨"DialPlanModel", "sureNow", "()I"⟩, 33) := ⟨⟨by decide +kernel, by decide +kernel⟩, List.mem_of_getElem? (i := 623) (by decide +kernel), List.mem_of_getElem? (i := 944) (by decide +kernel), List.mem_of_getElem? (i := 945) (by decide +kernel)⟩
theorem lw_p55 : lw_okq (⟨"DialPlanModel", "isSureBy", "(I)Z"⟩, 33) := ⟨⟨by decide +kernel, by decide +kernel⟩, List.mem_of_getElem? (i := 623) (by decide +kernel), List.mem_of_getElem? (i := 948) (by decide +kernel), List.mem_of_getElem? (i := 949) (by decide +kernel)⟩
theorem lw_p56 : lw_okq (⟨"DialPlanModel", "wayNow", "()I"⟩, 33) := ⟨⟨by decide +kernel, by decide +kernel⟩, List.mem_of_getElem? (i := 623) (by decide +kernel), List.mem_of_getElem? (i := 952) (by decide +kernel), List.mem_of_getElem? (i := 953) (by decide +kernel)⟩
theorem lw_p57 : lw_okq (⟨"DialPlanModel", "howMany", "(I)I"⟩, 33) := ⟨⟨by decide +kernel, by decide +kernel⟩, List.mem_of_getElem? (i := 623) (by decide +kernel), List.mem_of_getElem? (i := 960) (by decide +kernel), List.mem_of_getElem? (i := 961) (by decide +kernel)⟩
theorem lw_p58 : lw_okq (⟨"DialPlanModel", "clashes", "()I"⟩, 33) := ⟨⟨by decide +kernel, by decide +kernel⟩, List.mem_of_getElem? (i := 623) (by decide +kernel), List.mem_of_getElem? (i := 964) (by decide +kernel), List.mem_of_getElem? (i := 965) (by decide +kernel)⟩
theorem lw_p59 : lw_okq (⟨"DialPlanModel", "mix", "(J)V"⟩, 33) := ⟨⟨by decide +kernel, by decide +kernel⟩, List.mem_of_getElem? (i := 623) (by decide +kernel), List.mem_of_getElem? (i := 973) (by decide +kernel), List.mem_of_getElem? (i := 974) (by decide +kernel)⟩
def lw_privs_4 : List (MethodName × Nat) := [(⟨"DialPlanModel", "layPressed", "()V"⟩, 33), (⟨"DialPlanModel", "helps", "(I)I"⟩, 33), (⟨"DialPlanModel", "ends", "(I)I"⟩, 33), (⟨"DialPlanModel", "lineNow", "(I)I"⟩, 33), (⟨"DialPlanModel", "stageNow", "()I"⟩, 33), (⟨"DialPlanModel", "winsNow", "()I"⟩, 33), (⟨"DialPlanModel", "sureNow", "()I"⟩, 33), (⟨"DialPlanModel", "isSureBy", "(I)Z"⟩, 33), (⟨"DialPlanModel", "wayNow", "()I"⟩, 33), (⟨"DialPlanModel", "howMany", "(I)I"⟩, 33), (⟨"DialPlanModel", "clashes", "()I"⟩, 33), (⟨"DialPlanModel", "mix", "(J)V"⟩, 33)]
theorem lw_r4 : ∀ q ∈ lw_privs_4, lw_okq q := List.forall_mem_cons.mpr ⟨lw_p48, List.forall_mem_cons.mpr ⟨lw_p49, List.forall_mem_cons.mpr ⟨lw_p50, List.forall_mem_cons.mpr ⟨lw_p51, List.forall_mem_cons.mpr ⟨lw_p52, List.forall_mem_cons.mpr ⟨lw_p53, List.forall_mem_cons.mpr ⟨lw_p54, List.forall_mem_cons.mpr ⟨lw_p55, List.forall_mem_cons.mpr ⟨lw_p56, List.forall_mem_cons.mpr ⟨lw_p57, List.forall_mem_cons.mpr ⟨lw_p58, List.forall_mem_cons.mpr ⟨lw_p59, fun _ h => absurd h List.not_mem_nil⟩⟩⟩⟩⟩⟩⟩⟩⟩⟩⟩⟩
def lw_privs : List (MethodName × Nat) := lw_privs_1 ++ (lw_privs_2 ++ (lw_privs_3 ++ (lw_privs_4)))
def lw_tbl : List Cond := k2_sels lw_privs ++ tables_1
theorem lw_privs_ok : ∀ q ∈ lw_privs, lw_okq q := by
  show ∀ q ∈ lw_privs_1 ++ (lw_privs_2 ++ (lw_privs_3 ++ (lw_privs_4))), lw_okq q
  exact List.forall_mem_append.mpr ⟨lw_r1, List.forall_mem_append.mpr ⟨lw_r2, List.forall_mem_append.mpr ⟨lw_r3, lw_r4⟩⟩⟩
end
section
def RX0 : String := "DialPlan$Line"
def TX0 : u_T := fun k => match k with
  | 0 => ("DialPlan$Line", "dialled", "LDialPlan$Row;", true)
  | 1 => ("DialPlan$Line", "stageTicks", "[I", true)
  | 2 => ("DialPlan$Line", "state", "I", false)
  | 3 => ("DialPlan$Line", "ended", "I", false)
  | 4 => ("DialPlan$Line", "ticksLeft", "I", false)
  | 5 => ("DialPlan$Line", "timesLifted", "I", false)
  | 6 => ("DialPlan$Line", "timesReady", "I", false)
  | 7 => ("DialPlan$Line", "timesLost", "I", false)
  | _ => ("DialPlan$Line", "digitsEver", "I", false)
def tyX0 : Nat → FieldType := fun k => match k with
  | 0 => .object "DialPlan$Row"
  | 1 => .array .int
  | 2 => .int
  | 3 => .int
  | 4 => .int
  | 5 => .int
  | 6 => .int
  | 7 => .int
  | _ => .int
theorem nmX0 : ∀ a, a < 9 → ∀ b, b < 9 → a ≠ b → (TX0 a).2.1 ≠ (TX0 b).2.1 := by decide +kernel
theorem tyX0_ok : ∀ k, k < 9 → parseFieldDescriptor (TX0 k).2.2.1 = some (tyX0 k) := by decide +kernel
abbrev cX0_init : ByteArray := prog_2_method_1_code
def yX0_init : MethodName := ⟨RX0, "<init>", "()V"⟩
abbrev cX0_dialled : ByteArray := prog_2_method_2_code
def yX0_dialled : MethodName := ⟨RX0, "dialled", "()LDialPlan$Row;"⟩
abbrev cX0_state : ByteArray := prog_2_method_3_code
def yX0_state : MethodName := ⟨RX0, "state", "()I"⟩
abbrev cX0_isUp : ByteArray := prog_2_method_4_code
def yX0_isUp : MethodName := ⟨RX0, "isUp", "()Z"⟩
abbrev cX0_isWaiting : ByteArray := prog_2_method_5_code
def yX0_isWaiting : MethodName := ⟨RX0, "isWaiting", "()Z"⟩
abbrev cX0_ended : ByteArray := prog_2_method_6_code
def yX0_ended : MethodName := ⟨RX0, "ended", "()I"⟩
abbrev cX0_ticksLeft : ByteArray := prog_2_method_7_code
def yX0_ticksLeft : MethodName := ⟨RX0, "ticksLeft", "()I"⟩
abbrev cX0_timesLifted : ByteArray := prog_2_method_8_code
def yX0_timesLifted : MethodName := ⟨RX0, "timesLifted", "()I"⟩
abbrev cX0_timesReady : ByteArray := prog_2_method_9_code
def yX0_timesReady : MethodName := ⟨RX0, "timesReady", "()I"⟩
abbrev cX0_timesLost : ByteArray := prog_2_method_10_code
def yX0_timesLost : MethodName := ⟨RX0, "timesLost", "()I"⟩
abbrev cX0_digitsEver : ByteArray := prog_2_method_11_code
def yX0_digitsEver : MethodName := ⟨RX0, "digitsEver", "()I"⟩
abbrev cX0_ticksOf : ByteArray := prog_2_method_12_code
def yX0_ticksOf : MethodName := ⟨RX0, "ticksOf", "(I)I"⟩
abbrev cX0_setTicks : ByteArray := prog_2_method_13_code
def yX0_setTicks : MethodName := ⟨RX0, "setTicks", "(II)V"⟩
abbrev cX0_currentStage : ByteArray := prog_2_method_14_code
def yX0_currentStage : MethodName := ⟨RX0, "currentStage", "(LDialPlan$Plan;)I"⟩
abbrev cX0_winner : ByteArray := prog_2_method_15_code
def yX0_winner : MethodName := ⟨RX0, "winner", "(LDialPlan$Plan;)I"⟩
abbrev cX0_putUp : ByteArray := prog_2_method_16_code
def yX0_putUp : MethodName := ⟨RX0, "putUp", "(LDialPlan$Plan;)V"⟩
abbrev cX0_putDown : ByteArray := prog_2_method_17_code
def yX0_putDown : MethodName := ⟨RX0, "putDown", "()V"⟩
abbrev cX0_take : ByteArray := prog_2_method_18_code
def yX0_take : MethodName := ⟨RX0, "take", "(ILDialPlan$Plan;)V"⟩
abbrev cX0_letTicksGo : ByteArray := prog_2_method_19_code
def yX0_letTicksGo : MethodName := ⟨RX0, "letTicksGo", "(ILDialPlan$Plan;)V"⟩
abbrev cX0_goOnWaiting : ByteArray := prog_2_method_20_code
def yX0_goOnWaiting : MethodName := ⟨RX0, "goOnWaiting", "(LDialPlan$Plan;)V"⟩
abbrev cX0_settle : ByteArray := prog_2_method_21_code
def yX0_settle : MethodName := ⟨RX0, "settle", "(ILDialPlan$Plan;)V"⟩
def RX1 : String := "DialPlan$Pattern"
def TX1 : u_T := fun k => match k with
  | 0 => ("DialPlan$Pattern", "masks", "[I", true)
  | 1 => ("DialPlan$Pattern", "widths", "[I", true)
  | 2 => ("DialPlan$Pattern", "ahead", "LDialPlan$Row;", true)
  | 3 => ("DialPlan$Pattern", "places", "I", false)
  | 4 => ("DialPlan$Pattern", "open", "Z", false)
  | 5 => ("DialPlan$Pattern", "way", "I", false)
  | _ => ("DialPlan$Pattern", "dropped", "I", false)
def tyX1 : Nat → FieldType := fun k => match k with
  | 0 => .array .int
  | 1 => .array .int
  | 2 => .object "DialPlan$Row"
  | 3 => .int
  | 4 => .boolean
  | 5 => .int
  | _ => .int
theorem nmX1 : ∀ a, a < 7 → ∀ b, b < 7 → a ≠ b → (TX1 a).2.1 ≠ (TX1 b).2.1 := by decide +kernel
theorem tyX1_ok : ∀ k, k < 7 → parseFieldDescriptor (TX1 k).2.2.1 = some (tyX1 k) := by decide +kernel
abbrev cX1_init : ByteArray := prog_3_method_1_code
def yX1_init : MethodName := ⟨RX1, "<init>", "()V"⟩
abbrev cX1_places : ByteArray := prog_3_method_2_code
def yX1_places : MethodName := ⟨RX1, "places", "()I"⟩
abbrev cX1_isOpen : ByteArray := prog_3_method_3_code
def yX1_isOpen : MethodName := ⟨RX1, "isOpen", "()Z"⟩
abbrev cX1_way : ByteArray := prog_3_method_4_code
def yX1_way : MethodName := ⟨RX1, "way", "()I"⟩
abbrev cX1_dropped : ByteArray := prog_3_method_5_code
def yX1_dropped : MethodName := ⟨RX1, "dropped", "()I"⟩
abbrev cX1_ahead : ByteArray := prog_3_method_6_code
def yX1_ahead : MethodName := ⟨RX1, "ahead", "()LDialPlan$Row;"⟩
abbrev cX1_digitsAt : ByteArray := prog_3_method_7_code
def yX1_digitsAt : MethodName := ⟨RX1, "digitsAt", "(I)I"⟩
abbrev cX1_clear : ByteArray := prog_3_method_8_code
def yX1_clear : MethodName := ⟨RX1, "clear", "()V"⟩
abbrev cX1_hasRoom : ByteArray := prog_3_method_9_code
def yX1_hasRoom : MethodName := ⟨RX1, "hasRoom", "()Z"⟩
abbrev cX1_appendPlace : ByteArray := prog_3_method_10_code
def yX1_appendPlace : MethodName := ⟨RX1, "appendPlace", "(II)V"⟩
abbrev cX1_makeOpen : ByteArray := prog_3_method_11_code
def yX1_makeOpen : MethodName := ⟨RX1, "makeOpen", "()V"⟩
abbrev cX1_setFrom : ByteArray := prog_3_method_12_code
def yX1_setFrom : MethodName := ⟨RX1, "setFrom", "(III)V"⟩
abbrev cX1_setWay : ByteArray := prog_3_method_13_code
def yX1_setWay : MethodName := ⟨RX1, "setWay", "(I)V"⟩
abbrev cX1_setDropped : ByteArray := prog_3_method_14_code
def yX1_setDropped : MethodName := ⟨RX1, "setDropped", "(I)V"⟩
abbrev cX1_copyFrom : ByteArray := prog_3_method_15_code
def yX1_copyFrom : MethodName := ⟨RX1, "copyFrom", "(LDialPlan$Pattern;)V"⟩
abbrev cX1_isNarrowerThan : ByteArray := prog_3_method_16_code
def yX1_isNarrowerThan : MethodName := ⟨RX1, "isNarrowerThan", "(LDialPlan$Pattern;)Z"⟩
abbrev cX1_reach : ByteArray := prog_3_method_17_code
def yX1_reach : MethodName := ⟨RX1, "reach", "(LDialPlan$Row;I)I"⟩
abbrev cX1_doesLike : ByteArray := prog_3_method_18_code
def yX1_doesLike : MethodName := ⟨RX1, "doesLike", "(LDialPlan$Pattern;)Z"⟩
abbrev cX1_clashesWith : ByteArray := prog_3_method_19_code
def yX1_clashesWith : MethodName := ⟨RX1, "clashesWith", "(LDialPlan$Pattern;)Z"⟩
abbrev cX1_sharesRowWith : ByteArray := prog_3_method_20_code
def yX1_sharesRowWith : MethodName := ⟨RX1, "sharesRowWith", "(LDialPlan$Pattern;)Z"⟩
def RX2 : String := "DialPlan$PatternText"
def TX2 : u_T := fun k => match k with
  | 0 => ("DialPlan$PatternText", "draft", "LDialPlan$Pattern;", true)
  | 1 => ("DialPlan$PatternText", "step", "I", false)
  | 2 => ("DialPlan$PatternText", "low", "I", false)
  | _ => ("DialPlan$PatternText", "high", "I", false)
def tyX2 : Nat → FieldType := fun k => match k with
  | 0 => .object "DialPlan$Pattern"
  | 1 => .int
  | 2 => .int
  | _ => .int
theorem nmX2 : ∀ a, a < 4 → ∀ b, b < 4 → a ≠ b → (TX2 a).2.1 ≠ (TX2 b).2.1 := by decide +kernel
theorem tyX2_ok : ∀ k, k < 4 → parseFieldDescriptor (TX2 k).2.2.1 = some (tyX2 k) := by decide +kernel
abbrev cX2_init : ByteArray := prog_4_method_1_code
def yX2_init : MethodName := ⟨RX2, "<init>", "()V"⟩
abbrev cX2_draft : ByteArray := prog_4_method_2_code
def yX2_draft : MethodName := ⟨RX2, "draft", "()LDialPlan$Pattern;"⟩
abbrev cX2_isWhole : ByteArray := prog_4_method_3_code
def yX2_isWhole : MethodName := ⟨RX2, "isWhole", "()Z"⟩
abbrev cX2_scan : ByteArray := prog_4_method_4_code
def yX2_scan : MethodName := ⟨RX2, "scan", "(LDialPlan$Row;)I"⟩
abbrev cX2_take : ByteArray := prog_4_method_5_code
def yX2_take : MethodName := ⟨RX2, "take", "(I)Z"⟩
abbrev cX2_takeSign : ByteArray := prog_4_method_6_code
def yX2_takeSign : MethodName := ⟨RX2, "takeSign", "(III)Z"⟩
abbrev cX2_takePlaceOrTail : ByteArray := prog_4_method_7_code
def yX2_takePlaceOrTail : MethodName := ⟨RX2, "takePlaceOrTail", "(I)Z"⟩
abbrev cX2_takePlace : ByteArray := prog_4_method_8_code
def yX2_takePlace : MethodName := ⟨RX2, "takePlace", "(I)Z"⟩
abbrev cX2_takeLow : ByteArray := prog_4_method_9_code
def yX2_takeLow : MethodName := ⟨RX2, "takeLow", "(I)Z"⟩
abbrev cX2_takeHigh : ByteArray := prog_4_method_10_code
def yX2_takeHigh : MethodName := ⟨RX2, "takeHigh", "(I)Z"⟩
abbrev cX2_takeBracket : ByteArray := prog_4_method_11_code
def yX2_takeBracket : MethodName := ⟨RX2, "takeBracket", "(I)Z"⟩
abbrev cX2_takeWay : ByteArray := prog_4_method_12_code
def yX2_takeWay : MethodName := ⟨RX2, "takeWay", "(I)Z"⟩
abbrev cX2_wayOf : ByteArray := prog_4_method_13_code
def yX2_wayOf : MethodName := ⟨RX2, "wayOf", "(I)I"⟩
abbrev cX2_takeDrop : ByteArray := prog_4_method_14_code
def yX2_takeDrop : MethodName := ⟨RX2, "takeDrop", "(I)Z"⟩
abbrev cX2_takeAhead : ByteArray := prog_4_method_15_code
def yX2_takeAhead : MethodName := ⟨RX2, "takeAhead", "(I)Z"⟩
def RX3 : String := "DialPlan$Plan"
def TX3 : u_T := fun k => match k with
  | 0 => ("DialPlan$Plan", "patterns", "[LDialPlan$Pattern;", true)
  | _ => ("DialPlan$Plan", "size", "I", false)
def tyX3 : Nat → FieldType := fun k => match k with
  | 0 => .array (.object "DialPlan$Pattern")
  | _ => .int
theorem nmX3 : ∀ a, a < 2 → ∀ b, b < 2 → a ≠ b → (TX3 a).2.1 ≠ (TX3 b).2.1 := by decide +kernel
theorem tyX3_ok : ∀ k, k < 2 → parseFieldDescriptor (TX3 k).2.2.1 = some (tyX3 k) := by decide +kernel
abbrev cX3_init : ByteArray := prog_5_method_1_code
def yX3_init : MethodName := ⟨RX3, "<init>", "()V"⟩
abbrev cX3_size : ByteArray := prog_5_method_2_code
def yX3_size : MethodName := ⟨RX3, "size", "()I"⟩
abbrev cX3_at : ByteArray := prog_5_method_3_code
def yX3_at : MethodName := ⟨RX3, "at", "(I)LDialPlan$Pattern;"⟩
abbrev cX3_append : ByteArray := prog_5_method_4_code
def yX3_append : MethodName := ⟨RX3, "append", "(LDialPlan$Pattern;)Z"⟩
abbrev cX3_remove : ByteArray := prog_5_method_5_code
def yX3_remove : MethodName := ⟨RX3, "remove", "(I)V"⟩
abbrev cX3_reached : ByteArray := prog_5_method_6_code
def yX3_reached : MethodName := ⟨RX3, "reached", "(LDialPlan$Row;I)I"⟩
abbrev cX3_winner : ByteArray := prog_5_method_7_code
def yX3_winner : MethodName := ⟨RX3, "winner", "(LDialPlan$Row;Z)I"⟩
abbrev cX3_sureFrom : ByteArray := prog_5_method_8_code
def yX3_sureFrom : MethodName := ⟨RX3, "sureFrom", "(LDialPlan$Row;)I"⟩
abbrev cX3_isSureBy : ByteArray := prog_5_method_9_code
def yX3_isSureBy : MethodName := ⟨RX3, "isSureBy", "(LDialPlan$Row;I)Z"⟩
abbrev cX3_isClash : ByteArray := prog_5_method_10_code
def yX3_isClash : MethodName := ⟨RX3, "isClash", "(II)Z"⟩
abbrev cX3_clashes : ByteArray := prog_5_method_11_code
def yX3_clashes : MethodName := ⟨RX3, "clashes", "()I"⟩
def RX4 : String := "DialPlan$Reading"
def TX4 : u_T := fun k => match k with
  | 0 => ("DialPlan$Reading", "now", "LDialPlan$Row;", true)
  | 1 => ("DialPlan$Reading", "next", "LDialPlan$Row;", true)
  | 2 => ("DialPlan$Reading", "way", "I", false)
  | _ => ("DialPlan$Reading", "times", "I", false)
def tyX4 : Nat → FieldType := fun k => match k with
  | 0 => .object "DialPlan$Row"
  | 1 => .object "DialPlan$Row"
  | 2 => .int
  | _ => .int
theorem nmX4 : ∀ a, a < 4 → ∀ b, b < 4 → a ≠ b → (TX4 a).2.1 ≠ (TX4 b).2.1 := by decide +kernel
theorem tyX4_ok : ∀ k, k < 4 → parseFieldDescriptor (TX4 k).2.2.1 = some (tyX4 k) := by decide +kernel
abbrev cX4_init : ByteArray := prog_6_method_1_code
def yX4_init : MethodName := ⟨RX4, "<init>", "()V"⟩
abbrev cX4_way : ByteArray := prog_6_method_2_code
def yX4_way : MethodName := ⟨RX4, "way", "()I"⟩
abbrev cX4_times : ByteArray := prog_6_method_3_code
def yX4_times : MethodName := ⟨RX4, "times", "()I"⟩
abbrev cX4_result : ByteArray := prog_6_method_4_code
def yX4_result : MethodName := ⟨RX4, "result", "()LDialPlan$Row;"⟩
abbrev cX4_read : ByteArray := prog_6_method_5_code
def yX4_read : MethodName := ⟨RX4, "read", "(LDialPlan$Plan;LDialPlan$Row;)V"⟩
abbrev cX4_rewrite : ByteArray := prog_6_method_6_code
def yX4_rewrite : MethodName := ⟨RX4, "rewrite", "(LDialPlan$Pattern;)Z"⟩
def RX5 : String := "DialPlan$Row"
def TX5 : u_T := fun k => match k with
  | 0 => ("DialPlan$Row", "signs", "[I", true)
  | _ => ("DialPlan$Row", "size", "I", false)
def tyX5 : Nat → FieldType := fun k => match k with
  | 0 => .array .int
  | _ => .int
theorem nmX5 : ∀ a, a < 2 → ∀ b, b < 2 → a ≠ b → (TX5 a).2.1 ≠ (TX5 b).2.1 := by decide +kernel
theorem tyX5_ok : ∀ k, k < 2 → parseFieldDescriptor (TX5 k).2.2.1 = some (tyX5 k) := by decide +kernel
abbrev cX5_init : ByteArray := prog_7_method_1_code
def yX5_init : MethodName := ⟨RX5, "<init>", "(I)V"⟩
abbrev cX5_size : ByteArray := prog_7_method_2_code
def yX5_size : MethodName := ⟨RX5, "size", "()I"⟩
abbrev cX5_at : ByteArray := prog_7_method_3_code
def yX5_at : MethodName := ⟨RX5, "at", "(I)I"⟩
abbrev cX5_clear : ByteArray := prog_7_method_4_code
def yX5_clear : MethodName := ⟨RX5, "clear", "()V"⟩
abbrev cX5_append : ByteArray := prog_7_method_5_code
def yX5_append : MethodName := ⟨RX5, "append", "(I)Z"⟩
abbrev cX5_copyFrom : ByteArray := prog_7_method_6_code
def yX5_copyFrom : MethodName := ⟨RX5, "copyFrom", "(LDialPlan$Row;)V"⟩
abbrev cX5_isLike : ByteArray := prog_7_method_7_code
def yX5_isLike : MethodName := ⟨RX5, "isLike", "(LDialPlan$Row;)Z"⟩
abbrev cX5_asNumber : ByteArray := prog_7_method_8_code
def yX5_asNumber : MethodName := ⟨RX5, "asNumber", "()I"⟩
def RX6 : String := "DialPlan"
def TX6 : u_T := fun k => match k with
  | 0 => ("DialPlan", "page", "LDialPlan$Row;", true)
  | 1 => ("DialPlan", "text", "LDialPlan$PatternText;", true)
  | 2 => ("DialPlan", "plan", "LDialPlan$Plan;", true)
  | 3 => ("DialPlan", "written", "LDialPlan$Row;", true)
  | 4 => ("DialPlan", "reading", "LDialPlan$Reading;", true)
  | _ => ("DialPlan", "phone", "LDialPlan$Line;", true)
def tyX6 : Nat → FieldType := fun k => match k with
  | 0 => .object "DialPlan$Row"
  | 1 => .object "DialPlan$PatternText"
  | 2 => .object "DialPlan$Plan"
  | 3 => .object "DialPlan$Row"
  | 4 => .object "DialPlan$Reading"
  | _ => .object "DialPlan$Line"
theorem nmX6 : ∀ a, a < 6 → ∀ b, b < 6 → a ≠ b → (TX6 a).2.1 ≠ (TX6 b).2.1 := by decide +kernel
theorem tyX6_ok : ∀ k, k < 6 → parseFieldDescriptor (TX6 k).2.2.1 = some (tyX6 k) := by decide +kernel
abbrev cX6_init : ByteArray := prog_1_method_1_code
def yX6_init : MethodName := ⟨RX6, "<init>", "()V"⟩
abbrev cX6_letter : ByteArray := prog_1_method_2_code
def yX6_letter : MethodName := ⟨RX6, "letter", "(I)I"⟩
abbrev cX6_blank : ByteArray := prog_1_method_3_code
def yX6_blank : MethodName := ⟨RX6, "blank", "()I"⟩
abbrev cX6_fault : ByteArray := prog_1_method_4_code
def yX6_fault : MethodName := ⟨RX6, "fault", "()I"⟩
abbrev cX6_add : ByteArray := prog_1_method_5_code
def yX6_add : MethodName := ⟨RX6, "add", "()I"⟩
abbrev cX6_drop : ByteArray := prog_1_method_6_code
def yX6_drop : MethodName := ⟨RX6, "drop", "(I)I"⟩
abbrev cX6_pattern : ByteArray := prog_1_method_7_code
def yX6_pattern : MethodName := ⟨RX6, "pattern", "(II)I"⟩
abbrev cX6_lets : ByteArray := prog_1_method_8_code
def yX6_lets : MethodName := ⟨RX6, "lets", "(II)I"⟩
abbrev cX6_narrower : ByteArray := prog_1_method_9_code
def yX6_narrower : MethodName := ⟨RX6, "narrower", "(II)I"⟩
abbrev cX6_clash : ByteArray := prog_1_method_10_code
def yX6_clash : MethodName := ⟨RX6, "clash", "(I)I"⟩
abbrev cX6_row : ByteArray := prog_1_method_11_code
def yX6_row : MethodName := ⟨RX6, "row", "(I)I"⟩
abbrev cX6_readsPageAsRow : ByteArray := prog_1_method_12_code
def yX6_readsPageAsRow : MethodName := ⟨RX6, "readsPageAsRow", "()Z"⟩
abbrev cX6_isFigure : ByteArray := prog_1_method_13_code
def yX6_isFigure : MethodName := ⟨RX6, "isFigure", "(I)Z"⟩
abbrev cX6_stage : ByteArray := prog_1_method_14_code
def yX6_stage : MethodName := ⟨RX6, "stage", "(II)I"⟩
abbrev cX6_lift : ByteArray := prog_1_method_15_code
def yX6_lift : MethodName := ⟨RX6, "lift", "()I"⟩
abbrev cX6_hang : ByteArray := prog_1_method_16_code
def yX6_hang : MethodName := ⟨RX6, "hang", "()I"⟩
abbrev cX6_press : ByteArray := prog_1_method_17_code
def yX6_press : MethodName := ⟨RX6, "press", "(I)I"⟩
abbrev cX6_pass : ByteArray := prog_1_method_18_code
def yX6_pass : MethodName := ⟨RX6, "pass", "(I)I"⟩
abbrev cX6_end : ByteArray := prog_1_method_19_code
def yX6_end : MethodName := ⟨RX6, "end", "()I"⟩
abbrev cX6_line : ByteArray := prog_1_method_20_code
def yX6_line : MethodName := ⟨RX6, "line", "(I)I"⟩
abbrev cX6_wayOfTheLine : ByteArray := prog_1_method_21_code
def yX6_wayOfTheLine : MethodName := ⟨RX6, "wayOfTheLine", "()I"⟩
abbrev cX6_count : ByteArray := prog_1_method_22_code
def yX6_count : MethodName := ⟨RX6, "count", "(I)I"⟩
abbrev cX6_digest : ByteArray := prog_1_method_23_code
def yX6_digest : MethodName := ⟨RX6, "digest", "()J"⟩
abbrev cX6_digestOfPatterns : ByteArray := prog_1_method_24_code
def yX6_digestOfPatterns : MethodName := ⟨RX6, "digestOfPatterns", "(J)J"⟩
abbrev cX6_digestOfClashes : ByteArray := prog_1_method_25_code
def yX6_digestOfClashes : MethodName := ⟨RX6, "digestOfClashes", "(J)J"⟩
def RX7 : String := "DialPlanModel"
def TX7 : u_T := fun k => match k with
  | 0 => ("DialPlanModel", "pageLength", "I", false)
  | 1 => ("DialPlanModel", "page", "[I", true)
  | 2 => ("DialPlanModel", "patterns", "I", false)
  | 3 => ("DialPlanModel", "manyOf", "[I", true)
  | 4 => ("DialPlanModel", "isOpen", "[Z", true)
  | 5 => ("DialPlanModel", "letsAt", "[I", true)
  | 6 => ("DialPlanModel", "wayOf", "[I", true)
  | 7 => ("DialPlanModel", "dropOf", "[I", true)
  | 8 => ("DialPlanModel", "aheadMany", "[I", true)
  | 9 => ("DialPlanModel", "aheadAt", "[I", true)
  | 10 => ("DialPlanModel", "stages", "[I", true)
  | 11 => ("DialPlanModel", "lifted", "I", false)
  | 12 => ("DialPlanModel", "readyEver", "I", false)
  | 13 => ("DialPlanModel", "lostEver", "I", false)
  | 14 => ("DialPlanModel", "pressedEver", "I", false)
  | 15 => ("DialPlanModel", "due", "I", false)
  | 16 => ("DialPlanModel", "newMany", "I", false)
  | 17 => ("DialPlanModel", "newOpen", "Z", false)
  | 18 => ("DialPlanModel", "newLets", "[I", true)
  | 19 => ("DialPlanModel", "low", "I", false)
  | 20 => ("DialPlanModel", "newWay", "I", false)
  | 21 => ("DialPlanModel", "newDrop", "I", false)
  | 22 => ("DialPlanModel", "newAheads", "I", false)
  | 23 => ("DialPlanModel", "newAhead", "[I", true)
  | 24 => ("DialPlanModel", "digits", "I", false)
  | 25 => ("DialPlanModel", "digitAt", "[I", true)
  | 26 => ("DialPlanModel", "reads", "I", false)
  | 27 => ("DialPlanModel", "lineIs", "I", false)
  | 28 => ("DialPlanModel", "pressed", "I", false)
  | 29 => ("DialPlanModel", "pressedAt", "[I", true)
  | 30 => ("DialPlanModel", "left", "I", false)
  | 31 => ("DialPlanModel", "endedBy", "I", false)
  | _ => ("DialPlanModel", "h", "J", false)
def tyX7 : Nat → FieldType := fun k => match k with
  | 0 => .int
  | 1 => .array .int
  | 2 => .int
  | 3 => .array .int
  | 4 => .array .boolean
  | 5 => .array .int
  | 6 => .array .int
  | 7 => .array .int
  | 8 => .array .int
  | 9 => .array .int
  | 10 => .array .int
  | 11 => .int
  | 12 => .int
  | 13 => .int
  | 14 => .int
  | 15 => .int
  | 16 => .int
  | 17 => .boolean
  | 18 => .array .int
  | 19 => .int
  | 20 => .int
  | 21 => .int
  | 22 => .int
  | 23 => .array .int
  | 24 => .int
  | 25 => .array .int
  | 26 => .int
  | 27 => .int
  | 28 => .int
  | 29 => .array .int
  | 30 => .int
  | 31 => .int
  | _ => .long
theorem nmX7 : ∀ a, a < 33 → ∀ b, b < 33 → a ≠ b → (TX7 a).2.1 ≠ (TX7 b).2.1 := by decide +kernel
theorem tyX7_ok : ∀ k, k < 33 → parseFieldDescriptor (TX7 k).2.2.1 = some (tyX7 k) := by decide +kernel
abbrev cX7_init : ByteArray := prog_9_method_1_code
def yX7_init : MethodName := ⟨RX7, "<init>", "()V"⟩
abbrev cX7_within : ByteArray := prog_9_method_3_code
def yX7_within : MethodName := ⟨RX7, "within", "(III)Z"⟩
abbrev cX7_ones : ByteArray := prog_9_method_4_code
def yX7_ones : MethodName := ⟨RX7, "ones", "(I)I"⟩
abbrev cX7_letter : ByteArray := prog_9_method_5_code
def yX7_letter : MethodName := ⟨RX7, "letter", "(I)I"⟩
abbrev cX7_blank : ByteArray := prog_9_method_6_code
def yX7_blank : MethodName := ⟨RX7, "blank", "()I"⟩
abbrev cX7_letsNext : ByteArray := prog_9_method_7_code
def yX7_letsNext : MethodName := ⟨RX7, "letsNext", "(I)Z"⟩
abbrev cX7_takesPlace : ByteArray := prog_9_method_8_code
def yX7_takesPlace : MethodName := ⟨RX7, "takesPlace", "(I)Z"⟩
abbrev cX7_takesSpan : ByteArray := prog_9_method_9_code
def yX7_takesSpan : MethodName := ⟨RX7, "takesSpan", "(I)Z"⟩
abbrev cX7_takesWay : ByteArray := prog_9_method_10_code
def yX7_takesWay : MethodName := ⟨RX7, "takesWay", "(I)Z"⟩
abbrev cX7_takesDrop : ByteArray := prog_9_method_11_code
def yX7_takesDrop : MethodName := ⟨RX7, "takesDrop", "(I)Z"⟩
abbrev cX7_takesAhead : ByteArray := prog_9_method_12_code
def yX7_takesAhead : MethodName := ⟨RX7, "takesAhead", "(I)Z"⟩
abbrev cX7_takes : ByteArray := prog_9_method_13_code
def yX7_takes : MethodName := ⟨RX7, "takes", "(I)Z"⟩
abbrev cX7_goAlong : ByteArray := prog_9_method_14_code
def yX7_goAlong : MethodName := ⟨RX7, "goAlong", "()I"⟩
abbrev cX7_fault : ByteArray := prog_9_method_15_code
def yX7_fault : MethodName := ⟨RX7, "fault", "()I"⟩
abbrev cX7_keepPattern : ByteArray := prog_9_method_16_code
def yX7_keepPattern : MethodName := ⟨RX7, "keepPattern", "(I)V"⟩
abbrev cX7_add : ByteArray := prog_9_method_17_code
def yX7_add : MethodName := ⟨RX7, "add", "()I"⟩
abbrev cX7_isPattern : ByteArray := prog_9_method_18_code
def yX7_isPattern : MethodName := ⟨RX7, "isPattern", "(I)Z"⟩
abbrev cX7_copy : ByteArray := prog_9_method_19_code
def yX7_copy : MethodName := ⟨RX7, "copy", "(II)V"⟩
abbrev cX7_drop : ByteArray := prog_9_method_20_code
def yX7_drop : MethodName := ⟨RX7, "drop", "(I)I"⟩
abbrev cX7_letsOf : ByteArray := prog_9_method_21_code
def yX7_letsOf : MethodName := ⟨RX7, "letsOf", "(II)I"⟩
abbrev cX7_aheadNumber : ByteArray := prog_9_method_22_code
def yX7_aheadNumber : MethodName := ⟨RX7, "aheadNumber", "(I)I"⟩
abbrev cX7_patternNow : ByteArray := prog_9_method_23_code
def yX7_patternNow : MethodName := ⟨RX7, "patternNow", "(II)I"⟩
abbrev cX7_pattern : ByteArray := prog_9_method_24_code
def yX7_pattern : MethodName := ⟨RX7, "pattern", "(II)I"⟩
abbrev cX7_lets : ByteArray := prog_9_method_25_code
def yX7_lets : MethodName := ⟨RX7, "lets", "(II)I"⟩
abbrev cX7_wide : ByteArray := prog_9_method_26_code
def yX7_wide : MethodName := ⟨RX7, "wide", "(II)I"⟩
abbrev cX7_compare : ByteArray := prog_9_method_27_code
def yX7_compare : MethodName := ⟨RX7, "compare", "(II)I"⟩
abbrev cX7_narrower : ByteArray := prog_9_method_28_code
def yX7_narrower : MethodName := ⟨RX7, "narrower", "(II)I"⟩
abbrev cX7_areLike : ByteArray := prog_9_method_29_code
def yX7_areLike : MethodName := ⟨RX7, "areLike", "(II)Z"⟩
abbrev cX7_isClash : ByteArray := prog_9_method_30_code
def yX7_isClash : MethodName := ⟨RX7, "isClash", "(II)Z"⟩
abbrev cX7_clashAt : ByteArray := prog_9_method_31_code
def yX7_clashAt : MethodName := ⟨RX7, "clashAt", "(I)I"⟩
abbrev cX7_clash : ByteArray := prog_9_method_32_code
def yX7_clash : MethodName := ⟨RX7, "clash", "(I)I"⟩
abbrev cX7_clashes : ByteArray := prog_9_method_33_code
def yX7_clashes : MethodName := ⟨RX7, "clashes", "()I"⟩
abbrev cX7_begins : ByteArray := prog_9_method_34_code
def yX7_begins : MethodName := ⟨RX7, "begins", "(II)Z"⟩
abbrev cX7_fits : ByteArray := prog_9_method_35_code
def yX7_fits : MethodName := ⟨RX7, "fits", "(II)Z"⟩
abbrev cX7_leads : ByteArray := prog_9_method_36_code
def yX7_leads : MethodName := ⟨RX7, "leads", "(II)Z"⟩
abbrev cX7_fitting : ByteArray := prog_9_method_37_code
def yX7_fitting : MethodName := ⟨RX7, "fitting", "(I)I"⟩
abbrev cX7_leading : ByteArray := prog_9_method_38_code
def yX7_leading : MethodName := ⟨RX7, "leading", "(I)I"⟩
abbrev cX7_winner : ByteArray := prog_9_method_39_code
def yX7_winner : MethodName := ⟨RX7, "winner", "(I)I"⟩
abbrev cX7_rewrite : ByteArray := prog_9_method_40_code
def yX7_rewrite : MethodName := ⟨RX7, "rewrite", "(I)V"⟩
abbrev cX7_read : ByteArray := prog_9_method_41_code
def yX7_read : MethodName := ⟨RX7, "read", "()I"⟩
abbrev cX7_isRow : ByteArray := prog_9_method_42_code
def yX7_isRow : MethodName := ⟨RX7, "isRow", "()Z"⟩
abbrev cX7_rowNow : ByteArray := prog_9_method_43_code
def yX7_rowNow : MethodName := ⟨RX7, "rowNow", "(I)I"⟩
abbrev cX7_row : ByteArray := prog_9_method_44_code
def yX7_row : MethodName := ⟨RX7, "row", "(I)I"⟩
abbrev cX7_stage : ByteArray := prog_9_method_45_code
def yX7_stage : MethodName := ⟨RX7, "stage", "(II)I"⟩
abbrev cX7_layPressed : ByteArray := prog_9_method_46_code
def yX7_layPressed : MethodName := ⟨RX7, "layPressed", "()V"⟩
abbrev cX7_lift : ByteArray := prog_9_method_47_code
def yX7_lift : MethodName := ⟨RX7, "lift", "()I"⟩
abbrev cX7_hang : ByteArray := prog_9_method_48_code
def yX7_hang : MethodName := ⟨RX7, "hang", "()I"⟩
abbrev cX7_ends : ByteArray := prog_9_method_49_code
def yX7_ends : MethodName := ⟨RX7, "ends", "(I)I"⟩
abbrev cX7_helps : ByteArray := prog_9_method_50_code
def yX7_helps : MethodName := ⟨RX7, "helps", "(I)I"⟩
abbrev cX7_press : ByteArray := prog_9_method_51_code
def yX7_press : MethodName := ⟨RX7, "press", "(I)I"⟩
abbrev cX7_pass : ByteArray := prog_9_method_52_code
def yX7_pass : MethodName := ⟨RX7, "pass", "(I)I"⟩
abbrev cX7_end : ByteArray := prog_9_method_53_code
def yX7_end : MethodName := ⟨RX7, "end", "()I"⟩
abbrev cX7_stageNow : ByteArray := prog_9_method_54_code
def yX7_stageNow : MethodName := ⟨RX7, "stageNow", "()I"⟩
abbrev cX7_winsNow : ByteArray := prog_9_method_55_code
def yX7_winsNow : MethodName := ⟨RX7, "winsNow", "()I"⟩
abbrev cX7_isSureBy : ByteArray := prog_9_method_56_code
def yX7_isSureBy : MethodName := ⟨RX7, "isSureBy", "(I)Z"⟩
abbrev cX7_sureNow : ByteArray := prog_9_method_57_code
def yX7_sureNow : MethodName := ⟨RX7, "sureNow", "()I"⟩
abbrev cX7_wayNow : ByteArray := prog_9_method_58_code
def yX7_wayNow : MethodName := ⟨RX7, "wayNow", "()I"⟩
abbrev cX7_lineNow : ByteArray := prog_9_method_59_code
def yX7_lineNow : MethodName := ⟨RX7, "lineNow", "(I)I"⟩
abbrev cX7_line : ByteArray := prog_9_method_60_code
def yX7_line : MethodName := ⟨RX7, "line", "(I)I"⟩
abbrev cX7_howMany : ByteArray := prog_9_method_61_code
def yX7_howMany : MethodName := ⟨RX7, "howMany", "(I)I"⟩
abbrev cX7_count : ByteArray := prog_9_method_62_code
def yX7_count : MethodName := ⟨RX7, "count", "(I)I"⟩
abbrev cX7_mix : ByteArray := prog_9_method_63_code
def yX7_mix : MethodName := ⟨RX7, "mix", "(J)V"⟩
abbrev cX7_digest : ByteArray := prog_9_method_64_code
def yX7_digest : MethodName := ⟨RX7, "digest", "()J"⟩
def RJ6 : String := "java/lang/Integer"
def TJ6 : u_T := fun k => match k with
  | _ => ("", "", "", false)
def tyJ6 : Nat → FieldType := fun k => match k with
  | _ => .int
theorem nmJ6 : ∀ a, a < 0 → ∀ b, b < 0 → a ≠ b → (TJ6 a).2.1 ≠ (TJ6 b).2.1 := by decide +kernel
theorem tyJ6_ok : ∀ k, k < 0 → parseFieldDescriptor (TJ6 k).2.2.1 = some (tyJ6 k) := by decide +kernel
abbrev cJ6_bitCount_0f7a4 : ByteArray := prog_10_method_49_code
def yJ6_bitCount_0f7a4 : MethodName := ⟨RJ6, "bitCount", "(I)I"⟩
def RJ9 : String := "java/lang/Math"
def TJ9 : u_T := fun k => match k with
  | _ => ("", "", "", false)
def tyJ9 : Nat → FieldType := fun k => match k with
  | _ => .int
theorem nmJ9 : ∀ a, a < 0 → ∀ b, b < 0 → a ≠ b → (TJ9 a).2.1 ≠ (TJ9 b).2.1 := by decide +kernel
theorem tyJ9_ok : ∀ k, k < 0 → parseFieldDescriptor (TJ9 k).2.2.1 = some (tyJ9 k) := by decide +kernel
abbrev cJ9_max_7cf53 : ByteArray := prog_11_method_65_code
def yJ9_max_7cf53 : MethodName := ⟨RJ9, "max", "(II)I"⟩
def RL : String := "DialPlanLaw"
abbrev cL_law : ByteArray := code
def yL_law : MethodName := ⟨RL, "law", "([I)Z"⟩
abbrev vwCl : List vw_C := [(RX0, TX0, 9), (RX1, TX1, 7), (RX2, TX2, 4), (RX3, TX3, 2), (RX4, TX4, 4), (RX5, TX5, 2), (RX6, TX6, 6), (RX7, TX7, 33)]
end
section
theorem dX0_init_0 : decode cX0_init 0 = .ok (.aload_n 0, 1) := by decide +kernel
theorem dX0_init_1 : decode cX0_init 1 = .ok (.invokespecial 3, 3) := by decide +kernel
theorem dX0_init_4 : decode cX0_init 4 = .ok (.aload_n 0, 1) := by decide +kernel
theorem dX0_init_5 : decode cX0_init 5 = .ok (.new 9, 3) := by decide +kernel
theorem dX0_init_8 : decode cX0_init 8 = .ok (.dup, 1) := by decide +kernel
theorem dX0_init_9 : decode cX0_init 9 = .ok (.bipush 10, 2) := by decide +kernel
theorem dX0_init_11 : decode cX0_init 11 = .ok (.invokespecial 11, 3) := by decide +kernel
theorem dX0_init_14 : decode cX0_init 14 = .ok (.putfield 14, 3) := by decide +kernel
theorem dX0_init_17 : decode cX0_init 17 = .ok (.aload_n 0, 1) := by decide +kernel
theorem dX0_init_18 : decode cX0_init 18 = .ok (.iconst 3, 1) := by decide +kernel
theorem dX0_init_19 : decode cX0_init 19 = .ok (.newarray .int, 2) := by decide +kernel
theorem dX0_init_21 : decode cX0_init 21 = .ok (.dup, 1) := by decide +kernel
theorem dX0_init_22 : decode cX0_init 22 = .ok (.iconst 0, 1) := by decide +kernel
theorem dX0_init_23 : decode cX0_init 23 = .ok (.bipush 15, 2) := by decide +kernel
theorem dX0_init_25 : decode cX0_init 25 = .ok (.iastore, 1) := by decide +kernel
theorem dX0_init_26 : decode cX0_init 26 = .ok (.dup, 1) := by decide +kernel
theorem dX0_init_27 : decode cX0_init 27 = .ok (.iconst 1, 1) := by decide +kernel
theorem dX0_init_28 : decode cX0_init 28 = .ok (.bipush 8, 2) := by decide +kernel
theorem dX0_init_30 : decode cX0_init 30 = .ok (.iastore, 1) := by decide +kernel
theorem dX0_init_31 : decode cX0_init 31 = .ok (.dup, 1) := by decide +kernel
theorem dX0_init_32 : decode cX0_init 32 = .ok (.iconst 2, 1) := by decide +kernel
theorem dX0_init_33 : decode cX0_init 33 = .ok (.iconst 4, 1) := by decide +kernel
theorem dX0_init_34 : decode cX0_init 34 = .ok (.iastore, 1) := by decide +kernel
theorem dX0_init_35 : decode cX0_init 35 = .ok (.putfield 20, 3) := by decide +kernel
theorem dX0_init_38 : decode cX0_init 38 = .ok (.aload_n 0, 1) := by decide +kernel
theorem dX0_init_39 : decode cX0_init 39 = .ok (.iconst 0, 1) := by decide +kernel
theorem dX0_init_40 : decode cX0_init 40 = .ok (.putfield 24, 3) := by decide +kernel
theorem dX0_init_43 : decode cX0_init 43 = .ok (.aload_n 0, 1) := by decide +kernel
theorem dX0_init_44 : decode cX0_init 44 = .ok (.iconst 0, 1) := by decide +kernel
theorem dX0_init_45 : decode cX0_init 45 = .ok (.putfield 28, 3) := by decide +kernel
theorem dX0_init_48 : decode cX0_init 48 = .ok (.return_, 1) := by decide +kernel
theorem dX0_dialled_0 : decode cX0_dialled 0 = .ok (.aload_n 0, 1) := by decide +kernel
theorem dX0_dialled_1 : decode cX0_dialled 1 = .ok (.getfield 14, 3) := by decide +kernel
theorem dX0_dialled_4 : decode cX0_dialled 4 = .ok (.areturn, 1) := by decide +kernel
theorem dX0_state_0 : decode cX0_state 0 = .ok (.aload_n 0, 1) := by decide +kernel
theorem dX0_state_1 : decode cX0_state 1 = .ok (.getfield 24, 3) := by decide +kernel
theorem dX0_state_4 : decode cX0_state 4 = .ok (.ireturn, 1) := by decide +kernel
theorem dX0_isUp_0 : decode cX0_isUp 0 = .ok (.aload_n 0, 1) := by decide +kernel
theorem dX0_isUp_1 : decode cX0_isUp 1 = .ok (.getfield 24, 3) := by decide +kernel
theorem dX0_isUp_4 : decode cX0_isUp 4 = .ok (.ifCond .eq 7, 3) := by decide +kernel
theorem dX0_isUp_7 : decode cX0_isUp 7 = .ok (.iconst 1, 1) := by decide +kernel
theorem dX0_isUp_8 : decode cX0_isUp 8 = .ok (.goto 4, 3) := by decide +kernel
theorem dX0_isUp_11 : decode cX0_isUp 11 = .ok (.iconst 0, 1) := by decide +kernel
theorem dX0_isUp_12 : decode cX0_isUp 12 = .ok (.ireturn, 1) := by decide +kernel
theorem dX0_isWaiting_0 : decode cX0_isWaiting 0 = .ok (.aload_n 0, 1) := by decide +kernel
theorem dX0_isWaiting_1 : decode cX0_isWaiting 1 = .ok (.getfield 24, 3) := by decide +kernel
theorem dX0_isWaiting_4 : decode cX0_isWaiting 4 = .ok (.iconst 1, 1) := by decide +kernel
theorem dX0_isWaiting_5 : decode cX0_isWaiting 5 = .ok (.if_icmp .ne 7, 3) := by decide +kernel
theorem dX0_isWaiting_8 : decode cX0_isWaiting 8 = .ok (.iconst 1, 1) := by decide +kernel
theorem dX0_isWaiting_9 : decode cX0_isWaiting 9 = .ok (.goto 4, 3) := by decide +kernel
theorem dX0_isWaiting_12 : decode cX0_isWaiting 12 = .ok (.iconst 0, 1) := by decide +kernel
theorem dX0_isWaiting_13 : decode cX0_isWaiting 13 = .ok (.ireturn, 1) := by decide +kernel
theorem dX0_ended_0 : decode cX0_ended 0 = .ok (.aload_n 0, 1) := by decide +kernel
theorem dX0_ended_1 : decode cX0_ended 1 = .ok (.getfield 28, 3) := by decide +kernel
theorem dX0_ended_4 : decode cX0_ended 4 = .ok (.ireturn, 1) := by decide +kernel
theorem dX0_ticksLeft_0 : decode cX0_ticksLeft 0 = .ok (.aload_n 0, 1) := by decide +kernel
theorem dX0_ticksLeft_1 : decode cX0_ticksLeft 1 = .ok (.getfield 31, 3) := by decide +kernel
theorem dX0_ticksLeft_4 : decode cX0_ticksLeft 4 = .ok (.ireturn, 1) := by decide +kernel
theorem dX0_timesLifted_0 : decode cX0_timesLifted 0 = .ok (.aload_n 0, 1) := by decide +kernel
theorem dX0_timesLifted_1 : decode cX0_timesLifted 1 = .ok (.getfield 34, 3) := by decide +kernel
theorem dX0_timesLifted_4 : decode cX0_timesLifted 4 = .ok (.ireturn, 1) := by decide +kernel
theorem dX0_timesReady_0 : decode cX0_timesReady 0 = .ok (.aload_n 0, 1) := by decide +kernel
theorem dX0_timesReady_1 : decode cX0_timesReady 1 = .ok (.getfield 37, 3) := by decide +kernel
theorem dX0_timesReady_4 : decode cX0_timesReady 4 = .ok (.ireturn, 1) := by decide +kernel
theorem dX0_timesLost_0 : decode cX0_timesLost 0 = .ok (.aload_n 0, 1) := by decide +kernel
theorem dX0_timesLost_1 : decode cX0_timesLost 1 = .ok (.getfield 40, 3) := by decide +kernel
theorem dX0_timesLost_4 : decode cX0_timesLost 4 = .ok (.ireturn, 1) := by decide +kernel
theorem dX0_digitsEver_0 : decode cX0_digitsEver 0 = .ok (.aload_n 0, 1) := by decide +kernel
theorem dX0_digitsEver_1 : decode cX0_digitsEver 1 = .ok (.getfield 43, 3) := by decide +kernel
theorem dX0_digitsEver_4 : decode cX0_digitsEver 4 = .ok (.ireturn, 1) := by decide +kernel
theorem dX0_ticksOf_0 : decode cX0_ticksOf 0 = .ok (.iload_n 1, 1) := by decide +kernel
theorem dX0_ticksOf_1 : decode cX0_ticksOf 1 = .ok (.ifCond .lt 21, 3) := by decide +kernel
theorem dX0_ticksOf_4 : decode cX0_ticksOf 4 = .ok (.iload_n 1, 1) := by decide +kernel
theorem dX0_ticksOf_5 : decode cX0_ticksOf 5 = .ok (.aload_n 0, 1) := by decide +kernel
theorem dX0_ticksOf_6 : decode cX0_ticksOf 6 = .ok (.getfield 20, 3) := by decide +kernel
theorem dX0_ticksOf_9 : decode cX0_ticksOf 9 = .ok (.arraylength, 1) := by decide +kernel
theorem dX0_ticksOf_10 : decode cX0_ticksOf 10 = .ok (.if_icmp .ge 12, 3) := by decide +kernel
theorem dX0_ticksOf_13 : decode cX0_ticksOf 13 = .ok (.aload_n 0, 1) := by decide +kernel
theorem dX0_ticksOf_14 : decode cX0_ticksOf 14 = .ok (.getfield 20, 3) := by decide +kernel
theorem dX0_ticksOf_17 : decode cX0_ticksOf 17 = .ok (.iload_n 1, 1) := by decide +kernel
theorem dX0_ticksOf_18 : decode cX0_ticksOf 18 = .ok (.iaload, 1) := by decide +kernel
theorem dX0_ticksOf_19 : decode cX0_ticksOf 19 = .ok (.goto 4, 3) := by decide +kernel
theorem dX0_ticksOf_22 : decode cX0_ticksOf 22 = .ok (.iconst 0, 1) := by decide +kernel
theorem dX0_ticksOf_23 : decode cX0_ticksOf 23 = .ok (.ireturn, 1) := by decide +kernel
theorem dX0_setTicks_0 : decode cX0_setTicks 0 = .ok (.iload_n 1, 1) := by decide +kernel
theorem dX0_setTicks_1 : decode cX0_setTicks 1 = .ok (.ifCond .lt 19, 3) := by decide +kernel
theorem dX0_setTicks_4 : decode cX0_setTicks 4 = .ok (.iload_n 1, 1) := by decide +kernel
theorem dX0_setTicks_5 : decode cX0_setTicks 5 = .ok (.aload_n 0, 1) := by decide +kernel
theorem dX0_setTicks_6 : decode cX0_setTicks 6 = .ok (.getfield 20, 3) := by decide +kernel
theorem dX0_setTicks_9 : decode cX0_setTicks 9 = .ok (.arraylength, 1) := by decide +kernel
theorem dX0_setTicks_10 : decode cX0_setTicks 10 = .ok (.if_icmp .ge 10, 3) := by decide +kernel
theorem dX0_setTicks_13 : decode cX0_setTicks 13 = .ok (.aload_n 0, 1) := by decide +kernel
theorem dX0_setTicks_14 : decode cX0_setTicks 14 = .ok (.getfield 20, 3) := by decide +kernel
theorem dX0_setTicks_17 : decode cX0_setTicks 17 = .ok (.iload_n 1, 1) := by decide +kernel
theorem dX0_setTicks_18 : decode cX0_setTicks 18 = .ok (.iload_n 2, 1) := by decide +kernel
theorem dX0_setTicks_19 : decode cX0_setTicks 19 = .ok (.iastore, 1) := by decide +kernel
theorem dX0_setTicks_20 : decode cX0_setTicks 20 = .ok (.return_, 1) := by decide +kernel
theorem dX0_currentStage_0 : decode cX0_currentStage 0 = .ok (.aload_n 0, 1) := by decide +kernel
theorem dX0_currentStage_1 : decode cX0_currentStage 1 = .ok (.getfield 14, 3) := by decide +kernel
theorem dX0_currentStage_4 : decode cX0_currentStage 4 = .ok (.invokevirtual 46, 3) := by decide +kernel
theorem dX0_currentStage_7 : decode cX0_currentStage 7 = .ok (.ifCond .ne 5, 3) := by decide +kernel
theorem dX0_currentStage_10 : decode cX0_currentStage 10 = .ok (.iconst 0, 1) := by decide +kernel
theorem dX0_currentStage_11 : decode cX0_currentStage 11 = .ok (.ireturn, 1) := by decide +kernel
theorem dX0_currentStage_12 : decode cX0_currentStage 12 = .ok (.aload_n 1, 1) := by decide +kernel
theorem dX0_currentStage_13 : decode cX0_currentStage 13 = .ok (.aload_n 0, 1) := by decide +kernel
theorem dX0_currentStage_14 : decode cX0_currentStage 14 = .ok (.getfield 14, 3) := by decide +kernel
theorem dX0_currentStage_17 : decode cX0_currentStage 17 = .ok (.iconst 1, 1) := by decide +kernel
theorem dX0_currentStage_18 : decode cX0_currentStage 18 = .ok (.invokevirtual 52, 3) := by decide +kernel
theorem dX0_currentStage_21 : decode cX0_currentStage 21 = .ok (.ifCond .ne 7, 3) := by decide +kernel
theorem dX0_currentStage_24 : decode cX0_currentStage 24 = .ok (.iconst 1, 1) := by decide +kernel
theorem dX0_currentStage_25 : decode cX0_currentStage 25 = .ok (.goto 4, 3) := by decide +kernel
theorem dX0_currentStage_28 : decode cX0_currentStage 28 = .ok (.iconst 2, 1) := by decide +kernel
theorem dX0_currentStage_29 : decode cX0_currentStage 29 = .ok (.ireturn, 1) := by decide +kernel
theorem dX0_winner_0 : decode cX0_winner 0 = .ok (.aload_n 0, 1) := by decide +kernel
theorem dX0_winner_1 : decode cX0_winner 1 = .ok (.getfield 24, 3) := by decide +kernel
theorem dX0_winner_4 : decode cX0_winner 4 = .ok (.iconst 2, 1) := by decide +kernel
theorem dX0_winner_5 : decode cX0_winner 5 = .ok (.if_icmp .ne 27, 3) := by decide +kernel
theorem dX0_winner_8 : decode cX0_winner 8 = .ok (.aload_n 1, 1) := by decide +kernel
theorem dX0_winner_9 : decode cX0_winner 9 = .ok (.aload_n 0, 1) := by decide +kernel
theorem dX0_winner_10 : decode cX0_winner 10 = .ok (.getfield 14, 3) := by decide +kernel
theorem dX0_winner_13 : decode cX0_winner 13 = .ok (.aload_n 0, 1) := by decide +kernel
theorem dX0_winner_14 : decode cX0_winner 14 = .ok (.getfield 28, 3) := by decide +kernel
theorem dX0_winner_17 : decode cX0_winner 17 = .ok (.iconst 4, 1) := by decide +kernel
theorem dX0_winner_18 : decode cX0_winner 18 = .ok (.if_icmp .ne 7, 3) := by decide +kernel
theorem dX0_winner_21 : decode cX0_winner 21 = .ok (.iconst 1, 1) := by decide +kernel
theorem dX0_winner_22 : decode cX0_winner 22 = .ok (.goto 4, 3) := by decide +kernel
theorem dX0_winner_25 : decode cX0_winner 25 = .ok (.iconst 0, 1) := by decide +kernel
theorem dX0_winner_26 : decode cX0_winner 26 = .ok (.invokevirtual 58, 3) := by decide +kernel
theorem dX0_winner_29 : decode cX0_winner 29 = .ok (.goto 4, 3) := by decide +kernel
theorem dX0_winner_32 : decode cX0_winner 32 = .ok (.iconst (-1), 1) := by decide +kernel
theorem dX0_winner_33 : decode cX0_winner 33 = .ok (.ireturn, 1) := by decide +kernel
theorem dX0_putUp_0 : decode cX0_putUp 0 = .ok (.aload_n 0, 1) := by decide +kernel
theorem dX0_putUp_1 : decode cX0_putUp 1 = .ok (.dup, 1) := by decide +kernel
theorem dX0_putUp_2 : decode cX0_putUp 2 = .ok (.getfield 34, 3) := by decide +kernel
theorem dX0_putUp_5 : decode cX0_putUp 5 = .ok (.iconst 1, 1) := by decide +kernel
theorem dX0_putUp_6 : decode cX0_putUp 6 = .ok (.iadd, 1) := by decide +kernel
theorem dX0_putUp_7 : decode cX0_putUp 7 = .ok (.putfield 34, 3) := by decide +kernel
theorem dX0_putUp_10 : decode cX0_putUp 10 = .ok (.aload_n 0, 1) := by decide +kernel
theorem dX0_putUp_11 : decode cX0_putUp 11 = .ok (.aload_n 1, 1) := by decide +kernel
theorem dX0_putUp_12 : decode cX0_putUp 12 = .ok (.invokevirtual 62, 3) := by decide +kernel
theorem dX0_putUp_15 : decode cX0_putUp 15 = .ok (.return_, 1) := by decide +kernel
theorem dX0_putDown_0 : decode cX0_putDown 0 = .ok (.aload_n 0, 1) := by decide +kernel
theorem dX0_putDown_1 : decode cX0_putDown 1 = .ok (.getfield 14, 3) := by decide +kernel
theorem dX0_putDown_4 : decode cX0_putDown 4 = .ok (.invokevirtual 66, 3) := by decide +kernel
theorem dX0_putDown_7 : decode cX0_putDown 7 = .ok (.aload_n 0, 1) := by decide +kernel
theorem dX0_putDown_8 : decode cX0_putDown 8 = .ok (.iconst 0, 1) := by decide +kernel
theorem dX0_putDown_9 : decode cX0_putDown 9 = .ok (.putfield 28, 3) := by decide +kernel
theorem dX0_putDown_12 : decode cX0_putDown 12 = .ok (.aload_n 0, 1) := by decide +kernel
theorem dX0_putDown_13 : decode cX0_putDown 13 = .ok (.iconst 0, 1) := by decide +kernel
theorem dX0_putDown_14 : decode cX0_putDown 14 = .ok (.putfield 31, 3) := by decide +kernel
theorem dX0_putDown_17 : decode cX0_putDown 17 = .ok (.aload_n 0, 1) := by decide +kernel
theorem dX0_putDown_18 : decode cX0_putDown 18 = .ok (.iconst 0, 1) := by decide +kernel
theorem dX0_putDown_19 : decode cX0_putDown 19 = .ok (.putfield 24, 3) := by decide +kernel
theorem dX0_putDown_22 : decode cX0_putDown 22 = .ok (.return_, 1) := by decide +kernel
theorem dX0_take_0 : decode cX0_take 0 = .ok (.aload_n 0, 1) := by decide +kernel
theorem dX0_take_1 : decode cX0_take 1 = .ok (.getfield 14, 3) := by decide +kernel
theorem dX0_take_4 : decode cX0_take 4 = .ok (.iload_n 1, 1) := by decide +kernel
theorem dX0_take_5 : decode cX0_take 5 = .ok (.invokevirtual 69, 3) := by decide +kernel
theorem dX0_take_8 : decode cX0_take 8 = .ok (.ifCond .ne 4, 3) := by decide +kernel
theorem dX0_take_11 : decode cX0_take 11 = .ok (.return_, 1) := by decide +kernel
theorem dX0_take_12 : decode cX0_take 12 = .ok (.aload_n 0, 1) := by decide +kernel
theorem dX0_take_13 : decode cX0_take 13 = .ok (.dup, 1) := by decide +kernel
theorem dX0_take_14 : decode cX0_take 14 = .ok (.getfield 43, 3) := by decide +kernel
theorem dX0_take_17 : decode cX0_take 17 = .ok (.iconst 1, 1) := by decide +kernel
theorem dX0_take_18 : decode cX0_take 18 = .ok (.iadd, 1) := by decide +kernel
theorem dX0_take_19 : decode cX0_take 19 = .ok (.putfield 43, 3) := by decide +kernel
theorem dX0_take_22 : decode cX0_take 22 = .ok (.aload_n 2, 1) := by decide +kernel
theorem dX0_take_23 : decode cX0_take 23 = .ok (.aload_n 0, 1) := by decide +kernel
theorem dX0_take_24 : decode cX0_take 24 = .ok (.getfield 14, 3) := by decide +kernel
theorem dX0_take_27 : decode cX0_take 27 = .ok (.iconst 1, 1) := by decide +kernel
theorem dX0_take_28 : decode cX0_take 28 = .ok (.invokevirtual 58, 3) := by decide +kernel
theorem dX0_take_31 : decode cX0_take 31 = .ok (.iconst (-1), 1) := by decide +kernel
theorem dX0_take_32 : decode cX0_take 32 = .ok (.if_icmp .eq 7, 3) := by decide +kernel
theorem dX0_take_35 : decode cX0_take 35 = .ok (.iconst 1, 1) := by decide +kernel
theorem dX0_take_36 : decode cX0_take 36 = .ok (.goto 4, 3) := by decide +kernel
theorem dX0_take_39 : decode cX0_take 39 = .ok (.iconst 0, 1) := by decide +kernel
theorem dX0_take_40 : decode cX0_take 40 = .ok (.istore_n 3, 1) := by decide +kernel
theorem dX0_take_41 : decode cX0_take 41 = .ok (.aload_n 0, 1) := by decide +kernel
theorem dX0_take_42 : decode cX0_take 42 = .ok (.getfield 14, 3) := by decide +kernel
theorem dX0_take_45 : decode cX0_take 45 = .ok (.invokevirtual 46, 3) := by decide +kernel
theorem dX0_take_48 : decode cX0_take 48 = .ok (.bipush 10, 2) := by decide +kernel
theorem dX0_take_50 : decode cX0_take 50 = .ok (.if_icmp .ge 15, 3) := by decide +kernel
theorem dX0_take_53 : decode cX0_take 53 = .ok (.aload_n 2, 1) := by decide +kernel
theorem dX0_take_54 : decode cX0_take 54 = .ok (.aload_n 0, 1) := by decide +kernel
theorem dX0_take_55 : decode cX0_take 55 = .ok (.getfield 14, 3) := by decide +kernel
theorem dX0_take_58 : decode cX0_take 58 = .ok (.iconst 2, 1) := by decide +kernel
theorem dX0_take_59 : decode cX0_take 59 = .ok (.invokevirtual 52, 3) := by decide +kernel
theorem dX0_take_62 : decode cX0_take 62 = .ok (.ifCond .ne 7, 3) := by decide +kernel
theorem dX0_take_65 : decode cX0_take 65 = .ok (.iconst 1, 1) := by decide +kernel
theorem dX0_take_66 : decode cX0_take 66 = .ok (.goto 4, 3) := by decide +kernel
theorem dX0_take_69 : decode cX0_take 69 = .ok (.iconst 0, 1) := by decide +kernel
theorem dX0_take_70 : decode cX0_take 70 = .ok (.istore 4, 2) := by decide +kernel
theorem dX0_take_72 : decode cX0_take 72 = .ok (.iload_n 3, 1) := by decide +kernel
theorem dX0_take_73 : decode cX0_take 73 = .ok (.ifCond .eq 12, 3) := by decide +kernel
theorem dX0_take_76 : decode cX0_take 76 = .ok (.aload_n 0, 1) := by decide +kernel
theorem dX0_take_77 : decode cX0_take 77 = .ok (.iconst 4, 1) := by decide +kernel
theorem dX0_take_78 : decode cX0_take 78 = .ok (.aload_n 2, 1) := by decide +kernel
theorem dX0_take_79 : decode cX0_take 79 = .ok (.invokevirtual 73, 3) := by decide +kernel
theorem dX0_take_82 : decode cX0_take 82 = .ok (.goto 22, 3) := by decide +kernel
theorem dX0_take_85 : decode cX0_take 85 = .ok (.iload 4, 2) := by decide +kernel
theorem dX0_take_87 : decode cX0_take 87 = .ok (.ifCond .eq 12, 3) := by decide +kernel
theorem dX0_take_90 : decode cX0_take 90 = .ok (.aload_n 0, 1) := by decide +kernel
theorem dX0_take_91 : decode cX0_take 91 = .ok (.iconst 1, 1) := by decide +kernel
theorem dX0_take_92 : decode cX0_take 92 = .ok (.aload_n 2, 1) := by decide +kernel
theorem dX0_take_93 : decode cX0_take 93 = .ok (.invokevirtual 73, 3) := by decide +kernel
theorem dX0_take_96 : decode cX0_take 96 = .ok (.goto 8, 3) := by decide +kernel
theorem dX0_take_99 : decode cX0_take 99 = .ok (.aload_n 0, 1) := by decide +kernel
theorem dX0_take_100 : decode cX0_take 100 = .ok (.aload_n 2, 1) := by decide +kernel
theorem dX0_take_101 : decode cX0_take 101 = .ok (.invokevirtual 62, 3) := by decide +kernel
theorem dX0_take_104 : decode cX0_take 104 = .ok (.return_, 1) := by decide +kernel
theorem dX0_letTicksGo_0 : decode cX0_letTicksGo 0 = .ok (.iload_n 1, 1) := by decide +kernel
theorem dX0_letTicksGo_1 : decode cX0_letTicksGo 1 = .ok (.aload_n 0, 1) := by decide +kernel
theorem dX0_letTicksGo_2 : decode cX0_letTicksGo 2 = .ok (.getfield 31, 3) := by decide +kernel
theorem dX0_letTicksGo_5 : decode cX0_letTicksGo 5 = .ok (.if_icmp .ge 16, 3) := by decide +kernel
theorem dX0_letTicksGo_8 : decode cX0_letTicksGo 8 = .ok (.aload_n 0, 1) := by decide +kernel
theorem dX0_letTicksGo_9 : decode cX0_letTicksGo 9 = .ok (.dup, 1) := by decide +kernel
theorem dX0_letTicksGo_10 : decode cX0_letTicksGo 10 = .ok (.getfield 31, 3) := by decide +kernel
theorem dX0_letTicksGo_13 : decode cX0_letTicksGo 13 = .ok (.iload_n 1, 1) := by decide +kernel
theorem dX0_letTicksGo_14 : decode cX0_letTicksGo 14 = .ok (.isub, 1) := by decide +kernel
theorem dX0_letTicksGo_15 : decode cX0_letTicksGo 15 = .ok (.putfield 31, 3) := by decide +kernel
theorem dX0_letTicksGo_18 : decode cX0_letTicksGo 18 = .ok (.goto 9, 3) := by decide +kernel
theorem dX0_letTicksGo_21 : decode cX0_letTicksGo 21 = .ok (.aload_n 0, 1) := by decide +kernel
theorem dX0_letTicksGo_22 : decode cX0_letTicksGo 22 = .ok (.iconst 2, 1) := by decide +kernel
theorem dX0_letTicksGo_23 : decode cX0_letTicksGo 23 = .ok (.aload_n 2, 1) := by decide +kernel
theorem dX0_letTicksGo_24 : decode cX0_letTicksGo 24 = .ok (.invokevirtual 73, 3) := by decide +kernel
theorem dX0_letTicksGo_27 : decode cX0_letTicksGo 27 = .ok (.return_, 1) := by decide +kernel
theorem dX0_goOnWaiting_0 : decode cX0_goOnWaiting 0 = .ok (.aload_n 0, 1) := by decide +kernel
theorem dX0_goOnWaiting_1 : decode cX0_goOnWaiting 1 = .ok (.iconst 1, 1) := by decide +kernel
theorem dX0_goOnWaiting_2 : decode cX0_goOnWaiting 2 = .ok (.putfield 24, 3) := by decide +kernel
theorem dX0_goOnWaiting_5 : decode cX0_goOnWaiting 5 = .ok (.aload_n 0, 1) := by decide +kernel
theorem dX0_goOnWaiting_6 : decode cX0_goOnWaiting 6 = .ok (.aload_n 0, 1) := by decide +kernel
theorem dX0_goOnWaiting_7 : decode cX0_goOnWaiting 7 = .ok (.aload_n 0, 1) := by decide +kernel
theorem dX0_goOnWaiting_8 : decode cX0_goOnWaiting 8 = .ok (.aload_n 1, 1) := by decide +kernel
theorem dX0_goOnWaiting_9 : decode cX0_goOnWaiting 9 = .ok (.invokevirtual 77, 3) := by decide +kernel
theorem dX0_goOnWaiting_12 : decode cX0_goOnWaiting 12 = .ok (.invokevirtual 81, 3) := by decide +kernel
theorem dX0_goOnWaiting_15 : decode cX0_goOnWaiting 15 = .ok (.putfield 31, 3) := by decide +kernel
theorem dX0_goOnWaiting_18 : decode cX0_goOnWaiting 18 = .ok (.return_, 1) := by decide +kernel
theorem dX0_settle_0 : decode cX0_settle 0 = .ok (.aload_n 0, 1) := by decide +kernel
theorem dX0_settle_1 : decode cX0_settle 1 = .ok (.iload_n 1, 1) := by decide +kernel
theorem dX0_settle_2 : decode cX0_settle 2 = .ok (.putfield 28, 3) := by decide +kernel
theorem dX0_settle_5 : decode cX0_settle 5 = .ok (.aload_n 0, 1) := by decide +kernel
theorem dX0_settle_6 : decode cX0_settle 6 = .ok (.iconst 0, 1) := by decide +kernel
theorem dX0_settle_7 : decode cX0_settle 7 = .ok (.putfield 31, 3) := by decide +kernel
theorem dX0_settle_10 : decode cX0_settle 10 = .ok (.aload_n 2, 1) := by decide +kernel
theorem dX0_settle_11 : decode cX0_settle 11 = .ok (.aload_n 0, 1) := by decide +kernel
theorem dX0_settle_12 : decode cX0_settle 12 = .ok (.getfield 14, 3) := by decide +kernel
theorem dX0_settle_15 : decode cX0_settle 15 = .ok (.iconst 1, 1) := by decide +kernel
theorem dX0_settle_16 : decode cX0_settle 16 = .ok (.invokevirtual 52, 3) := by decide +kernel
theorem dX0_settle_19 : decode cX0_settle 19 = .ok (.ifCond .eq 21, 3) := by decide +kernel
theorem dX0_settle_22 : decode cX0_settle 22 = .ok (.aload_n 0, 1) := by decide +kernel
theorem dX0_settle_23 : decode cX0_settle 23 = .ok (.iconst 2, 1) := by decide +kernel
theorem dX0_settle_24 : decode cX0_settle 24 = .ok (.putfield 24, 3) := by decide +kernel
theorem dX0_settle_27 : decode cX0_settle 27 = .ok (.aload_n 0, 1) := by decide +kernel
theorem dX0_settle_28 : decode cX0_settle 28 = .ok (.dup, 1) := by decide +kernel
theorem dX0_settle_29 : decode cX0_settle 29 = .ok (.getfield 37, 3) := by decide +kernel
theorem dX0_settle_32 : decode cX0_settle 32 = .ok (.iconst 1, 1) := by decide +kernel
theorem dX0_settle_33 : decode cX0_settle 33 = .ok (.iadd, 1) := by decide +kernel
theorem dX0_settle_34 : decode cX0_settle 34 = .ok (.putfield 37, 3) := by decide +kernel
theorem dX0_settle_37 : decode cX0_settle 37 = .ok (.goto 18, 3) := by decide +kernel
theorem dX0_settle_40 : decode cX0_settle 40 = .ok (.aload_n 0, 1) := by decide +kernel
theorem dX0_settle_41 : decode cX0_settle 41 = .ok (.iconst 3, 1) := by decide +kernel
theorem dX0_settle_42 : decode cX0_settle 42 = .ok (.putfield 24, 3) := by decide +kernel
theorem dX0_settle_45 : decode cX0_settle 45 = .ok (.aload_n 0, 1) := by decide +kernel
theorem dX0_settle_46 : decode cX0_settle 46 = .ok (.dup, 1) := by decide +kernel
theorem dX0_settle_47 : decode cX0_settle 47 = .ok (.getfield 40, 3) := by decide +kernel
theorem dX0_settle_50 : decode cX0_settle 50 = .ok (.iconst 1, 1) := by decide +kernel
theorem dX0_settle_51 : decode cX0_settle 51 = .ok (.iadd, 1) := by decide +kernel
theorem dX0_settle_52 : decode cX0_settle 52 = .ok (.putfield 40, 3) := by decide +kernel
theorem dX0_settle_55 : decode cX0_settle 55 = .ok (.return_, 1) := by decide +kernel
theorem dX1_init_0 : decode cX1_init 0 = .ok (.aload_n 0, 1) := by decide +kernel
theorem dX1_init_1 : decode cX1_init 1 = .ok (.invokespecial 3, 3) := by decide +kernel
theorem dX1_init_4 : decode cX1_init 4 = .ok (.aload_n 0, 1) := by decide +kernel
theorem dX1_init_5 : decode cX1_init 5 = .ok (.bipush 10, 2) := by decide +kernel
theorem dX1_init_7 : decode cX1_init 7 = .ok (.newarray .int, 2) := by decide +kernel
theorem dX1_init_9 : decode cX1_init 9 = .ok (.putfield 9, 3) := by decide +kernel
theorem dX1_init_12 : decode cX1_init 12 = .ok (.aload_n 0, 1) := by decide +kernel
theorem dX1_init_13 : decode cX1_init 13 = .ok (.bipush 10, 2) := by decide +kernel
theorem dX1_init_15 : decode cX1_init 15 = .ok (.newarray .int, 2) := by decide +kernel
theorem dX1_init_17 : decode cX1_init 17 = .ok (.putfield 15, 3) := by decide +kernel
theorem dX1_init_20 : decode cX1_init 20 = .ok (.aload_n 0, 1) := by decide +kernel
theorem dX1_init_21 : decode cX1_init 21 = .ok (.new 18, 3) := by decide +kernel
theorem dX1_init_24 : decode cX1_init 24 = .ok (.dup, 1) := by decide +kernel
theorem dX1_init_25 : decode cX1_init 25 = .ok (.iconst 4, 1) := by decide +kernel
theorem dX1_init_26 : decode cX1_init 26 = .ok (.invokespecial 20, 3) := by decide +kernel
theorem dX1_init_29 : decode cX1_init 29 = .ok (.putfield 23, 3) := by decide +kernel
theorem dX1_init_32 : decode cX1_init 32 = .ok (.return_, 1) := by decide +kernel
theorem dX1_places_0 : decode cX1_places 0 = .ok (.aload_n 0, 1) := by decide +kernel
theorem dX1_places_1 : decode cX1_places 1 = .ok (.getfield 27, 3) := by decide +kernel
theorem dX1_places_4 : decode cX1_places 4 = .ok (.ireturn, 1) := by decide +kernel
theorem dX1_isOpen_0 : decode cX1_isOpen 0 = .ok (.aload_n 0, 1) := by decide +kernel
theorem dX1_isOpen_1 : decode cX1_isOpen 1 = .ok (.getfield 31, 3) := by decide +kernel
theorem dX1_isOpen_4 : decode cX1_isOpen 4 = .ok (.ireturn, 1) := by decide +kernel
theorem dX1_way_0 : decode cX1_way 0 = .ok (.aload_n 0, 1) := by decide +kernel
theorem dX1_way_1 : decode cX1_way 1 = .ok (.getfield 35, 3) := by decide +kernel
theorem dX1_way_4 : decode cX1_way 4 = .ok (.ireturn, 1) := by decide +kernel
theorem dX1_dropped_0 : decode cX1_dropped 0 = .ok (.aload_n 0, 1) := by decide +kernel
theorem dX1_dropped_1 : decode cX1_dropped 1 = .ok (.getfield 38, 3) := by decide +kernel
theorem dX1_dropped_4 : decode cX1_dropped 4 = .ok (.ireturn, 1) := by decide +kernel
theorem dX1_ahead_0 : decode cX1_ahead 0 = .ok (.aload_n 0, 1) := by decide +kernel
theorem dX1_ahead_1 : decode cX1_ahead 1 = .ok (.getfield 23, 3) := by decide +kernel
theorem dX1_ahead_4 : decode cX1_ahead 4 = .ok (.areturn, 1) := by decide +kernel
theorem dX1_digitsAt_0 : decode cX1_digitsAt 0 = .ok (.iload_n 1, 1) := by decide +kernel
theorem dX1_digitsAt_1 : decode cX1_digitsAt 1 = .ok (.ifCond .lt 21, 3) := by decide +kernel
theorem dX1_digitsAt_4 : decode cX1_digitsAt 4 = .ok (.iload_n 1, 1) := by decide +kernel
theorem dX1_digitsAt_5 : decode cX1_digitsAt 5 = .ok (.aload_n 0, 1) := by decide +kernel
theorem dX1_digitsAt_6 : decode cX1_digitsAt 6 = .ok (.getfield 9, 3) := by decide +kernel
theorem dX1_digitsAt_9 : decode cX1_digitsAt 9 = .ok (.arraylength, 1) := by decide +kernel
theorem dX1_digitsAt_10 : decode cX1_digitsAt 10 = .ok (.if_icmp .ge 12, 3) := by decide +kernel
theorem dX1_digitsAt_13 : decode cX1_digitsAt 13 = .ok (.aload_n 0, 1) := by decide +kernel
theorem dX1_digitsAt_14 : decode cX1_digitsAt 14 = .ok (.getfield 9, 3) := by decide +kernel
theorem dX1_digitsAt_17 : decode cX1_digitsAt 17 = .ok (.iload_n 1, 1) := by decide +kernel
theorem dX1_digitsAt_18 : decode cX1_digitsAt 18 = .ok (.iaload, 1) := by decide +kernel
theorem dX1_digitsAt_19 : decode cX1_digitsAt 19 = .ok (.goto 4, 3) := by decide +kernel
theorem dX1_digitsAt_22 : decode cX1_digitsAt 22 = .ok (.iconst 0, 1) := by decide +kernel
theorem dX1_digitsAt_23 : decode cX1_digitsAt 23 = .ok (.ireturn, 1) := by decide +kernel
theorem dX1_clear_0 : decode cX1_clear 0 = .ok (.aload_n 0, 1) := by decide +kernel
theorem dX1_clear_1 : decode cX1_clear 1 = .ok (.iconst 0, 1) := by decide +kernel
theorem dX1_clear_2 : decode cX1_clear 2 = .ok (.iconst 0, 1) := by decide +kernel
theorem dX1_clear_3 : decode cX1_clear 3 = .ok (.iconst 0, 1) := by decide +kernel
theorem dX1_clear_4 : decode cX1_clear 4 = .ok (.invokevirtual 41, 3) := by decide +kernel
theorem dX1_clear_7 : decode cX1_clear 7 = .ok (.aload_n 0, 1) := by decide +kernel
theorem dX1_clear_8 : decode cX1_clear 8 = .ok (.getfield 23, 3) := by decide +kernel
theorem dX1_clear_11 : decode cX1_clear 11 = .ok (.invokevirtual 45, 3) := by decide +kernel
theorem dX1_clear_14 : decode cX1_clear 14 = .ok (.aload_n 0, 1) := by decide +kernel
theorem dX1_clear_15 : decode cX1_clear 15 = .ok (.iconst 0, 1) := by decide +kernel
theorem dX1_clear_16 : decode cX1_clear 16 = .ok (.putfield 27, 3) := by decide +kernel
theorem dX1_clear_19 : decode cX1_clear 19 = .ok (.aload_n 0, 1) := by decide +kernel
theorem dX1_clear_20 : decode cX1_clear 20 = .ok (.iconst 0, 1) := by decide +kernel
theorem dX1_clear_21 : decode cX1_clear 21 = .ok (.putfield 31, 3) := by decide +kernel
theorem dX1_clear_24 : decode cX1_clear 24 = .ok (.aload_n 0, 1) := by decide +kernel
theorem dX1_clear_25 : decode cX1_clear 25 = .ok (.iconst 0, 1) := by decide +kernel
theorem dX1_clear_26 : decode cX1_clear 26 = .ok (.putfield 35, 3) := by decide +kernel
theorem dX1_clear_29 : decode cX1_clear 29 = .ok (.aload_n 0, 1) := by decide +kernel
theorem dX1_clear_30 : decode cX1_clear 30 = .ok (.iconst 0, 1) := by decide +kernel
theorem dX1_clear_31 : decode cX1_clear 31 = .ok (.putfield 38, 3) := by decide +kernel
theorem dX1_clear_34 : decode cX1_clear 34 = .ok (.return_, 1) := by decide +kernel
theorem dX1_hasRoom_0 : decode cX1_hasRoom 0 = .ok (.aload_n 0, 1) := by decide +kernel
theorem dX1_hasRoom_1 : decode cX1_hasRoom 1 = .ok (.getfield 27, 3) := by decide +kernel
theorem dX1_hasRoom_4 : decode cX1_hasRoom 4 = .ok (.ifCond .lt 16, 3) := by decide +kernel
theorem dX1_hasRoom_7 : decode cX1_hasRoom 7 = .ok (.aload_n 0, 1) := by decide +kernel
theorem dX1_hasRoom_8 : decode cX1_hasRoom 8 = .ok (.getfield 27, 3) := by decide +kernel
theorem dX1_hasRoom_11 : decode cX1_hasRoom 11 = .ok (.bipush 8, 2) := by decide +kernel
theorem dX1_hasRoom_13 : decode cX1_hasRoom 13 = .ok (.if_icmp .ge 7, 3) := by decide +kernel
theorem dX1_hasRoom_16 : decode cX1_hasRoom 16 = .ok (.iconst 1, 1) := by decide +kernel
theorem dX1_hasRoom_17 : decode cX1_hasRoom 17 = .ok (.goto 4, 3) := by decide +kernel
theorem dX1_hasRoom_20 : decode cX1_hasRoom 20 = .ok (.iconst 0, 1) := by decide +kernel
theorem dX1_hasRoom_21 : decode cX1_hasRoom 21 = .ok (.ireturn, 1) := by decide +kernel
theorem dX1_appendPlace_0 : decode cX1_appendPlace 0 = .ok (.aload_n 0, 1) := by decide +kernel
theorem dX1_appendPlace_1 : decode cX1_appendPlace 1 = .ok (.getfield 27, 3) := by decide +kernel
theorem dX1_appendPlace_4 : decode cX1_appendPlace 4 = .ok (.ifCond .lt 36, 3) := by decide +kernel
theorem dX1_appendPlace_7 : decode cX1_appendPlace 7 = .ok (.aload_n 0, 1) := by decide +kernel
theorem dX1_appendPlace_8 : decode cX1_appendPlace 8 = .ok (.getfield 27, 3) := by decide +kernel
theorem dX1_appendPlace_11 : decode cX1_appendPlace 11 = .ok (.bipush 8, 2) := by decide +kernel
theorem dX1_appendPlace_13 : decode cX1_appendPlace 13 = .ok (.if_icmp .ge 27, 3) := by decide +kernel
theorem dX1_appendPlace_16 : decode cX1_appendPlace 16 = .ok (.aload_n 0, 1) := by decide +kernel
theorem dX1_appendPlace_17 : decode cX1_appendPlace 17 = .ok (.getfield 27, 3) := by decide +kernel
theorem dX1_appendPlace_20 : decode cX1_appendPlace 20 = .ok (.aload_n 0, 1) := by decide +kernel
theorem dX1_appendPlace_21 : decode cX1_appendPlace 21 = .ok (.getfield 9, 3) := by decide +kernel
theorem dX1_appendPlace_24 : decode cX1_appendPlace 24 = .ok (.arraylength, 1) := by decide +kernel
theorem dX1_appendPlace_25 : decode cX1_appendPlace 25 = .ok (.if_icmp .ge 15, 3) := by decide +kernel
theorem dX1_appendPlace_28 : decode cX1_appendPlace 28 = .ok (.aload_n 0, 1) := by decide +kernel
theorem dX1_appendPlace_29 : decode cX1_appendPlace 29 = .ok (.getfield 27, 3) := by decide +kernel
theorem dX1_appendPlace_32 : decode cX1_appendPlace 32 = .ok (.aload_n 0, 1) := by decide +kernel
theorem dX1_appendPlace_33 : decode cX1_appendPlace 33 = .ok (.getfield 15, 3) := by decide +kernel
theorem dX1_appendPlace_36 : decode cX1_appendPlace 36 = .ok (.arraylength, 1) := by decide +kernel
theorem dX1_appendPlace_37 : decode cX1_appendPlace 37 = .ok (.if_icmp .lt 4, 3) := by decide +kernel
theorem dX1_appendPlace_40 : decode cX1_appendPlace 40 = .ok (.return_, 1) := by decide +kernel
theorem dX1_appendPlace_41 : decode cX1_appendPlace 41 = .ok (.iconst 0, 1) := by decide +kernel
theorem dX1_appendPlace_42 : decode cX1_appendPlace 42 = .ok (.istore_n 3, 1) := by decide +kernel
theorem dX1_appendPlace_43 : decode cX1_appendPlace 43 = .ok (.iload_n 1, 1) := by decide +kernel
theorem dX1_appendPlace_44 : decode cX1_appendPlace 44 = .ok (.iconst 0, 1) := by decide +kernel
theorem dX1_appendPlace_45 : decode cX1_appendPlace 45 = .ok (.invokestatic 48, 3) := by decide +kernel
theorem dX1_appendPlace_48 : decode cX1_appendPlace 48 = .ok (.istore 4, 2) := by decide +kernel
theorem dX1_appendPlace_50 : decode cX1_appendPlace 50 = .ok (.iload 4, 2) := by decide +kernel
theorem dX1_appendPlace_52 : decode cX1_appendPlace 52 = .ok (.iload_n 2, 1) := by decide +kernel
theorem dX1_appendPlace_53 : decode cX1_appendPlace 53 = .ok (.if_icmp .gt 23, 3) := by decide +kernel
theorem dX1_appendPlace_56 : decode cX1_appendPlace 56 = .ok (.iload 4, 2) := by decide +kernel
theorem dX1_appendPlace_58 : decode cX1_appendPlace 58 = .ok (.bipush 9, 2) := by decide +kernel
theorem dX1_appendPlace_60 : decode cX1_appendPlace 60 = .ok (.if_icmp .gt 16, 3) := by decide +kernel
theorem dX1_appendPlace_63 : decode cX1_appendPlace 63 = .ok (.iload_n 3, 1) := by decide +kernel
theorem dX1_appendPlace_64 : decode cX1_appendPlace 64 = .ok (.iconst 1, 1) := by decide +kernel
theorem dX1_appendPlace_65 : decode cX1_appendPlace 65 = .ok (.iload 4, 2) := by decide +kernel
theorem dX1_appendPlace_67 : decode cX1_appendPlace 67 = .ok (.ishl, 1) := by decide +kernel
theorem dX1_appendPlace_68 : decode cX1_appendPlace 68 = .ok (.ior, 1) := by decide +kernel
theorem dX1_appendPlace_69 : decode cX1_appendPlace 69 = .ok (.istore_n 3, 1) := by decide +kernel
theorem dX1_appendPlace_70 : decode cX1_appendPlace 70 = .ok (.iinc 4 1, 3) := by decide +kernel
theorem dX1_appendPlace_73 : decode cX1_appendPlace 73 = .ok (.goto (-23), 3) := by decide +kernel
theorem dX1_appendPlace_76 : decode cX1_appendPlace 76 = .ok (.aload_n 0, 1) := by decide +kernel
theorem dX1_appendPlace_77 : decode cX1_appendPlace 77 = .ok (.getfield 9, 3) := by decide +kernel
theorem dX1_appendPlace_80 : decode cX1_appendPlace 80 = .ok (.aload_n 0, 1) := by decide +kernel
theorem dX1_appendPlace_81 : decode cX1_appendPlace 81 = .ok (.getfield 27, 3) := by decide +kernel
theorem dX1_appendPlace_84 : decode cX1_appendPlace 84 = .ok (.iload_n 3, 1) := by decide +kernel
theorem dX1_appendPlace_85 : decode cX1_appendPlace 85 = .ok (.iastore, 1) := by decide +kernel
theorem dX1_appendPlace_86 : decode cX1_appendPlace 86 = .ok (.aload_n 0, 1) := by decide +kernel
theorem dX1_appendPlace_87 : decode cX1_appendPlace 87 = .ok (.getfield 15, 3) := by decide +kernel
theorem dX1_appendPlace_90 : decode cX1_appendPlace 90 = .ok (.aload_n 0, 1) := by decide +kernel
theorem dX1_appendPlace_91 : decode cX1_appendPlace 91 = .ok (.getfield 27, 3) := by decide +kernel
theorem dX1_appendPlace_94 : decode cX1_appendPlace 94 = .ok (.iload_n 3, 1) := by decide +kernel
theorem dX1_appendPlace_95 : decode cX1_appendPlace 95 = .ok (.invokestatic 54, 3) := by decide +kernel
theorem dX1_appendPlace_98 : decode cX1_appendPlace 98 = .ok (.iastore, 1) := by decide +kernel
theorem dX1_appendPlace_99 : decode cX1_appendPlace 99 = .ok (.aload_n 0, 1) := by decide +kernel
theorem dX1_appendPlace_100 : decode cX1_appendPlace 100 = .ok (.dup, 1) := by decide +kernel
theorem dX1_appendPlace_101 : decode cX1_appendPlace 101 = .ok (.getfield 27, 3) := by decide +kernel
theorem dX1_appendPlace_104 : decode cX1_appendPlace 104 = .ok (.iconst 1, 1) := by decide +kernel
theorem dX1_appendPlace_105 : decode cX1_appendPlace 105 = .ok (.iadd, 1) := by decide +kernel
theorem dX1_appendPlace_106 : decode cX1_appendPlace 106 = .ok (.putfield 27, 3) := by decide +kernel
theorem dX1_appendPlace_109 : decode cX1_appendPlace 109 = .ok (.return_, 1) := by decide +kernel
theorem dX1_makeOpen_0 : decode cX1_makeOpen 0 = .ok (.aload_n 0, 1) := by decide +kernel
theorem dX1_makeOpen_1 : decode cX1_makeOpen 1 = .ok (.iconst 1, 1) := by decide +kernel
theorem dX1_makeOpen_2 : decode cX1_makeOpen 2 = .ok (.putfield 31, 3) := by decide +kernel
theorem dX1_makeOpen_5 : decode cX1_makeOpen 5 = .ok (.aload_n 0, 1) := by decide +kernel
theorem dX1_makeOpen_6 : decode cX1_makeOpen 6 = .ok (.aload_n 0, 1) := by decide +kernel
theorem dX1_makeOpen_7 : decode cX1_makeOpen 7 = .ok (.getfield 27, 3) := by decide +kernel
theorem dX1_makeOpen_10 : decode cX1_makeOpen 10 = .ok (.sipush 1023, 3) := by decide +kernel
theorem dX1_makeOpen_13 : decode cX1_makeOpen 13 = .ok (.bipush 11, 2) := by decide +kernel
theorem dX1_makeOpen_15 : decode cX1_makeOpen 15 = .ok (.invokevirtual 41, 3) := by decide +kernel
theorem dX1_makeOpen_18 : decode cX1_makeOpen 18 = .ok (.return_, 1) := by decide +kernel
theorem dX1_setFrom_0 : decode cX1_setFrom 0 = .ok (.iload_n 1, 1) := by decide +kernel
theorem dX1_setFrom_1 : decode cX1_setFrom 1 = .ok (.iconst 0, 1) := by decide +kernel
theorem dX1_setFrom_2 : decode cX1_setFrom 2 = .ok (.invokestatic 48, 3) := by decide +kernel
theorem dX1_setFrom_5 : decode cX1_setFrom 5 = .ok (.istore 4, 2) := by decide +kernel
theorem dX1_setFrom_7 : decode cX1_setFrom 7 = .ok (.iload 4, 2) := by decide +kernel
theorem dX1_setFrom_9 : decode cX1_setFrom 9 = .ok (.aload_n 0, 1) := by decide +kernel
theorem dX1_setFrom_10 : decode cX1_setFrom 10 = .ok (.getfield 9, 3) := by decide +kernel
theorem dX1_setFrom_13 : decode cX1_setFrom 13 = .ok (.arraylength, 1) := by decide +kernel
theorem dX1_setFrom_14 : decode cX1_setFrom 14 = .ok (.if_icmp .ge 35, 3) := by decide +kernel
theorem dX1_setFrom_17 : decode cX1_setFrom 17 = .ok (.iload 4, 2) := by decide +kernel
theorem dX1_setFrom_19 : decode cX1_setFrom 19 = .ok (.aload_n 0, 1) := by decide +kernel
theorem dX1_setFrom_20 : decode cX1_setFrom 20 = .ok (.getfield 15, 3) := by decide +kernel
theorem dX1_setFrom_23 : decode cX1_setFrom 23 = .ok (.arraylength, 1) := by decide +kernel
theorem dX1_setFrom_24 : decode cX1_setFrom 24 = .ok (.if_icmp .ge 25, 3) := by decide +kernel
theorem dX1_setFrom_27 : decode cX1_setFrom 27 = .ok (.aload_n 0, 1) := by decide +kernel
theorem dX1_setFrom_28 : decode cX1_setFrom 28 = .ok (.getfield 9, 3) := by decide +kernel
theorem dX1_setFrom_31 : decode cX1_setFrom 31 = .ok (.iload 4, 2) := by decide +kernel
theorem dX1_setFrom_33 : decode cX1_setFrom 33 = .ok (.iload_n 2, 1) := by decide +kernel
theorem dX1_setFrom_34 : decode cX1_setFrom 34 = .ok (.iastore, 1) := by decide +kernel
theorem dX1_setFrom_35 : decode cX1_setFrom 35 = .ok (.aload_n 0, 1) := by decide +kernel
theorem dX1_setFrom_36 : decode cX1_setFrom 36 = .ok (.getfield 15, 3) := by decide +kernel
theorem dX1_setFrom_39 : decode cX1_setFrom 39 = .ok (.iload 4, 2) := by decide +kernel
theorem dX1_setFrom_41 : decode cX1_setFrom 41 = .ok (.iload_n 3, 1) := by decide +kernel
theorem dX1_setFrom_42 : decode cX1_setFrom 42 = .ok (.iastore, 1) := by decide +kernel
theorem dX1_setFrom_43 : decode cX1_setFrom 43 = .ok (.iinc 4 1, 3) := by decide +kernel
theorem dX1_setFrom_46 : decode cX1_setFrom 46 = .ok (.goto (-39), 3) := by decide +kernel
theorem dX1_setFrom_49 : decode cX1_setFrom 49 = .ok (.return_, 1) := by decide +kernel
theorem dX1_setWay_0 : decode cX1_setWay 0 = .ok (.aload_n 0, 1) := by decide +kernel
theorem dX1_setWay_1 : decode cX1_setWay 1 = .ok (.iload_n 1, 1) := by decide +kernel
theorem dX1_setWay_2 : decode cX1_setWay 2 = .ok (.putfield 35, 3) := by decide +kernel
theorem dX1_setWay_5 : decode cX1_setWay 5 = .ok (.return_, 1) := by decide +kernel
theorem dX1_setDropped_0 : decode cX1_setDropped 0 = .ok (.aload_n 0, 1) := by decide +kernel
theorem dX1_setDropped_1 : decode cX1_setDropped 1 = .ok (.iload_n 1, 1) := by decide +kernel
theorem dX1_setDropped_2 : decode cX1_setDropped 2 = .ok (.putfield 38, 3) := by decide +kernel
theorem dX1_setDropped_5 : decode cX1_setDropped 5 = .ok (.return_, 1) := by decide +kernel
theorem dX1_copyFrom_0 : decode cX1_copyFrom 0 = .ok (.iconst 0, 1) := by decide +kernel
theorem dX1_copyFrom_1 : decode cX1_copyFrom 1 = .ok (.istore_n 2, 1) := by decide +kernel
theorem dX1_copyFrom_2 : decode cX1_copyFrom 2 = .ok (.iload_n 2, 1) := by decide +kernel
theorem dX1_copyFrom_3 : decode cX1_copyFrom 3 = .ok (.aload_n 0, 1) := by decide +kernel
theorem dX1_copyFrom_4 : decode cX1_copyFrom 4 = .ok (.getfield 9, 3) := by decide +kernel
theorem dX1_copyFrom_7 : decode cX1_copyFrom 7 = .ok (.arraylength, 1) := by decide +kernel
theorem dX1_copyFrom_8 : decode cX1_copyFrom 8 = .ok (.if_icmp .ge 30, 3) := by decide +kernel
theorem dX1_copyFrom_11 : decode cX1_copyFrom 11 = .ok (.iload_n 2, 1) := by decide +kernel
theorem dX1_copyFrom_12 : decode cX1_copyFrom 12 = .ok (.aload_n 1, 1) := by decide +kernel
theorem dX1_copyFrom_13 : decode cX1_copyFrom 13 = .ok (.getfield 9, 3) := by decide +kernel
theorem dX1_copyFrom_16 : decode cX1_copyFrom 16 = .ok (.arraylength, 1) := by decide +kernel
theorem dX1_copyFrom_17 : decode cX1_copyFrom 17 = .ok (.if_icmp .ge 21, 3) := by decide +kernel
theorem dX1_copyFrom_20 : decode cX1_copyFrom 20 = .ok (.aload_n 0, 1) := by decide +kernel
theorem dX1_copyFrom_21 : decode cX1_copyFrom 21 = .ok (.getfield 9, 3) := by decide +kernel
theorem dX1_copyFrom_24 : decode cX1_copyFrom 24 = .ok (.iload_n 2, 1) := by decide +kernel
theorem dX1_copyFrom_25 : decode cX1_copyFrom 25 = .ok (.aload_n 1, 1) := by decide +kernel
theorem dX1_copyFrom_26 : decode cX1_copyFrom 26 = .ok (.getfield 9, 3) := by decide +kernel
theorem dX1_copyFrom_29 : decode cX1_copyFrom 29 = .ok (.iload_n 2, 1) := by decide +kernel
theorem dX1_copyFrom_30 : decode cX1_copyFrom 30 = .ok (.iaload, 1) := by decide +kernel
theorem dX1_copyFrom_31 : decode cX1_copyFrom 31 = .ok (.iastore, 1) := by decide +kernel
theorem dX1_copyFrom_32 : decode cX1_copyFrom 32 = .ok (.iinc 2 1, 3) := by decide +kernel
theorem dX1_copyFrom_35 : decode cX1_copyFrom 35 = .ok (.goto (-33), 3) := by decide +kernel
theorem dX1_copyFrom_38 : decode cX1_copyFrom 38 = .ok (.iconst 0, 1) := by decide +kernel
theorem dX1_copyFrom_39 : decode cX1_copyFrom 39 = .ok (.istore_n 2, 1) := by decide +kernel
theorem dX1_copyFrom_40 : decode cX1_copyFrom 40 = .ok (.iload_n 2, 1) := by decide +kernel
theorem dX1_copyFrom_41 : decode cX1_copyFrom 41 = .ok (.aload_n 0, 1) := by decide +kernel
theorem dX1_copyFrom_42 : decode cX1_copyFrom 42 = .ok (.getfield 15, 3) := by decide +kernel
theorem dX1_copyFrom_45 : decode cX1_copyFrom 45 = .ok (.arraylength, 1) := by decide +kernel
theorem dX1_copyFrom_46 : decode cX1_copyFrom 46 = .ok (.if_icmp .ge 30, 3) := by decide +kernel
theorem dX1_copyFrom_49 : decode cX1_copyFrom 49 = .ok (.iload_n 2, 1) := by decide +kernel
theorem dX1_copyFrom_50 : decode cX1_copyFrom 50 = .ok (.aload_n 1, 1) := by decide +kernel
theorem dX1_copyFrom_51 : decode cX1_copyFrom 51 = .ok (.getfield 15, 3) := by decide +kernel
theorem dX1_copyFrom_54 : decode cX1_copyFrom 54 = .ok (.arraylength, 1) := by decide +kernel
theorem dX1_copyFrom_55 : decode cX1_copyFrom 55 = .ok (.if_icmp .ge 21, 3) := by decide +kernel
theorem dX1_copyFrom_58 : decode cX1_copyFrom 58 = .ok (.aload_n 0, 1) := by decide +kernel
theorem dX1_copyFrom_59 : decode cX1_copyFrom 59 = .ok (.getfield 15, 3) := by decide +kernel
theorem dX1_copyFrom_62 : decode cX1_copyFrom 62 = .ok (.iload_n 2, 1) := by decide +kernel
theorem dX1_copyFrom_63 : decode cX1_copyFrom 63 = .ok (.aload_n 1, 1) := by decide +kernel
theorem dX1_copyFrom_64 : decode cX1_copyFrom 64 = .ok (.getfield 15, 3) := by decide +kernel
theorem dX1_copyFrom_67 : decode cX1_copyFrom 67 = .ok (.iload_n 2, 1) := by decide +kernel
theorem dX1_copyFrom_68 : decode cX1_copyFrom 68 = .ok (.iaload, 1) := by decide +kernel
theorem dX1_copyFrom_69 : decode cX1_copyFrom 69 = .ok (.iastore, 1) := by decide +kernel
theorem dX1_copyFrom_70 : decode cX1_copyFrom 70 = .ok (.iinc 2 1, 3) := by decide +kernel
theorem dX1_copyFrom_73 : decode cX1_copyFrom 73 = .ok (.goto (-33), 3) := by decide +kernel
theorem dX1_copyFrom_76 : decode cX1_copyFrom 76 = .ok (.aload_n 0, 1) := by decide +kernel
theorem dX1_copyFrom_77 : decode cX1_copyFrom 77 = .ok (.getfield 23, 3) := by decide +kernel
theorem dX1_copyFrom_80 : decode cX1_copyFrom 80 = .ok (.aload_n 1, 1) := by decide +kernel
theorem dX1_copyFrom_81 : decode cX1_copyFrom 81 = .ok (.getfield 23, 3) := by decide +kernel
theorem dX1_copyFrom_84 : decode cX1_copyFrom 84 = .ok (.invokevirtual 60, 3) := by decide +kernel
theorem dX1_copyFrom_87 : decode cX1_copyFrom 87 = .ok (.aload_n 0, 1) := by decide +kernel
theorem dX1_copyFrom_88 : decode cX1_copyFrom 88 = .ok (.aload_n 1, 1) := by decide +kernel
theorem dX1_copyFrom_89 : decode cX1_copyFrom 89 = .ok (.getfield 27, 3) := by decide +kernel
theorem dX1_copyFrom_92 : decode cX1_copyFrom 92 = .ok (.putfield 27, 3) := by decide +kernel
theorem dX1_copyFrom_95 : decode cX1_copyFrom 95 = .ok (.aload_n 0, 1) := by decide +kernel
theorem dX1_copyFrom_96 : decode cX1_copyFrom 96 = .ok (.aload_n 1, 1) := by decide +kernel
theorem dX1_copyFrom_97 : decode cX1_copyFrom 97 = .ok (.getfield 31, 3) := by decide +kernel
theorem dX1_copyFrom_100 : decode cX1_copyFrom 100 = .ok (.putfield 31, 3) := by decide +kernel
theorem dX1_copyFrom_103 : decode cX1_copyFrom 103 = .ok (.aload_n 0, 1) := by decide +kernel
theorem dX1_copyFrom_104 : decode cX1_copyFrom 104 = .ok (.aload_n 1, 1) := by decide +kernel
theorem dX1_copyFrom_105 : decode cX1_copyFrom 105 = .ok (.getfield 35, 3) := by decide +kernel
theorem dX1_copyFrom_108 : decode cX1_copyFrom 108 = .ok (.putfield 35, 3) := by decide +kernel
theorem dX1_copyFrom_111 : decode cX1_copyFrom 111 = .ok (.aload_n 0, 1) := by decide +kernel
theorem dX1_copyFrom_112 : decode cX1_copyFrom 112 = .ok (.aload_n 1, 1) := by decide +kernel
theorem dX1_copyFrom_113 : decode cX1_copyFrom 113 = .ok (.getfield 38, 3) := by decide +kernel
theorem dX1_copyFrom_116 : decode cX1_copyFrom 116 = .ok (.putfield 38, 3) := by decide +kernel
theorem dX1_copyFrom_119 : decode cX1_copyFrom 119 = .ok (.return_, 1) := by decide +kernel
theorem dX1_isNarrowerThan_0 : decode cX1_isNarrowerThan 0 = .ok (.iconst 0, 1) := by decide +kernel
theorem dX1_isNarrowerThan_1 : decode cX1_isNarrowerThan 1 = .ok (.istore_n 2, 1) := by decide +kernel
theorem dX1_isNarrowerThan_2 : decode cX1_isNarrowerThan 2 = .ok (.iload_n 2, 1) := by decide +kernel
theorem dX1_isNarrowerThan_3 : decode cX1_isNarrowerThan 3 = .ok (.aload_n 0, 1) := by decide +kernel
theorem dX1_isNarrowerThan_4 : decode cX1_isNarrowerThan 4 = .ok (.getfield 15, 3) := by decide +kernel
theorem dX1_isNarrowerThan_7 : decode cX1_isNarrowerThan 7 = .ok (.arraylength, 1) := by decide +kernel
theorem dX1_isNarrowerThan_8 : decode cX1_isNarrowerThan 8 = .ok (.if_icmp .ge 54, 3) := by decide +kernel
theorem dX1_isNarrowerThan_11 : decode cX1_isNarrowerThan 11 = .ok (.iload_n 2, 1) := by decide +kernel
theorem dX1_isNarrowerThan_12 : decode cX1_isNarrowerThan 12 = .ok (.aload_n 1, 1) := by decide +kernel
theorem dX1_isNarrowerThan_13 : decode cX1_isNarrowerThan 13 = .ok (.getfield 15, 3) := by decide +kernel
theorem dX1_isNarrowerThan_16 : decode cX1_isNarrowerThan 16 = .ok (.arraylength, 1) := by decide +kernel
theorem dX1_isNarrowerThan_17 : decode cX1_isNarrowerThan 17 = .ok (.if_icmp .ge 45, 3) := by decide +kernel
theorem dX1_isNarrowerThan_20 : decode cX1_isNarrowerThan 20 = .ok (.aload_n 0, 1) := by decide +kernel
theorem dX1_isNarrowerThan_21 : decode cX1_isNarrowerThan 21 = .ok (.getfield 15, 3) := by decide +kernel
theorem dX1_isNarrowerThan_24 : decode cX1_isNarrowerThan 24 = .ok (.iload_n 2, 1) := by decide +kernel
theorem dX1_isNarrowerThan_25 : decode cX1_isNarrowerThan 25 = .ok (.iaload, 1) := by decide +kernel
theorem dX1_isNarrowerThan_26 : decode cX1_isNarrowerThan 26 = .ok (.aload_n 1, 1) := by decide +kernel
theorem dX1_isNarrowerThan_27 : decode cX1_isNarrowerThan 27 = .ok (.getfield 15, 3) := by decide +kernel
theorem dX1_isNarrowerThan_30 : decode cX1_isNarrowerThan 30 = .ok (.iload_n 2, 1) := by decide +kernel
theorem dX1_isNarrowerThan_31 : decode cX1_isNarrowerThan 31 = .ok (.iaload, 1) := by decide +kernel
theorem dX1_isNarrowerThan_32 : decode cX1_isNarrowerThan 32 = .ok (.if_icmp .eq 24, 3) := by decide +kernel
theorem dX1_isNarrowerThan_35 : decode cX1_isNarrowerThan 35 = .ok (.aload_n 0, 1) := by decide +kernel
theorem dX1_isNarrowerThan_36 : decode cX1_isNarrowerThan 36 = .ok (.getfield 15, 3) := by decide +kernel
theorem dX1_isNarrowerThan_39 : decode cX1_isNarrowerThan 39 = .ok (.iload_n 2, 1) := by decide +kernel
theorem dX1_isNarrowerThan_40 : decode cX1_isNarrowerThan 40 = .ok (.iaload, 1) := by decide +kernel
theorem dX1_isNarrowerThan_41 : decode cX1_isNarrowerThan 41 = .ok (.aload_n 1, 1) := by decide +kernel
theorem dX1_isNarrowerThan_42 : decode cX1_isNarrowerThan 42 = .ok (.getfield 15, 3) := by decide +kernel
theorem dX1_isNarrowerThan_45 : decode cX1_isNarrowerThan 45 = .ok (.iload_n 2, 1) := by decide +kernel
theorem dX1_isNarrowerThan_46 : decode cX1_isNarrowerThan 46 = .ok (.iaload, 1) := by decide +kernel
theorem dX1_isNarrowerThan_47 : decode cX1_isNarrowerThan 47 = .ok (.if_icmp .ge 7, 3) := by decide +kernel
theorem dX1_isNarrowerThan_50 : decode cX1_isNarrowerThan 50 = .ok (.iconst 1, 1) := by decide +kernel
theorem dX1_isNarrowerThan_51 : decode cX1_isNarrowerThan 51 = .ok (.goto 4, 3) := by decide +kernel
theorem dX1_isNarrowerThan_54 : decode cX1_isNarrowerThan 54 = .ok (.iconst 0, 1) := by decide +kernel
theorem dX1_isNarrowerThan_55 : decode cX1_isNarrowerThan 55 = .ok (.ireturn, 1) := by decide +kernel
theorem dX1_isNarrowerThan_56 : decode cX1_isNarrowerThan 56 = .ok (.iinc 2 1, 3) := by decide +kernel
theorem dX1_isNarrowerThan_59 : decode cX1_isNarrowerThan 59 = .ok (.goto (-57), 3) := by decide +kernel
theorem dX1_isNarrowerThan_62 : decode cX1_isNarrowerThan 62 = .ok (.iconst 0, 1) := by decide +kernel
theorem dX1_isNarrowerThan_63 : decode cX1_isNarrowerThan 63 = .ok (.ireturn, 1) := by decide +kernel
theorem dX1_reach_0 : decode cX1_reach 0 = .ok (.iconst 0, 1) := by decide +kernel
theorem dX1_reach_1 : decode cX1_reach 1 = .ok (.istore_n 3, 1) := by decide +kernel
theorem dX1_reach_2 : decode cX1_reach 2 = .ok (.iload_n 3, 1) := by decide +kernel
theorem dX1_reach_3 : decode cX1_reach 3 = .ok (.iload_n 2, 1) := by decide +kernel
theorem dX1_reach_4 : decode cX1_reach 4 = .ok (.if_icmp .ge 54, 3) := by decide +kernel
theorem dX1_reach_7 : decode cX1_reach 7 = .ok (.iload_n 3, 1) := by decide +kernel
theorem dX1_reach_8 : decode cX1_reach 8 = .ok (.aload_n 0, 1) := by decide +kernel
theorem dX1_reach_9 : decode cX1_reach 9 = .ok (.getfield 27, 3) := by decide +kernel
theorem dX1_reach_12 : decode cX1_reach 12 = .ok (.if_icmp .ge 46, 3) := by decide +kernel
theorem dX1_reach_15 : decode cX1_reach 15 = .ok (.iload_n 3, 1) := by decide +kernel
theorem dX1_reach_16 : decode cX1_reach 16 = .ok (.aload_n 0, 1) := by decide +kernel
theorem dX1_reach_17 : decode cX1_reach 17 = .ok (.getfield 9, 3) := by decide +kernel
theorem dX1_reach_20 : decode cX1_reach 20 = .ok (.arraylength, 1) := by decide +kernel
theorem dX1_reach_21 : decode cX1_reach 21 = .ok (.if_icmp .ge 37, 3) := by decide +kernel
theorem dX1_reach_24 : decode cX1_reach 24 = .ok (.aload_n 1, 1) := by decide +kernel
theorem dX1_reach_25 : decode cX1_reach 25 = .ok (.iload_n 3, 1) := by decide +kernel
theorem dX1_reach_26 : decode cX1_reach 26 = .ok (.invokevirtual 64, 3) := by decide +kernel
theorem dX1_reach_29 : decode cX1_reach 29 = .ok (.istore 4, 2) := by decide +kernel
theorem dX1_reach_31 : decode cX1_reach 31 = .ok (.iload 4, 2) := by decide +kernel
theorem dX1_reach_33 : decode cX1_reach 33 = .ok (.ifCond .lt 17, 3) := by decide +kernel
theorem dX1_reach_36 : decode cX1_reach 36 = .ok (.aload_n 0, 1) := by decide +kernel
theorem dX1_reach_37 : decode cX1_reach 37 = .ok (.getfield 9, 3) := by decide +kernel
theorem dX1_reach_40 : decode cX1_reach 40 = .ok (.iload_n 3, 1) := by decide +kernel
theorem dX1_reach_41 : decode cX1_reach 41 = .ok (.iaload, 1) := by decide +kernel
theorem dX1_reach_42 : decode cX1_reach 42 = .ok (.iload 4, 2) := by decide +kernel
theorem dX1_reach_44 : decode cX1_reach 44 = .ok (.ishr, 1) := by decide +kernel
theorem dX1_reach_45 : decode cX1_reach 45 = .ok (.iconst 1, 1) := by decide +kernel
theorem dX1_reach_46 : decode cX1_reach 46 = .ok (.iand, 1) := by decide +kernel
theorem dX1_reach_47 : decode cX1_reach 47 = .ok (.ifCond .ne 5, 3) := by decide +kernel
theorem dX1_reach_50 : decode cX1_reach 50 = .ok (.iconst 0, 1) := by decide +kernel
theorem dX1_reach_51 : decode cX1_reach 51 = .ok (.ireturn, 1) := by decide +kernel
theorem dX1_reach_52 : decode cX1_reach 52 = .ok (.iinc 3 1, 3) := by decide +kernel
theorem dX1_reach_55 : decode cX1_reach 55 = .ok (.goto (-53), 3) := by decide +kernel
theorem dX1_reach_58 : decode cX1_reach 58 = .ok (.iconst 0, 1) := by decide +kernel
theorem dX1_reach_59 : decode cX1_reach 59 = .ok (.istore_n 3, 1) := by decide +kernel
theorem dX1_reach_60 : decode cX1_reach 60 = .ok (.iload_n 2, 1) := by decide +kernel
theorem dX1_reach_61 : decode cX1_reach 61 = .ok (.aload_n 0, 1) := by decide +kernel
theorem dX1_reach_62 : decode cX1_reach 62 = .ok (.getfield 27, 3) := by decide +kernel
theorem dX1_reach_65 : decode cX1_reach 65 = .ok (.if_icmp .eq 18, 3) := by decide +kernel
theorem dX1_reach_68 : decode cX1_reach 68 = .ok (.aload_n 0, 1) := by decide +kernel
theorem dX1_reach_69 : decode cX1_reach 69 = .ok (.getfield 31, 3) := by decide +kernel
theorem dX1_reach_72 : decode cX1_reach 72 = .ok (.ifCond .eq 15, 3) := by decide +kernel
theorem dX1_reach_75 : decode cX1_reach 75 = .ok (.iload_n 2, 1) := by decide +kernel
theorem dX1_reach_76 : decode cX1_reach 76 = .ok (.aload_n 0, 1) := by decide +kernel
theorem dX1_reach_77 : decode cX1_reach 77 = .ok (.getfield 27, 3) := by decide +kernel
theorem dX1_reach_80 : decode cX1_reach 80 = .ok (.if_icmp .le 7, 3) := by decide +kernel
theorem dX1_reach_83 : decode cX1_reach 83 = .ok (.iload_n 3, 1) := by decide +kernel
theorem dX1_reach_84 : decode cX1_reach 84 = .ok (.iconst 1, 1) := by decide +kernel
theorem dX1_reach_85 : decode cX1_reach 85 = .ok (.ior, 1) := by decide +kernel
theorem dX1_reach_86 : decode cX1_reach 86 = .ok (.istore_n 3, 1) := by decide +kernel
theorem dX1_reach_87 : decode cX1_reach 87 = .ok (.iload_n 2, 1) := by decide +kernel
theorem dX1_reach_88 : decode cX1_reach 88 = .ok (.aload_n 0, 1) := by decide +kernel
theorem dX1_reach_89 : decode cX1_reach 89 = .ok (.getfield 27, 3) := by decide +kernel
theorem dX1_reach_92 : decode cX1_reach 92 = .ok (.if_icmp .lt 16, 3) := by decide +kernel
theorem dX1_reach_95 : decode cX1_reach 95 = .ok (.aload_n 0, 1) := by decide +kernel
theorem dX1_reach_96 : decode cX1_reach 96 = .ok (.getfield 31, 3) := by decide +kernel
theorem dX1_reach_99 : decode cX1_reach 99 = .ok (.ifCond .eq 13, 3) := by decide +kernel
theorem dX1_reach_102 : decode cX1_reach 102 = .ok (.iload_n 2, 1) := by decide +kernel
theorem dX1_reach_103 : decode cX1_reach 103 = .ok (.bipush 10, 2) := by decide +kernel
theorem dX1_reach_105 : decode cX1_reach 105 = .ok (.if_icmp .ge 7, 3) := by decide +kernel
theorem dX1_reach_108 : decode cX1_reach 108 = .ok (.iload_n 3, 1) := by decide +kernel
theorem dX1_reach_109 : decode cX1_reach 109 = .ok (.iconst 2, 1) := by decide +kernel
theorem dX1_reach_110 : decode cX1_reach 110 = .ok (.ior, 1) := by decide +kernel
theorem dX1_reach_111 : decode cX1_reach 111 = .ok (.istore_n 3, 1) := by decide +kernel
theorem dX1_reach_112 : decode cX1_reach 112 = .ok (.iload_n 3, 1) := by decide +kernel
theorem dX1_reach_113 : decode cX1_reach 113 = .ok (.ireturn, 1) := by decide +kernel
theorem dX1_doesLike_0 : decode cX1_doesLike 0 = .ok (.aload_n 0, 1) := by decide +kernel
theorem dX1_doesLike_1 : decode cX1_doesLike 1 = .ok (.getfield 35, 3) := by decide +kernel
theorem dX1_doesLike_4 : decode cX1_doesLike 4 = .ok (.aload_n 1, 1) := by decide +kernel
theorem dX1_doesLike_5 : decode cX1_doesLike 5 = .ok (.getfield 35, 3) := by decide +kernel
theorem dX1_doesLike_8 : decode cX1_doesLike 8 = .ok (.if_icmp .ne 32, 3) := by decide +kernel
theorem dX1_doesLike_11 : decode cX1_doesLike 11 = .ok (.aload_n 0, 1) := by decide +kernel
theorem dX1_doesLike_12 : decode cX1_doesLike 12 = .ok (.getfield 38, 3) := by decide +kernel
theorem dX1_doesLike_15 : decode cX1_doesLike 15 = .ok (.aload_n 1, 1) := by decide +kernel
theorem dX1_doesLike_16 : decode cX1_doesLike 16 = .ok (.getfield 38, 3) := by decide +kernel
theorem dX1_doesLike_19 : decode cX1_doesLike 19 = .ok (.if_icmp .ne 21, 3) := by decide +kernel
theorem dX1_doesLike_22 : decode cX1_doesLike 22 = .ok (.aload_n 0, 1) := by decide +kernel
theorem dX1_doesLike_23 : decode cX1_doesLike 23 = .ok (.getfield 23, 3) := by decide +kernel
theorem dX1_doesLike_26 : decode cX1_doesLike 26 = .ok (.aload_n 1, 1) := by decide +kernel
theorem dX1_doesLike_27 : decode cX1_doesLike 27 = .ok (.getfield 23, 3) := by decide +kernel
theorem dX1_doesLike_30 : decode cX1_doesLike 30 = .ok (.invokevirtual 67, 3) := by decide +kernel
theorem dX1_doesLike_33 : decode cX1_doesLike 33 = .ok (.ifCond .eq 7, 3) := by decide +kernel
theorem dX1_doesLike_36 : decode cX1_doesLike 36 = .ok (.iconst 1, 1) := by decide +kernel
theorem dX1_doesLike_37 : decode cX1_doesLike 37 = .ok (.goto 4, 3) := by decide +kernel
theorem dX1_doesLike_40 : decode cX1_doesLike 40 = .ok (.iconst 0, 1) := by decide +kernel
theorem dX1_doesLike_41 : decode cX1_doesLike 41 = .ok (.ireturn, 1) := by decide +kernel
theorem dX1_clashesWith_0 : decode cX1_clashesWith 0 = .ok (.aload_n 0, 1) := by decide +kernel
theorem dX1_clashesWith_1 : decode cX1_clashesWith 1 = .ok (.aload_n 1, 1) := by decide +kernel
theorem dX1_clashesWith_2 : decode cX1_clashesWith 2 = .ok (.invokevirtual 71, 3) := by decide +kernel
theorem dX1_clashesWith_5 : decode cX1_clashesWith 5 = .ok (.ifCond .ne 31, 3) := by decide +kernel
theorem dX1_clashesWith_8 : decode cX1_clashesWith 8 = .ok (.aload_n 1, 1) := by decide +kernel
theorem dX1_clashesWith_9 : decode cX1_clashesWith 9 = .ok (.aload_n 0, 1) := by decide +kernel
theorem dX1_clashesWith_10 : decode cX1_clashesWith 10 = .ok (.invokevirtual 71, 3) := by decide +kernel
theorem dX1_clashesWith_13 : decode cX1_clashesWith 13 = .ok (.ifCond .ne 23, 3) := by decide +kernel
theorem dX1_clashesWith_16 : decode cX1_clashesWith 16 = .ok (.aload_n 0, 1) := by decide +kernel
theorem dX1_clashesWith_17 : decode cX1_clashesWith 17 = .ok (.aload_n 1, 1) := by decide +kernel
theorem dX1_clashesWith_18 : decode cX1_clashesWith 18 = .ok (.invokevirtual 75, 3) := by decide +kernel
theorem dX1_clashesWith_21 : decode cX1_clashesWith 21 = .ok (.ifCond .eq 15, 3) := by decide +kernel
theorem dX1_clashesWith_24 : decode cX1_clashesWith 24 = .ok (.aload_n 0, 1) := by decide +kernel
theorem dX1_clashesWith_25 : decode cX1_clashesWith 25 = .ok (.aload_n 1, 1) := by decide +kernel
theorem dX1_clashesWith_26 : decode cX1_clashesWith 26 = .ok (.invokevirtual 78, 3) := by decide +kernel
theorem dX1_clashesWith_29 : decode cX1_clashesWith 29 = .ok (.ifCond .ne 7, 3) := by decide +kernel
theorem dX1_clashesWith_32 : decode cX1_clashesWith 32 = .ok (.iconst 1, 1) := by decide +kernel
theorem dX1_clashesWith_33 : decode cX1_clashesWith 33 = .ok (.goto 4, 3) := by decide +kernel
theorem dX1_clashesWith_36 : decode cX1_clashesWith 36 = .ok (.iconst 0, 1) := by decide +kernel
theorem dX1_clashesWith_37 : decode cX1_clashesWith 37 = .ok (.ireturn, 1) := by decide +kernel
theorem dX1_sharesRowWith_0 : decode cX1_sharesRowWith 0 = .ok (.iconst 0, 1) := by decide +kernel
theorem dX1_sharesRowWith_1 : decode cX1_sharesRowWith 1 = .ok (.istore_n 2, 1) := by decide +kernel
theorem dX1_sharesRowWith_2 : decode cX1_sharesRowWith 2 = .ok (.iload_n 2, 1) := by decide +kernel
theorem dX1_sharesRowWith_3 : decode cX1_sharesRowWith 3 = .ok (.aload_n 0, 1) := by decide +kernel
theorem dX1_sharesRowWith_4 : decode cX1_sharesRowWith 4 = .ok (.getfield 27, 3) := by decide +kernel
theorem dX1_sharesRowWith_7 : decode cX1_sharesRowWith 7 = .ok (.if_icmp .ge 25, 3) := by decide +kernel
theorem dX1_sharesRowWith_10 : decode cX1_sharesRowWith 10 = .ok (.aload_n 0, 1) := by decide +kernel
theorem dX1_sharesRowWith_11 : decode cX1_sharesRowWith 11 = .ok (.iload_n 2, 1) := by decide +kernel
theorem dX1_sharesRowWith_12 : decode cX1_sharesRowWith 12 = .ok (.invokevirtual 81, 3) := by decide +kernel
theorem dX1_sharesRowWith_15 : decode cX1_sharesRowWith 15 = .ok (.aload_n 1, 1) := by decide +kernel
theorem dX1_sharesRowWith_16 : decode cX1_sharesRowWith 16 = .ok (.iload_n 2, 1) := by decide +kernel
theorem dX1_sharesRowWith_17 : decode cX1_sharesRowWith 17 = .ok (.invokevirtual 81, 3) := by decide +kernel
theorem dX1_sharesRowWith_20 : decode cX1_sharesRowWith 20 = .ok (.iand, 1) := by decide +kernel
theorem dX1_sharesRowWith_21 : decode cX1_sharesRowWith 21 = .ok (.ifCond .ne 5, 3) := by decide +kernel
theorem dX1_sharesRowWith_24 : decode cX1_sharesRowWith 24 = .ok (.iconst 0, 1) := by decide +kernel
theorem dX1_sharesRowWith_25 : decode cX1_sharesRowWith 25 = .ok (.ireturn, 1) := by decide +kernel
theorem dX1_sharesRowWith_26 : decode cX1_sharesRowWith 26 = .ok (.iinc 2 1, 3) := by decide +kernel
theorem dX1_sharesRowWith_29 : decode cX1_sharesRowWith 29 = .ok (.goto (-27), 3) := by decide +kernel
theorem dX1_sharesRowWith_32 : decode cX1_sharesRowWith 32 = .ok (.iconst 1, 1) := by decide +kernel
theorem dX1_sharesRowWith_33 : decode cX1_sharesRowWith 33 = .ok (.ireturn, 1) := by decide +kernel
theorem dX2_init_0 : decode cX2_init 0 = .ok (.aload_n 0, 1) := by decide +kernel
theorem dX2_init_1 : decode cX2_init 1 = .ok (.invokespecial 3, 3) := by decide +kernel
theorem dX2_init_4 : decode cX2_init 4 = .ok (.aload_n 0, 1) := by decide +kernel
theorem dX2_init_5 : decode cX2_init 5 = .ok (.new 9, 3) := by decide +kernel
theorem dX2_init_8 : decode cX2_init 8 = .ok (.dup, 1) := by decide +kernel
theorem dX2_init_9 : decode cX2_init 9 = .ok (.invokespecial 11, 3) := by decide +kernel
theorem dX2_init_12 : decode cX2_init 12 = .ok (.putfield 12, 3) := by decide +kernel
theorem dX2_init_15 : decode cX2_init 15 = .ok (.return_, 1) := by decide +kernel
theorem dX2_draft_0 : decode cX2_draft 0 = .ok (.aload_n 0, 1) := by decide +kernel
theorem dX2_draft_1 : decode cX2_draft 1 = .ok (.getfield 12, 3) := by decide +kernel
theorem dX2_draft_4 : decode cX2_draft 4 = .ok (.areturn, 1) := by decide +kernel
theorem dX2_isWhole_0 : decode cX2_isWhole 0 = .ok (.aload_n 0, 1) := by decide +kernel
theorem dX2_isWhole_1 : decode cX2_isWhole 1 = .ok (.getfield 18, 3) := by decide +kernel
theorem dX2_isWhole_4 : decode cX2_isWhole 4 = .ok (.bipush 9, 2) := by decide +kernel
theorem dX2_isWhole_6 : decode cX2_isWhole 6 = .ok (.if_icmp .ne 7, 3) := by decide +kernel
theorem dX2_isWhole_9 : decode cX2_isWhole 9 = .ok (.iconst 1, 1) := by decide +kernel
theorem dX2_isWhole_10 : decode cX2_isWhole 10 = .ok (.goto 4, 3) := by decide +kernel
theorem dX2_isWhole_13 : decode cX2_isWhole 13 = .ok (.iconst 0, 1) := by decide +kernel
theorem dX2_isWhole_14 : decode cX2_isWhole 14 = .ok (.ireturn, 1) := by decide +kernel
theorem dX2_scan_0 : decode cX2_scan 0 = .ok (.aload_n 0, 1) := by decide +kernel
theorem dX2_scan_1 : decode cX2_scan 1 = .ok (.getfield 12, 3) := by decide +kernel
theorem dX2_scan_4 : decode cX2_scan 4 = .ok (.invokevirtual 22, 3) := by decide +kernel
theorem dX2_scan_7 : decode cX2_scan 7 = .ok (.aload_n 0, 1) := by decide +kernel
theorem dX2_scan_8 : decode cX2_scan 8 = .ok (.iconst 0, 1) := by decide +kernel
theorem dX2_scan_9 : decode cX2_scan 9 = .ok (.putfield 18, 3) := by decide +kernel
theorem dX2_scan_12 : decode cX2_scan 12 = .ok (.iconst 0, 1) := by decide +kernel
theorem dX2_scan_13 : decode cX2_scan 13 = .ok (.istore_n 2, 1) := by decide +kernel
theorem dX2_scan_14 : decode cX2_scan 14 = .ok (.iload_n 2, 1) := by decide +kernel
theorem dX2_scan_15 : decode cX2_scan 15 = .ok (.aload_n 1, 1) := by decide +kernel
theorem dX2_scan_16 : decode cX2_scan 16 = .ok (.invokevirtual 25, 3) := by decide +kernel
theorem dX2_scan_19 : decode cX2_scan 19 = .ok (.if_icmp .ge 23, 3) := by decide +kernel
theorem dX2_scan_22 : decode cX2_scan 22 = .ok (.aload_n 0, 1) := by decide +kernel
theorem dX2_scan_23 : decode cX2_scan 23 = .ok (.aload_n 1, 1) := by decide +kernel
theorem dX2_scan_24 : decode cX2_scan 24 = .ok (.iload_n 2, 1) := by decide +kernel
theorem dX2_scan_25 : decode cX2_scan 25 = .ok (.invokevirtual 31, 3) := by decide +kernel
theorem dX2_scan_28 : decode cX2_scan 28 = .ok (.invokevirtual 35, 3) := by decide +kernel
theorem dX2_scan_31 : decode cX2_scan 31 = .ok (.ifCond .ne 5, 3) := by decide +kernel
theorem dX2_scan_34 : decode cX2_scan 34 = .ok (.iload_n 2, 1) := by decide +kernel
theorem dX2_scan_35 : decode cX2_scan 35 = .ok (.ireturn, 1) := by decide +kernel
theorem dX2_scan_36 : decode cX2_scan 36 = .ok (.iinc 2 1, 3) := by decide +kernel
theorem dX2_scan_39 : decode cX2_scan 39 = .ok (.goto (-25), 3) := by decide +kernel
theorem dX2_scan_42 : decode cX2_scan 42 = .ok (.aload_n 1, 1) := by decide +kernel
theorem dX2_scan_43 : decode cX2_scan 43 = .ok (.invokevirtual 25, 3) := by decide +kernel
theorem dX2_scan_46 : decode cX2_scan 46 = .ok (.ireturn, 1) := by decide +kernel
theorem dX2_take_0 : decode cX2_take 0 = .ok (.aload_n 0, 1) := by decide +kernel
theorem dX2_take_1 : decode cX2_take 1 = .ok (.getfield 18, 3) := by decide +kernel
theorem dX2_take_4 : decode cX2_take 4 = .ok (.tableswitch 117 0 8 #[52, 58, 64, 73, 79, 85, 95, 101, 111], 52) := by decide +kernel
theorem dX2_take_56 : decode cX2_take 56 = .ok (.aload_n 0, 1) := by decide +kernel
theorem dX2_take_57 : decode cX2_take 57 = .ok (.iload_n 1, 1) := by decide +kernel
theorem dX2_take_58 : decode cX2_take 58 = .ok (.invokevirtual 39, 3) := by decide +kernel
theorem dX2_take_61 : decode cX2_take 61 = .ok (.ireturn, 1) := by decide +kernel
theorem dX2_take_62 : decode cX2_take 62 = .ok (.aload_n 0, 1) := by decide +kernel
theorem dX2_take_63 : decode cX2_take 63 = .ok (.iload_n 1, 1) := by decide +kernel
theorem dX2_take_64 : decode cX2_take 64 = .ok (.invokevirtual 42, 3) := by decide +kernel
theorem dX2_take_67 : decode cX2_take 67 = .ok (.ireturn, 1) := by decide +kernel
theorem dX2_take_68 : decode cX2_take 68 = .ok (.aload_n 0, 1) := by decide +kernel
theorem dX2_take_69 : decode cX2_take 69 = .ok (.iload_n 1, 1) := by decide +kernel
theorem dX2_take_70 : decode cX2_take 70 = .ok (.bipush 45, 2) := by decide +kernel
theorem dX2_take_72 : decode cX2_take 72 = .ok (.iconst 3, 1) := by decide +kernel
theorem dX2_take_73 : decode cX2_take 73 = .ok (.invokevirtual 45, 3) := by decide +kernel
theorem dX2_take_76 : decode cX2_take 76 = .ok (.ireturn, 1) := by decide +kernel
theorem dX2_take_77 : decode cX2_take 77 = .ok (.aload_n 0, 1) := by decide +kernel
theorem dX2_take_78 : decode cX2_take 78 = .ok (.iload_n 1, 1) := by decide +kernel
theorem dX2_take_79 : decode cX2_take 79 = .ok (.invokevirtual 49, 3) := by decide +kernel
theorem dX2_take_82 : decode cX2_take 82 = .ok (.ireturn, 1) := by decide +kernel
theorem dX2_take_83 : decode cX2_take 83 = .ok (.aload_n 0, 1) := by decide +kernel
theorem dX2_take_84 : decode cX2_take 84 = .ok (.iload_n 1, 1) := by decide +kernel
theorem dX2_take_85 : decode cX2_take 85 = .ok (.invokevirtual 52, 3) := by decide +kernel
theorem dX2_take_88 : decode cX2_take 88 = .ok (.ireturn, 1) := by decide +kernel
theorem dX2_take_89 : decode cX2_take 89 = .ok (.aload_n 0, 1) := by decide +kernel
theorem dX2_take_90 : decode cX2_take 90 = .ok (.iload_n 1, 1) := by decide +kernel
theorem dX2_take_91 : decode cX2_take 91 = .ok (.bipush 61, 2) := by decide +kernel
theorem dX2_take_93 : decode cX2_take 93 = .ok (.bipush 6, 2) := by decide +kernel
theorem dX2_take_95 : decode cX2_take 95 = .ok (.invokevirtual 45, 3) := by decide +kernel
theorem dX2_take_98 : decode cX2_take 98 = .ok (.ireturn, 1) := by decide +kernel
theorem dX2_take_99 : decode cX2_take 99 = .ok (.aload_n 0, 1) := by decide +kernel
theorem dX2_take_100 : decode cX2_take 100 = .ok (.iload_n 1, 1) := by decide +kernel
theorem dX2_take_101 : decode cX2_take 101 = .ok (.invokevirtual 55, 3) := by decide +kernel
theorem dX2_take_104 : decode cX2_take 104 = .ok (.ireturn, 1) := by decide +kernel
theorem dX2_take_105 : decode cX2_take 105 = .ok (.aload_n 0, 1) := by decide +kernel
theorem dX2_take_106 : decode cX2_take 106 = .ok (.iload_n 1, 1) := by decide +kernel
theorem dX2_take_107 : decode cX2_take 107 = .ok (.bipush 58, 2) := by decide +kernel
theorem dX2_take_109 : decode cX2_take 109 = .ok (.bipush 8, 2) := by decide +kernel
theorem dX2_take_111 : decode cX2_take 111 = .ok (.invokevirtual 45, 3) := by decide +kernel
theorem dX2_take_114 : decode cX2_take 114 = .ok (.ireturn, 1) := by decide +kernel
theorem dX2_take_115 : decode cX2_take 115 = .ok (.aload_n 0, 1) := by decide +kernel
theorem dX2_take_116 : decode cX2_take 116 = .ok (.iload_n 1, 1) := by decide +kernel
theorem dX2_take_117 : decode cX2_take 117 = .ok (.invokevirtual 58, 3) := by decide +kernel
theorem dX2_take_120 : decode cX2_take 120 = .ok (.ireturn, 1) := by decide +kernel
theorem dX2_take_121 : decode cX2_take 121 = .ok (.aload_n 0, 1) := by decide +kernel
theorem dX2_take_122 : decode cX2_take 122 = .ok (.iload_n 1, 1) := by decide +kernel
theorem dX2_take_123 : decode cX2_take 123 = .ok (.invokevirtual 61, 3) := by decide +kernel
theorem dX2_take_126 : decode cX2_take 126 = .ok (.ireturn, 1) := by decide +kernel
theorem dX2_takeSign_0 : decode cX2_takeSign 0 = .ok (.iload_n 1, 1) := by decide +kernel
theorem dX2_takeSign_1 : decode cX2_takeSign 1 = .ok (.iload_n 2, 1) := by decide +kernel
theorem dX2_takeSign_2 : decode cX2_takeSign 2 = .ok (.if_icmp .eq 5, 3) := by decide +kernel
theorem dX2_takeSign_5 : decode cX2_takeSign 5 = .ok (.iconst 0, 1) := by decide +kernel
theorem dX2_takeSign_6 : decode cX2_takeSign 6 = .ok (.ireturn, 1) := by decide +kernel
theorem dX2_takeSign_7 : decode cX2_takeSign 7 = .ok (.aload_n 0, 1) := by decide +kernel
theorem dX2_takeSign_8 : decode cX2_takeSign 8 = .ok (.iload_n 3, 1) := by decide +kernel
theorem dX2_takeSign_9 : decode cX2_takeSign 9 = .ok (.putfield 18, 3) := by decide +kernel
theorem dX2_takeSign_12 : decode cX2_takeSign 12 = .ok (.iconst 1, 1) := by decide +kernel
theorem dX2_takeSign_13 : decode cX2_takeSign 13 = .ok (.ireturn, 1) := by decide +kernel
theorem dX2_takePlaceOrTail_0 : decode cX2_takePlaceOrTail 0 = .ok (.aload_n 0, 1) := by decide +kernel
theorem dX2_takePlaceOrTail_1 : decode cX2_takePlaceOrTail 1 = .ok (.getfield 12, 3) := by decide +kernel
theorem dX2_takePlaceOrTail_4 : decode cX2_takePlaceOrTail 4 = .ok (.invokevirtual 64, 3) := by decide +kernel
theorem dX2_takePlaceOrTail_7 : decode cX2_takePlaceOrTail 7 = .ok (.ifCond .le 23, 3) := by decide +kernel
theorem dX2_takePlaceOrTail_10 : decode cX2_takePlaceOrTail 10 = .ok (.iload_n 1, 1) := by decide +kernel
theorem dX2_takePlaceOrTail_11 : decode cX2_takePlaceOrTail 11 = .ok (.bipush 46, 2) := by decide +kernel
theorem dX2_takePlaceOrTail_13 : decode cX2_takePlaceOrTail 13 = .ok (.if_icmp .ne 17, 3) := by decide +kernel
theorem dX2_takePlaceOrTail_16 : decode cX2_takePlaceOrTail 16 = .ok (.aload_n 0, 1) := by decide +kernel
theorem dX2_takePlaceOrTail_17 : decode cX2_takePlaceOrTail 17 = .ok (.getfield 12, 3) := by decide +kernel
theorem dX2_takePlaceOrTail_20 : decode cX2_takePlaceOrTail 20 = .ok (.invokevirtual 67, 3) := by decide +kernel
theorem dX2_takePlaceOrTail_23 : decode cX2_takePlaceOrTail 23 = .ok (.aload_n 0, 1) := by decide +kernel
theorem dX2_takePlaceOrTail_24 : decode cX2_takePlaceOrTail 24 = .ok (.iconst 5, 1) := by decide +kernel
theorem dX2_takePlaceOrTail_25 : decode cX2_takePlaceOrTail 25 = .ok (.putfield 18, 3) := by decide +kernel
theorem dX2_takePlaceOrTail_28 : decode cX2_takePlaceOrTail 28 = .ok (.iconst 1, 1) := by decide +kernel
theorem dX2_takePlaceOrTail_29 : decode cX2_takePlaceOrTail 29 = .ok (.ireturn, 1) := by decide +kernel
theorem dX2_takePlaceOrTail_30 : decode cX2_takePlaceOrTail 30 = .ok (.aload_n 0, 1) := by decide +kernel
theorem dX2_takePlaceOrTail_31 : decode cX2_takePlaceOrTail 31 = .ok (.getfield 12, 3) := by decide +kernel
theorem dX2_takePlaceOrTail_34 : decode cX2_takePlaceOrTail 34 = .ok (.invokevirtual 64, 3) := by decide +kernel
theorem dX2_takePlaceOrTail_37 : decode cX2_takePlaceOrTail 37 = .ok (.ifCond .le 17, 3) := by decide +kernel
theorem dX2_takePlaceOrTail_40 : decode cX2_takePlaceOrTail 40 = .ok (.iload_n 1, 1) := by decide +kernel
theorem dX2_takePlaceOrTail_41 : decode cX2_takePlaceOrTail 41 = .ok (.bipush 61, 2) := by decide +kernel
theorem dX2_takePlaceOrTail_43 : decode cX2_takePlaceOrTail 43 = .ok (.if_icmp .ne 11, 3) := by decide +kernel
theorem dX2_takePlaceOrTail_46 : decode cX2_takePlaceOrTail 46 = .ok (.aload_n 0, 1) := by decide +kernel
theorem dX2_takePlaceOrTail_47 : decode cX2_takePlaceOrTail 47 = .ok (.bipush 6, 2) := by decide +kernel
theorem dX2_takePlaceOrTail_49 : decode cX2_takePlaceOrTail 49 = .ok (.putfield 18, 3) := by decide +kernel
theorem dX2_takePlaceOrTail_52 : decode cX2_takePlaceOrTail 52 = .ok (.iconst 1, 1) := by decide +kernel
theorem dX2_takePlaceOrTail_53 : decode cX2_takePlaceOrTail 53 = .ok (.ireturn, 1) := by decide +kernel
theorem dX2_takePlaceOrTail_54 : decode cX2_takePlaceOrTail 54 = .ok (.aload_n 0, 1) := by decide +kernel
theorem dX2_takePlaceOrTail_55 : decode cX2_takePlaceOrTail 55 = .ok (.getfield 12, 3) := by decide +kernel
theorem dX2_takePlaceOrTail_58 : decode cX2_takePlaceOrTail 58 = .ok (.invokevirtual 70, 3) := by decide +kernel
theorem dX2_takePlaceOrTail_61 : decode cX2_takePlaceOrTail 61 = .ok (.ifCond .eq 15, 3) := by decide +kernel
theorem dX2_takePlaceOrTail_64 : decode cX2_takePlaceOrTail 64 = .ok (.aload_n 0, 1) := by decide +kernel
theorem dX2_takePlaceOrTail_65 : decode cX2_takePlaceOrTail 65 = .ok (.iload_n 1, 1) := by decide +kernel
theorem dX2_takePlaceOrTail_66 : decode cX2_takePlaceOrTail 66 = .ok (.invokevirtual 74, 3) := by decide +kernel
theorem dX2_takePlaceOrTail_69 : decode cX2_takePlaceOrTail 69 = .ok (.ifCond .eq 7, 3) := by decide +kernel
theorem dX2_takePlaceOrTail_72 : decode cX2_takePlaceOrTail 72 = .ok (.iconst 1, 1) := by decide +kernel
theorem dX2_takePlaceOrTail_73 : decode cX2_takePlaceOrTail 73 = .ok (.goto 4, 3) := by decide +kernel
theorem dX2_takePlaceOrTail_76 : decode cX2_takePlaceOrTail 76 = .ok (.iconst 0, 1) := by decide +kernel
theorem dX2_takePlaceOrTail_77 : decode cX2_takePlaceOrTail 77 = .ok (.ireturn, 1) := by decide +kernel
theorem dX2_takePlace_0 : decode cX2_takePlace 0 = .ok (.iload_n 1, 1) := by decide +kernel
theorem dX2_takePlace_1 : decode cX2_takePlace 1 = .ok (.bipush 91, 2) := by decide +kernel
theorem dX2_takePlace_3 : decode cX2_takePlace 3 = .ok (.if_icmp .ne 11, 3) := by decide +kernel
theorem dX2_takePlace_6 : decode cX2_takePlace 6 = .ok (.aload_n 0, 1) := by decide +kernel
theorem dX2_takePlace_7 : decode cX2_takePlace 7 = .ok (.iconst 1, 1) := by decide +kernel
theorem dX2_takePlace_8 : decode cX2_takePlace 8 = .ok (.putfield 18, 3) := by decide +kernel
theorem dX2_takePlace_11 : decode cX2_takePlace 11 = .ok (.goto 68, 3) := by decide +kernel
theorem dX2_takePlace_14 : decode cX2_takePlace 14 = .ok (.iload_n 1, 1) := by decide +kernel
theorem dX2_takePlace_15 : decode cX2_takePlace 15 = .ok (.bipush 78, 2) := by decide +kernel
theorem dX2_takePlace_17 : decode cX2_takePlace 17 = .ok (.if_icmp .ne 16, 3) := by decide +kernel
theorem dX2_takePlace_20 : decode cX2_takePlace 20 = .ok (.aload_n 0, 1) := by decide +kernel
theorem dX2_takePlace_21 : decode cX2_takePlace 21 = .ok (.getfield 12, 3) := by decide +kernel
theorem dX2_takePlace_24 : decode cX2_takePlace 24 = .ok (.iconst 2, 1) := by decide +kernel
theorem dX2_takePlace_25 : decode cX2_takePlace 25 = .ok (.bipush 9, 2) := by decide +kernel
theorem dX2_takePlace_27 : decode cX2_takePlace 27 = .ok (.invokevirtual 77, 3) := by decide +kernel
theorem dX2_takePlace_30 : decode cX2_takePlace 30 = .ok (.goto 49, 3) := by decide +kernel
theorem dX2_takePlace_33 : decode cX2_takePlace 33 = .ok (.iload_n 1, 1) := by decide +kernel
theorem dX2_takePlace_34 : decode cX2_takePlace 34 = .ok (.bipush 88, 2) := by decide +kernel
theorem dX2_takePlace_36 : decode cX2_takePlace 36 = .ok (.if_icmp .ne 16, 3) := by decide +kernel
theorem dX2_takePlace_39 : decode cX2_takePlace 39 = .ok (.aload_n 0, 1) := by decide +kernel
theorem dX2_takePlace_40 : decode cX2_takePlace 40 = .ok (.getfield 12, 3) := by decide +kernel
theorem dX2_takePlace_43 : decode cX2_takePlace 43 = .ok (.iconst 0, 1) := by decide +kernel
theorem dX2_takePlace_44 : decode cX2_takePlace 44 = .ok (.bipush 9, 2) := by decide +kernel
theorem dX2_takePlace_46 : decode cX2_takePlace 46 = .ok (.invokevirtual 77, 3) := by decide +kernel
theorem dX2_takePlace_49 : decode cX2_takePlace 49 = .ok (.goto 30, 3) := by decide +kernel
theorem dX2_takePlace_52 : decode cX2_takePlace 52 = .ok (.iload_n 1, 1) := by decide +kernel
theorem dX2_takePlace_53 : decode cX2_takePlace 53 = .ok (.invokestatic 81, 3) := by decide +kernel
theorem dX2_takePlace_56 : decode cX2_takePlace 56 = .ok (.ifCond .eq 21, 3) := by decide +kernel
theorem dX2_takePlace_59 : decode cX2_takePlace 59 = .ok (.aload_n 0, 1) := by decide +kernel
theorem dX2_takePlace_60 : decode cX2_takePlace 60 = .ok (.getfield 12, 3) := by decide +kernel
theorem dX2_takePlace_63 : decode cX2_takePlace 63 = .ok (.iload_n 1, 1) := by decide +kernel
theorem dX2_takePlace_64 : decode cX2_takePlace 64 = .ok (.bipush 48, 2) := by decide +kernel
theorem dX2_takePlace_66 : decode cX2_takePlace 66 = .ok (.isub, 1) := by decide +kernel
theorem dX2_takePlace_67 : decode cX2_takePlace 67 = .ok (.iload_n 1, 1) := by decide +kernel
theorem dX2_takePlace_68 : decode cX2_takePlace 68 = .ok (.bipush 48, 2) := by decide +kernel
theorem dX2_takePlace_70 : decode cX2_takePlace 70 = .ok (.isub, 1) := by decide +kernel
theorem dX2_takePlace_71 : decode cX2_takePlace 71 = .ok (.invokevirtual 77, 3) := by decide +kernel
theorem dX2_takePlace_74 : decode cX2_takePlace 74 = .ok (.goto 5, 3) := by decide +kernel
theorem dX2_takePlace_77 : decode cX2_takePlace 77 = .ok (.iconst 0, 1) := by decide +kernel
theorem dX2_takePlace_78 : decode cX2_takePlace 78 = .ok (.ireturn, 1) := by decide +kernel
theorem dX2_takePlace_79 : decode cX2_takePlace 79 = .ok (.iconst 1, 1) := by decide +kernel
theorem dX2_takePlace_80 : decode cX2_takePlace 80 = .ok (.ireturn, 1) := by decide +kernel
theorem dX2_takeLow_0 : decode cX2_takeLow 0 = .ok (.iload_n 1, 1) := by decide +kernel
theorem dX2_takeLow_1 : decode cX2_takeLow 1 = .ok (.invokestatic 81, 3) := by decide +kernel
theorem dX2_takeLow_4 : decode cX2_takeLow 4 = .ok (.ifCond .eq 9, 3) := by decide +kernel
theorem dX2_takeLow_7 : decode cX2_takeLow 7 = .ok (.iload_n 1, 1) := by decide +kernel
theorem dX2_takeLow_8 : decode cX2_takeLow 8 = .ok (.bipush 57, 2) := by decide +kernel
theorem dX2_takeLow_10 : decode cX2_takeLow 10 = .ok (.if_icmp .ne 5, 3) := by decide +kernel
theorem dX2_takeLow_13 : decode cX2_takeLow 13 = .ok (.iconst 0, 1) := by decide +kernel
theorem dX2_takeLow_14 : decode cX2_takeLow 14 = .ok (.ireturn, 1) := by decide +kernel
theorem dX2_takeLow_15 : decode cX2_takeLow 15 = .ok (.aload_n 0, 1) := by decide +kernel
theorem dX2_takeLow_16 : decode cX2_takeLow 16 = .ok (.iload_n 1, 1) := by decide +kernel
theorem dX2_takeLow_17 : decode cX2_takeLow 17 = .ok (.bipush 48, 2) := by decide +kernel
theorem dX2_takeLow_19 : decode cX2_takeLow 19 = .ok (.isub, 1) := by decide +kernel
theorem dX2_takeLow_20 : decode cX2_takeLow 20 = .ok (.putfield 84, 3) := by decide +kernel
theorem dX2_takeLow_23 : decode cX2_takeLow 23 = .ok (.aload_n 0, 1) := by decide +kernel
theorem dX2_takeLow_24 : decode cX2_takeLow 24 = .ok (.iconst 2, 1) := by decide +kernel
theorem dX2_takeLow_25 : decode cX2_takeLow 25 = .ok (.putfield 18, 3) := by decide +kernel
theorem dX2_takeLow_28 : decode cX2_takeLow 28 = .ok (.iconst 1, 1) := by decide +kernel
theorem dX2_takeLow_29 : decode cX2_takeLow 29 = .ok (.ireturn, 1) := by decide +kernel
theorem dX2_takeHigh_0 : decode cX2_takeHigh 0 = .ok (.iload_n 1, 1) := by decide +kernel
theorem dX2_takeHigh_1 : decode cX2_takeHigh 1 = .ok (.invokestatic 81, 3) := by decide +kernel
theorem dX2_takeHigh_4 : decode cX2_takeHigh 4 = .ok (.ifCond .eq 14, 3) := by decide +kernel
theorem dX2_takeHigh_7 : decode cX2_takeHigh 7 = .ok (.iload_n 1, 1) := by decide +kernel
theorem dX2_takeHigh_8 : decode cX2_takeHigh 8 = .ok (.bipush 48, 2) := by decide +kernel
theorem dX2_takeHigh_10 : decode cX2_takeHigh 10 = .ok (.isub, 1) := by decide +kernel
theorem dX2_takeHigh_11 : decode cX2_takeHigh 11 = .ok (.aload_n 0, 1) := by decide +kernel
theorem dX2_takeHigh_12 : decode cX2_takeHigh 12 = .ok (.getfield 84, 3) := by decide +kernel
theorem dX2_takeHigh_15 : decode cX2_takeHigh 15 = .ok (.if_icmp .gt 5, 3) := by decide +kernel
theorem dX2_takeHigh_18 : decode cX2_takeHigh 18 = .ok (.iconst 0, 1) := by decide +kernel
theorem dX2_takeHigh_19 : decode cX2_takeHigh 19 = .ok (.ireturn, 1) := by decide +kernel
theorem dX2_takeHigh_20 : decode cX2_takeHigh 20 = .ok (.aload_n 0, 1) := by decide +kernel
theorem dX2_takeHigh_21 : decode cX2_takeHigh 21 = .ok (.iload_n 1, 1) := by decide +kernel
theorem dX2_takeHigh_22 : decode cX2_takeHigh 22 = .ok (.bipush 48, 2) := by decide +kernel
theorem dX2_takeHigh_24 : decode cX2_takeHigh 24 = .ok (.isub, 1) := by decide +kernel
theorem dX2_takeHigh_25 : decode cX2_takeHigh 25 = .ok (.putfield 87, 3) := by decide +kernel
theorem dX2_takeHigh_28 : decode cX2_takeHigh 28 = .ok (.aload_n 0, 1) := by decide +kernel
theorem dX2_takeHigh_29 : decode cX2_takeHigh 29 = .ok (.iconst 4, 1) := by decide +kernel
theorem dX2_takeHigh_30 : decode cX2_takeHigh 30 = .ok (.putfield 18, 3) := by decide +kernel
theorem dX2_takeHigh_33 : decode cX2_takeHigh 33 = .ok (.iconst 1, 1) := by decide +kernel
theorem dX2_takeHigh_34 : decode cX2_takeHigh 34 = .ok (.ireturn, 1) := by decide +kernel
theorem dX2_takeBracket_0 : decode cX2_takeBracket 0 = .ok (.iload_n 1, 1) := by decide +kernel
theorem dX2_takeBracket_1 : decode cX2_takeBracket 1 = .ok (.bipush 93, 2) := by decide +kernel
theorem dX2_takeBracket_3 : decode cX2_takeBracket 3 = .ok (.if_icmp .eq 5, 3) := by decide +kernel
theorem dX2_takeBracket_6 : decode cX2_takeBracket 6 = .ok (.iconst 0, 1) := by decide +kernel
theorem dX2_takeBracket_7 : decode cX2_takeBracket 7 = .ok (.ireturn, 1) := by decide +kernel
theorem dX2_takeBracket_8 : decode cX2_takeBracket 8 = .ok (.aload_n 0, 1) := by decide +kernel
theorem dX2_takeBracket_9 : decode cX2_takeBracket 9 = .ok (.getfield 12, 3) := by decide +kernel
theorem dX2_takeBracket_12 : decode cX2_takeBracket 12 = .ok (.aload_n 0, 1) := by decide +kernel
theorem dX2_takeBracket_13 : decode cX2_takeBracket 13 = .ok (.getfield 84, 3) := by decide +kernel
theorem dX2_takeBracket_16 : decode cX2_takeBracket 16 = .ok (.aload_n 0, 1) := by decide +kernel
theorem dX2_takeBracket_17 : decode cX2_takeBracket 17 = .ok (.getfield 87, 3) := by decide +kernel
theorem dX2_takeBracket_20 : decode cX2_takeBracket 20 = .ok (.invokevirtual 77, 3) := by decide +kernel
theorem dX2_takeBracket_23 : decode cX2_takeBracket 23 = .ok (.aload_n 0, 1) := by decide +kernel
theorem dX2_takeBracket_24 : decode cX2_takeBracket 24 = .ok (.iconst 0, 1) := by decide +kernel
theorem dX2_takeBracket_25 : decode cX2_takeBracket 25 = .ok (.putfield 18, 3) := by decide +kernel
theorem dX2_takeBracket_28 : decode cX2_takeBracket 28 = .ok (.iconst 1, 1) := by decide +kernel
theorem dX2_takeBracket_29 : decode cX2_takeBracket 29 = .ok (.ireturn, 1) := by decide +kernel
theorem dX2_takeWay_0 : decode cX2_takeWay 0 = .ok (.iload_n 1, 1) := by decide +kernel
theorem dX2_takeWay_1 : decode cX2_takeWay 1 = .ok (.invokestatic 90, 3) := by decide +kernel
theorem dX2_takeWay_4 : decode cX2_takeWay 4 = .ok (.istore_n 2, 1) := by decide +kernel
theorem dX2_takeWay_5 : decode cX2_takeWay 5 = .ok (.iload_n 2, 1) := by decide +kernel
theorem dX2_takeWay_6 : decode cX2_takeWay 6 = .ok (.iconst (-1), 1) := by decide +kernel
theorem dX2_takeWay_7 : decode cX2_takeWay 7 = .ok (.if_icmp .ne 5, 3) := by decide +kernel
theorem dX2_takeWay_10 : decode cX2_takeWay 10 = .ok (.iconst 0, 1) := by decide +kernel
theorem dX2_takeWay_11 : decode cX2_takeWay 11 = .ok (.ireturn, 1) := by decide +kernel
theorem dX2_takeWay_12 : decode cX2_takeWay 12 = .ok (.aload_n 0, 1) := by decide +kernel
theorem dX2_takeWay_13 : decode cX2_takeWay 13 = .ok (.getfield 12, 3) := by decide +kernel
theorem dX2_takeWay_16 : decode cX2_takeWay 16 = .ok (.iload_n 2, 1) := by decide +kernel
theorem dX2_takeWay_17 : decode cX2_takeWay 17 = .ok (.invokevirtual 93, 3) := by decide +kernel
theorem dX2_takeWay_20 : decode cX2_takeWay 20 = .ok (.aload_n 0, 1) := by decide +kernel
theorem dX2_takeWay_21 : decode cX2_takeWay 21 = .ok (.bipush 7, 2) := by decide +kernel
theorem dX2_takeWay_23 : decode cX2_takeWay 23 = .ok (.putfield 18, 3) := by decide +kernel
theorem dX2_takeWay_26 : decode cX2_takeWay 26 = .ok (.iconst 1, 1) := by decide +kernel
theorem dX2_takeWay_27 : decode cX2_takeWay 27 = .ok (.ireturn, 1) := by decide +kernel
theorem dX2_wayOf_0 : decode cX2_wayOf 0 = .ok (.iload_n 0, 1) := by decide +kernel
theorem dX2_wayOf_1 : decode cX2_wayOf 1 = .ok (.bipush 97, 2) := by decide +kernel
theorem dX2_wayOf_3 : decode cX2_wayOf 3 = .ok (.if_icmp .lt 14, 3) := by decide +kernel
theorem dX2_wayOf_6 : decode cX2_wayOf 6 = .ok (.iload_n 0, 1) := by decide +kernel
theorem dX2_wayOf_7 : decode cX2_wayOf 7 = .ok (.bipush 104, 2) := by decide +kernel
theorem dX2_wayOf_9 : decode cX2_wayOf 9 = .ok (.if_icmp .gt 8, 3) := by decide +kernel
theorem dX2_wayOf_12 : decode cX2_wayOf 12 = .ok (.iload_n 0, 1) := by decide +kernel
theorem dX2_wayOf_13 : decode cX2_wayOf 13 = .ok (.bipush 97, 2) := by decide +kernel
theorem dX2_wayOf_15 : decode cX2_wayOf 15 = .ok (.isub, 1) := by decide +kernel
theorem dX2_wayOf_16 : decode cX2_wayOf 16 = .ok (.ireturn, 1) := by decide +kernel
theorem dX2_wayOf_17 : decode cX2_wayOf 17 = .ok (.iload_n 0, 1) := by decide +kernel
theorem dX2_wayOf_18 : decode cX2_wayOf 18 = .ok (.lookupswitch 43 #[(33, 37), (42, 40), (45, 34)], 34) := by decide +kernel
theorem dX2_wayOf_52 : decode cX2_wayOf 52 = .ok (.bipush 8, 2) := by decide +kernel
theorem dX2_wayOf_54 : decode cX2_wayOf 54 = .ok (.ireturn, 1) := by decide +kernel
theorem dX2_wayOf_55 : decode cX2_wayOf 55 = .ok (.bipush 9, 2) := by decide +kernel
theorem dX2_wayOf_57 : decode cX2_wayOf 57 = .ok (.ireturn, 1) := by decide +kernel
theorem dX2_wayOf_58 : decode cX2_wayOf 58 = .ok (.bipush 10, 2) := by decide +kernel
theorem dX2_wayOf_60 : decode cX2_wayOf 60 = .ok (.ireturn, 1) := by decide +kernel
theorem dX2_wayOf_61 : decode cX2_wayOf 61 = .ok (.iconst (-1), 1) := by decide +kernel
theorem dX2_wayOf_62 : decode cX2_wayOf 62 = .ok (.ireturn, 1) := by decide +kernel
theorem dX2_takeDrop_0 : decode cX2_takeDrop 0 = .ok (.iload_n 1, 1) := by decide +kernel
theorem dX2_takeDrop_1 : decode cX2_takeDrop 1 = .ok (.invokestatic 81, 3) := by decide +kernel
theorem dX2_takeDrop_4 : decode cX2_takeDrop 4 = .ok (.ifCond .eq 17, 3) := by decide +kernel
theorem dX2_takeDrop_7 : decode cX2_takeDrop 7 = .ok (.iload_n 1, 1) := by decide +kernel
theorem dX2_takeDrop_8 : decode cX2_takeDrop 8 = .ok (.bipush 48, 2) := by decide +kernel
theorem dX2_takeDrop_10 : decode cX2_takeDrop 10 = .ok (.isub, 1) := by decide +kernel
theorem dX2_takeDrop_11 : decode cX2_takeDrop 11 = .ok (.aload_n 0, 1) := by decide +kernel
theorem dX2_takeDrop_12 : decode cX2_takeDrop 12 = .ok (.getfield 12, 3) := by decide +kernel
theorem dX2_takeDrop_15 : decode cX2_takeDrop 15 = .ok (.invokevirtual 64, 3) := by decide +kernel
theorem dX2_takeDrop_18 : decode cX2_takeDrop 18 = .ok (.if_icmp .le 5, 3) := by decide +kernel
theorem dX2_takeDrop_21 : decode cX2_takeDrop 21 = .ok (.iconst 0, 1) := by decide +kernel
theorem dX2_takeDrop_22 : decode cX2_takeDrop 22 = .ok (.ireturn, 1) := by decide +kernel
theorem dX2_takeDrop_23 : decode cX2_takeDrop 23 = .ok (.aload_n 0, 1) := by decide +kernel
theorem dX2_takeDrop_24 : decode cX2_takeDrop 24 = .ok (.getfield 12, 3) := by decide +kernel
theorem dX2_takeDrop_27 : decode cX2_takeDrop 27 = .ok (.iload_n 1, 1) := by decide +kernel
theorem dX2_takeDrop_28 : decode cX2_takeDrop 28 = .ok (.bipush 48, 2) := by decide +kernel
theorem dX2_takeDrop_30 : decode cX2_takeDrop 30 = .ok (.isub, 1) := by decide +kernel
theorem dX2_takeDrop_31 : decode cX2_takeDrop 31 = .ok (.invokevirtual 97, 3) := by decide +kernel
theorem dX2_takeDrop_34 : decode cX2_takeDrop 34 = .ok (.aload_n 0, 1) := by decide +kernel
theorem dX2_takeDrop_35 : decode cX2_takeDrop 35 = .ok (.bipush 9, 2) := by decide +kernel
theorem dX2_takeDrop_37 : decode cX2_takeDrop 37 = .ok (.putfield 18, 3) := by decide +kernel
theorem dX2_takeDrop_40 : decode cX2_takeDrop 40 = .ok (.iconst 1, 1) := by decide +kernel
theorem dX2_takeDrop_41 : decode cX2_takeDrop 41 = .ok (.ireturn, 1) := by decide +kernel
theorem dX2_takeAhead_0 : decode cX2_takeAhead 0 = .ok (.iload_n 1, 1) := by decide +kernel
theorem dX2_takeAhead_1 : decode cX2_takeAhead 1 = .ok (.invokestatic 81, 3) := by decide +kernel
theorem dX2_takeAhead_4 : decode cX2_takeAhead 4 = .ok (.ifCond .eq 24, 3) := by decide +kernel
theorem dX2_takeAhead_7 : decode cX2_takeAhead 7 = .ok (.aload_n 0, 1) := by decide +kernel
theorem dX2_takeAhead_8 : decode cX2_takeAhead 8 = .ok (.getfield 12, 3) := by decide +kernel
theorem dX2_takeAhead_11 : decode cX2_takeAhead 11 = .ok (.invokevirtual 100, 3) := by decide +kernel
theorem dX2_takeAhead_14 : decode cX2_takeAhead 14 = .ok (.iload_n 1, 1) := by decide +kernel
theorem dX2_takeAhead_15 : decode cX2_takeAhead 15 = .ok (.bipush 48, 2) := by decide +kernel
theorem dX2_takeAhead_17 : decode cX2_takeAhead 17 = .ok (.isub, 1) := by decide +kernel
theorem dX2_takeAhead_18 : decode cX2_takeAhead 18 = .ok (.invokevirtual 104, 3) := by decide +kernel
theorem dX2_takeAhead_21 : decode cX2_takeAhead 21 = .ok (.ifCond .eq 7, 3) := by decide +kernel
theorem dX2_takeAhead_24 : decode cX2_takeAhead 24 = .ok (.iconst 1, 1) := by decide +kernel
theorem dX2_takeAhead_25 : decode cX2_takeAhead 25 = .ok (.goto 4, 3) := by decide +kernel
theorem dX2_takeAhead_28 : decode cX2_takeAhead 28 = .ok (.iconst 0, 1) := by decide +kernel
theorem dX2_takeAhead_29 : decode cX2_takeAhead 29 = .ok (.ireturn, 1) := by decide +kernel
theorem dX3_init_0 : decode cX3_init 0 = .ok (.aload_n 0, 1) := by decide +kernel
theorem dX3_init_1 : decode cX3_init 1 = .ok (.invokespecial 3, 3) := by decide +kernel
theorem dX3_init_4 : decode cX3_init 4 = .ok (.aload_n 0, 1) := by decide +kernel
theorem dX3_init_5 : decode cX3_init 5 = .ok (.bipush 10, 2) := by decide +kernel
theorem dX3_init_7 : decode cX3_init 7 = .ok (.anewarray 9, 3) := by decide +kernel
theorem dX3_init_10 : decode cX3_init 10 = .ok (.putfield 11, 3) := by decide +kernel
theorem dX3_init_13 : decode cX3_init 13 = .ok (.iconst 0, 1) := by decide +kernel
theorem dX3_init_14 : decode cX3_init 14 = .ok (.istore_n 1, 1) := by decide +kernel
theorem dX3_init_15 : decode cX3_init 15 = .ok (.iload_n 1, 1) := by decide +kernel
theorem dX3_init_16 : decode cX3_init 16 = .ok (.aload_n 0, 1) := by decide +kernel
theorem dX3_init_17 : decode cX3_init 17 = .ok (.getfield 11, 3) := by decide +kernel
theorem dX3_init_20 : decode cX3_init 20 = .ok (.arraylength, 1) := by decide +kernel
theorem dX3_init_21 : decode cX3_init 21 = .ok (.if_icmp .ge 22, 3) := by decide +kernel
theorem dX3_init_24 : decode cX3_init 24 = .ok (.aload_n 0, 1) := by decide +kernel
theorem dX3_init_25 : decode cX3_init 25 = .ok (.getfield 11, 3) := by decide +kernel
theorem dX3_init_28 : decode cX3_init 28 = .ok (.iload_n 1, 1) := by decide +kernel
theorem dX3_init_29 : decode cX3_init 29 = .ok (.new 9, 3) := by decide +kernel
theorem dX3_init_32 : decode cX3_init 32 = .ok (.dup, 1) := by decide +kernel
theorem dX3_init_33 : decode cX3_init 33 = .ok (.invokespecial 17, 3) := by decide +kernel
theorem dX3_init_36 : decode cX3_init 36 = .ok (.aastore, 1) := by decide +kernel
theorem dX3_init_37 : decode cX3_init 37 = .ok (.iinc 1 1, 3) := by decide +kernel
theorem dX3_init_40 : decode cX3_init 40 = .ok (.goto (-25), 3) := by decide +kernel
theorem dX3_init_43 : decode cX3_init 43 = .ok (.return_, 1) := by decide +kernel
theorem dX3_size_0 : decode cX3_size 0 = .ok (.aload_n 0, 1) := by decide +kernel
theorem dX3_size_1 : decode cX3_size 1 = .ok (.getfield 18, 3) := by decide +kernel
theorem dX3_size_4 : decode cX3_size 4 = .ok (.ireturn, 1) := by decide +kernel
theorem dX3_at_0 : decode cX3_at 0 = .ok (.iload_n 1, 1) := by decide +kernel
theorem dX3_at_1 : decode cX3_at 1 = .ok (.ifCond .lt 24, 3) := by decide +kernel
theorem dX3_at_4 : decode cX3_at 4 = .ok (.iload_n 1, 1) := by decide +kernel
theorem dX3_at_5 : decode cX3_at 5 = .ok (.aload_n 0, 1) := by decide +kernel
theorem dX3_at_6 : decode cX3_at 6 = .ok (.getfield 18, 3) := by decide +kernel
theorem dX3_at_9 : decode cX3_at 9 = .ok (.if_icmp .ge 16, 3) := by decide +kernel
theorem dX3_at_12 : decode cX3_at 12 = .ok (.iload_n 1, 1) := by decide +kernel
theorem dX3_at_13 : decode cX3_at 13 = .ok (.aload_n 0, 1) := by decide +kernel
theorem dX3_at_14 : decode cX3_at 14 = .ok (.getfield 11, 3) := by decide +kernel
theorem dX3_at_17 : decode cX3_at 17 = .ok (.arraylength, 1) := by decide +kernel
theorem dX3_at_18 : decode cX3_at 18 = .ok (.if_icmp .ge 7, 3) := by decide +kernel
theorem dX3_at_21 : decode cX3_at 21 = .ok (.iconst 1, 1) := by decide +kernel
theorem dX3_at_22 : decode cX3_at 22 = .ok (.goto 4, 3) := by decide +kernel
theorem dX3_at_25 : decode cX3_at 25 = .ok (.iconst 0, 1) := by decide +kernel
theorem dX3_at_26 : decode cX3_at 26 = .ok (.istore_n 2, 1) := by decide +kernel
theorem dX3_at_27 : decode cX3_at 27 = .ok (.iload_n 2, 1) := by decide +kernel
theorem dX3_at_28 : decode cX3_at 28 = .ok (.ifCond .eq 12, 3) := by decide +kernel
theorem dX3_at_31 : decode cX3_at 31 = .ok (.aload_n 0, 1) := by decide +kernel
theorem dX3_at_32 : decode cX3_at 32 = .ok (.getfield 11, 3) := by decide +kernel
theorem dX3_at_35 : decode cX3_at 35 = .ok (.iload_n 1, 1) := by decide +kernel
theorem dX3_at_36 : decode cX3_at 36 = .ok (.aaload, 1) := by decide +kernel
theorem dX3_at_37 : decode cX3_at 37 = .ok (.goto 4, 3) := by decide +kernel
theorem dX3_at_40 : decode cX3_at 40 = .ok (.aconst_null, 1) := by decide +kernel
theorem dX3_at_41 : decode cX3_at 41 = .ok (.areturn, 1) := by decide +kernel
theorem dX3_append_0 : decode cX3_append 0 = .ok (.aload_n 0, 1) := by decide +kernel
theorem dX3_append_1 : decode cX3_append 1 = .ok (.getfield 18, 3) := by decide +kernel
theorem dX3_append_4 : decode cX3_append 4 = .ok (.ifCond .lt 15, 3) := by decide +kernel
theorem dX3_append_7 : decode cX3_append 7 = .ok (.aload_n 0, 1) := by decide +kernel
theorem dX3_append_8 : decode cX3_append 8 = .ok (.getfield 18, 3) := by decide +kernel
theorem dX3_append_11 : decode cX3_append 11 = .ok (.aload_n 0, 1) := by decide +kernel
theorem dX3_append_12 : decode cX3_append 12 = .ok (.getfield 11, 3) := by decide +kernel
theorem dX3_append_15 : decode cX3_append 15 = .ok (.arraylength, 1) := by decide +kernel
theorem dX3_append_16 : decode cX3_append 16 = .ok (.if_icmp .lt 5, 3) := by decide +kernel
theorem dX3_append_19 : decode cX3_append 19 = .ok (.iconst 0, 1) := by decide +kernel
theorem dX3_append_20 : decode cX3_append 20 = .ok (.ireturn, 1) := by decide +kernel
theorem dX3_append_21 : decode cX3_append 21 = .ok (.aload_n 0, 1) := by decide +kernel
theorem dX3_append_22 : decode cX3_append 22 = .ok (.getfield 11, 3) := by decide +kernel
theorem dX3_append_25 : decode cX3_append 25 = .ok (.aload_n 0, 1) := by decide +kernel
theorem dX3_append_26 : decode cX3_append 26 = .ok (.getfield 18, 3) := by decide +kernel
theorem dX3_append_29 : decode cX3_append 29 = .ok (.aaload, 1) := by decide +kernel
theorem dX3_append_30 : decode cX3_append 30 = .ok (.astore_n 2, 1) := by decide +kernel
theorem dX3_append_31 : decode cX3_append 31 = .ok (.aload_n 2, 1) := by decide +kernel
theorem dX3_append_32 : decode cX3_append 32 = .ok (.ifnonnull 5, 3) := by decide +kernel
theorem dX3_append_35 : decode cX3_append 35 = .ok (.iconst 0, 1) := by decide +kernel
theorem dX3_append_36 : decode cX3_append 36 = .ok (.ireturn, 1) := by decide +kernel
theorem dX3_append_37 : decode cX3_append 37 = .ok (.aload_n 2, 1) := by decide +kernel
theorem dX3_append_38 : decode cX3_append 38 = .ok (.aload_n 1, 1) := by decide +kernel
theorem dX3_append_39 : decode cX3_append 39 = .ok (.invokevirtual 22, 3) := by decide +kernel
theorem dX3_append_42 : decode cX3_append 42 = .ok (.aload_n 0, 1) := by decide +kernel
theorem dX3_append_43 : decode cX3_append 43 = .ok (.dup, 1) := by decide +kernel
theorem dX3_append_44 : decode cX3_append 44 = .ok (.getfield 18, 3) := by decide +kernel
theorem dX3_append_47 : decode cX3_append 47 = .ok (.iconst 1, 1) := by decide +kernel
theorem dX3_append_48 : decode cX3_append 48 = .ok (.iadd, 1) := by decide +kernel
theorem dX3_append_49 : decode cX3_append 49 = .ok (.putfield 18, 3) := by decide +kernel
theorem dX3_append_52 : decode cX3_append 52 = .ok (.iconst 1, 1) := by decide +kernel
theorem dX3_append_53 : decode cX3_append 53 = .ok (.ireturn, 1) := by decide +kernel
theorem dX3_remove_0 : decode cX3_remove 0 = .ok (.iload_n 1, 1) := by decide +kernel
theorem dX3_remove_1 : decode cX3_remove 1 = .ok (.ifCond .lt 23, 3) := by decide +kernel
theorem dX3_remove_4 : decode cX3_remove 4 = .ok (.iload_n 1, 1) := by decide +kernel
theorem dX3_remove_5 : decode cX3_remove 5 = .ok (.aload_n 0, 1) := by decide +kernel
theorem dX3_remove_6 : decode cX3_remove 6 = .ok (.getfield 18, 3) := by decide +kernel
theorem dX3_remove_9 : decode cX3_remove 9 = .ok (.if_icmp .ge 15, 3) := by decide +kernel
theorem dX3_remove_12 : decode cX3_remove 12 = .ok (.aload_n 0, 1) := by decide +kernel
theorem dX3_remove_13 : decode cX3_remove 13 = .ok (.getfield 18, 3) := by decide +kernel
theorem dX3_remove_16 : decode cX3_remove 16 = .ok (.aload_n 0, 1) := by decide +kernel
theorem dX3_remove_17 : decode cX3_remove 17 = .ok (.getfield 11, 3) := by decide +kernel
theorem dX3_remove_20 : decode cX3_remove 20 = .ok (.arraylength, 1) := by decide +kernel
theorem dX3_remove_21 : decode cX3_remove 21 = .ok (.if_icmp .le 4, 3) := by decide +kernel
theorem dX3_remove_24 : decode cX3_remove 24 = .ok (.return_, 1) := by decide +kernel
theorem dX3_remove_25 : decode cX3_remove 25 = .ok (.aload_n 0, 1) := by decide +kernel
theorem dX3_remove_26 : decode cX3_remove 26 = .ok (.getfield 11, 3) := by decide +kernel
theorem dX3_remove_29 : decode cX3_remove 29 = .ok (.iload_n 1, 1) := by decide +kernel
theorem dX3_remove_30 : decode cX3_remove 30 = .ok (.aaload, 1) := by decide +kernel
theorem dX3_remove_31 : decode cX3_remove 31 = .ok (.astore_n 2, 1) := by decide +kernel
theorem dX3_remove_32 : decode cX3_remove 32 = .ok (.iload_n 1, 1) := by decide +kernel
theorem dX3_remove_33 : decode cX3_remove 33 = .ok (.istore_n 3, 1) := by decide +kernel
theorem dX3_remove_34 : decode cX3_remove 34 = .ok (.iload_n 3, 1) := by decide +kernel
theorem dX3_remove_35 : decode cX3_remove 35 = .ok (.iconst 1, 1) := by decide +kernel
theorem dX3_remove_36 : decode cX3_remove 36 = .ok (.iadd, 1) := by decide +kernel
theorem dX3_remove_37 : decode cX3_remove 37 = .ok (.aload_n 0, 1) := by decide +kernel
theorem dX3_remove_38 : decode cX3_remove 38 = .ok (.getfield 18, 3) := by decide +kernel
theorem dX3_remove_41 : decode cX3_remove 41 = .ok (.if_icmp .ge 23, 3) := by decide +kernel
theorem dX3_remove_44 : decode cX3_remove 44 = .ok (.aload_n 0, 1) := by decide +kernel
theorem dX3_remove_45 : decode cX3_remove 45 = .ok (.getfield 11, 3) := by decide +kernel
theorem dX3_remove_48 : decode cX3_remove 48 = .ok (.iload_n 3, 1) := by decide +kernel
theorem dX3_remove_49 : decode cX3_remove 49 = .ok (.aload_n 0, 1) := by decide +kernel
theorem dX3_remove_50 : decode cX3_remove 50 = .ok (.getfield 11, 3) := by decide +kernel
theorem dX3_remove_53 : decode cX3_remove 53 = .ok (.iload_n 3, 1) := by decide +kernel
theorem dX3_remove_54 : decode cX3_remove 54 = .ok (.iconst 1, 1) := by decide +kernel
theorem dX3_remove_55 : decode cX3_remove 55 = .ok (.iadd, 1) := by decide +kernel
theorem dX3_remove_56 : decode cX3_remove 56 = .ok (.aaload, 1) := by decide +kernel
theorem dX3_remove_57 : decode cX3_remove 57 = .ok (.aastore, 1) := by decide +kernel
theorem dX3_remove_58 : decode cX3_remove 58 = .ok (.iinc 3 1, 3) := by decide +kernel
theorem dX3_remove_61 : decode cX3_remove 61 = .ok (.goto (-27), 3) := by decide +kernel
theorem dX3_remove_64 : decode cX3_remove 64 = .ok (.aload_n 0, 1) := by decide +kernel
theorem dX3_remove_65 : decode cX3_remove 65 = .ok (.dup, 1) := by decide +kernel
theorem dX3_remove_66 : decode cX3_remove 66 = .ok (.getfield 18, 3) := by decide +kernel
theorem dX3_remove_69 : decode cX3_remove 69 = .ok (.iconst 1, 1) := by decide +kernel
theorem dX3_remove_70 : decode cX3_remove 70 = .ok (.isub, 1) := by decide +kernel
theorem dX3_remove_71 : decode cX3_remove 71 = .ok (.putfield 18, 3) := by decide +kernel
theorem dX3_remove_74 : decode cX3_remove 74 = .ok (.aload_n 0, 1) := by decide +kernel
theorem dX3_remove_75 : decode cX3_remove 75 = .ok (.getfield 11, 3) := by decide +kernel
theorem dX3_remove_78 : decode cX3_remove 78 = .ok (.aload_n 0, 1) := by decide +kernel
theorem dX3_remove_79 : decode cX3_remove 79 = .ok (.getfield 18, 3) := by decide +kernel
theorem dX3_remove_82 : decode cX3_remove 82 = .ok (.aload_n 2, 1) := by decide +kernel
theorem dX3_remove_83 : decode cX3_remove 83 = .ok (.aastore, 1) := by decide +kernel
theorem dX3_remove_84 : decode cX3_remove 84 = .ok (.return_, 1) := by decide +kernel
theorem dX3_reached_0 : decode cX3_reached 0 = .ok (.iconst 0, 1) := by decide +kernel
theorem dX3_reached_1 : decode cX3_reached 1 = .ok (.istore_n 3, 1) := by decide +kernel
theorem dX3_reached_2 : decode cX3_reached 2 = .ok (.iconst 0, 1) := by decide +kernel
theorem dX3_reached_3 : decode cX3_reached 3 = .ok (.istore 4, 2) := by decide +kernel
theorem dX3_reached_5 : decode cX3_reached 5 = .ok (.iload 4, 2) := by decide +kernel
theorem dX3_reached_7 : decode cX3_reached 7 = .ok (.aload_n 0, 1) := by decide +kernel
theorem dX3_reached_8 : decode cX3_reached 8 = .ok (.getfield 18, 3) := by decide +kernel
theorem dX3_reached_11 : decode cX3_reached 11 = .ok (.if_icmp .ge 44, 3) := by decide +kernel
theorem dX3_reached_14 : decode cX3_reached 14 = .ok (.aload_n 0, 1) := by decide +kernel
theorem dX3_reached_15 : decode cX3_reached 15 = .ok (.iload 4, 2) := by decide +kernel
theorem dX3_reached_17 : decode cX3_reached 17 = .ok (.invokevirtual 26, 3) := by decide +kernel
theorem dX3_reached_20 : decode cX3_reached 20 = .ok (.astore 5, 2) := by decide +kernel
theorem dX3_reached_22 : decode cX3_reached 22 = .ok (.aload 5, 2) := by decide +kernel
theorem dX3_reached_24 : decode cX3_reached 24 = .ok (.ifnull 25, 3) := by decide +kernel
theorem dX3_reached_27 : decode cX3_reached 27 = .ok (.aload 5, 2) := by decide +kernel
theorem dX3_reached_29 : decode cX3_reached 29 = .ok (.aload_n 1, 1) := by decide +kernel
theorem dX3_reached_30 : decode cX3_reached 30 = .ok (.aload_n 1, 1) := by decide +kernel
theorem dX3_reached_31 : decode cX3_reached 31 = .ok (.invokevirtual 30, 3) := by decide +kernel
theorem dX3_reached_34 : decode cX3_reached 34 = .ok (.invokevirtual 35, 3) := by decide +kernel
theorem dX3_reached_37 : decode cX3_reached 37 = .ok (.iload_n 2, 1) := by decide +kernel
theorem dX3_reached_38 : decode cX3_reached 38 = .ok (.iand, 1) := by decide +kernel
theorem dX3_reached_39 : decode cX3_reached 39 = .ok (.ifCond .eq 10, 3) := by decide +kernel
theorem dX3_reached_42 : decode cX3_reached 42 = .ok (.iload_n 3, 1) := by decide +kernel
theorem dX3_reached_43 : decode cX3_reached 43 = .ok (.iconst 1, 1) := by decide +kernel
theorem dX3_reached_44 : decode cX3_reached 44 = .ok (.iload 4, 2) := by decide +kernel
theorem dX3_reached_46 : decode cX3_reached 46 = .ok (.ishl, 1) := by decide +kernel
theorem dX3_reached_47 : decode cX3_reached 47 = .ok (.ior, 1) := by decide +kernel
theorem dX3_reached_48 : decode cX3_reached 48 = .ok (.istore_n 3, 1) := by decide +kernel
theorem dX3_reached_49 : decode cX3_reached 49 = .ok (.iinc 4 1, 3) := by decide +kernel
theorem dX3_reached_52 : decode cX3_reached 52 = .ok (.goto (-47), 3) := by decide +kernel
theorem dX3_reached_55 : decode cX3_reached 55 = .ok (.iload_n 3, 1) := by decide +kernel
theorem dX3_reached_56 : decode cX3_reached 56 = .ok (.ireturn, 1) := by decide +kernel
theorem dX3_winner_0 : decode cX3_winner 0 = .ok (.iconst (-1), 1) := by decide +kernel
theorem dX3_winner_1 : decode cX3_winner 1 = .ok (.istore_n 3, 1) := by decide +kernel
theorem dX3_winner_2 : decode cX3_winner 2 = .ok (.aconst_null, 1) := by decide +kernel
theorem dX3_winner_3 : decode cX3_winner 3 = .ok (.astore 4, 2) := by decide +kernel
theorem dX3_winner_5 : decode cX3_winner 5 = .ok (.iconst 0, 1) := by decide +kernel
theorem dX3_winner_6 : decode cX3_winner 6 = .ok (.istore 5, 2) := by decide +kernel
theorem dX3_winner_8 : decode cX3_winner 8 = .ok (.iload 5, 2) := by decide +kernel
theorem dX3_winner_10 : decode cX3_winner 10 = .ok (.aload_n 0, 1) := by decide +kernel
theorem dX3_winner_11 : decode cX3_winner 11 = .ok (.getfield 18, 3) := by decide +kernel
theorem dX3_winner_14 : decode cX3_winner 14 = .ok (.if_icmp .ge 76, 3) := by decide +kernel
theorem dX3_winner_17 : decode cX3_winner 17 = .ok (.aload_n 0, 1) := by decide +kernel
theorem dX3_winner_18 : decode cX3_winner 18 = .ok (.iload 5, 2) := by decide +kernel
theorem dX3_winner_20 : decode cX3_winner 20 = .ok (.invokevirtual 26, 3) := by decide +kernel
theorem dX3_winner_23 : decode cX3_winner 23 = .ok (.astore 6, 2) := by decide +kernel
theorem dX3_winner_25 : decode cX3_winner 25 = .ok (.aload 6, 2) := by decide +kernel
theorem dX3_winner_27 : decode cX3_winner 27 = .ok (.ifnull 57, 3) := by decide +kernel
theorem dX3_winner_30 : decode cX3_winner 30 = .ok (.iload_n 2, 1) := by decide +kernel
theorem dX3_winner_31 : decode cX3_winner 31 = .ok (.ifCond .eq 13, 3) := by decide +kernel
theorem dX3_winner_34 : decode cX3_winner 34 = .ok (.aload 6, 2) := by decide +kernel
theorem dX3_winner_36 : decode cX3_winner 36 = .ok (.invokevirtual 39, 3) := by decide +kernel
theorem dX3_winner_39 : decode cX3_winner 39 = .ok (.bipush 9, 2) := by decide +kernel
theorem dX3_winner_41 : decode cX3_winner 41 = .ok (.if_icmp .ne 43, 3) := by decide +kernel
theorem dX3_winner_44 : decode cX3_winner 44 = .ok (.aload 6, 2) := by decide +kernel
theorem dX3_winner_46 : decode cX3_winner 46 = .ok (.aload_n 1, 1) := by decide +kernel
theorem dX3_winner_47 : decode cX3_winner 47 = .ok (.aload_n 1, 1) := by decide +kernel
theorem dX3_winner_48 : decode cX3_winner 48 = .ok (.invokevirtual 30, 3) := by decide +kernel
theorem dX3_winner_51 : decode cX3_winner 51 = .ok (.invokevirtual 35, 3) := by decide +kernel
theorem dX3_winner_54 : decode cX3_winner 54 = .ok (.iconst 1, 1) := by decide +kernel
theorem dX3_winner_55 : decode cX3_winner 55 = .ok (.iand, 1) := by decide +kernel
theorem dX3_winner_56 : decode cX3_winner 56 = .ok (.ifCond .ne 6, 3) := by decide +kernel
theorem dX3_winner_59 : decode cX3_winner 59 = .ok (.goto 25, 3) := by decide +kernel
theorem dX3_winner_62 : decode cX3_winner 62 = .ok (.aload 4, 2) := by decide +kernel
theorem dX3_winner_64 : decode cX3_winner 64 = .ok (.ifnull 13, 3) := by decide +kernel
theorem dX3_winner_67 : decode cX3_winner 67 = .ok (.aload 6, 2) := by decide +kernel
theorem dX3_winner_69 : decode cX3_winner 69 = .ok (.aload 4, 2) := by decide +kernel
theorem dX3_winner_71 : decode cX3_winner 71 = .ok (.invokevirtual 42, 3) := by decide +kernel
theorem dX3_winner_74 : decode cX3_winner 74 = .ok (.ifCond .eq 10, 3) := by decide +kernel
theorem dX3_winner_77 : decode cX3_winner 77 = .ok (.aload 6, 2) := by decide +kernel
theorem dX3_winner_79 : decode cX3_winner 79 = .ok (.astore 4, 2) := by decide +kernel
theorem dX3_winner_81 : decode cX3_winner 81 = .ok (.iload 5, 2) := by decide +kernel
theorem dX3_winner_83 : decode cX3_winner 83 = .ok (.istore_n 3, 1) := by decide +kernel
theorem dX3_winner_84 : decode cX3_winner 84 = .ok (.iinc 5 1, 3) := by decide +kernel
theorem dX3_winner_87 : decode cX3_winner 87 = .ok (.goto (-79), 3) := by decide +kernel
theorem dX3_winner_90 : decode cX3_winner 90 = .ok (.iload_n 3, 1) := by decide +kernel
theorem dX3_winner_91 : decode cX3_winner 91 = .ok (.ireturn, 1) := by decide +kernel
theorem dX3_sureFrom_0 : decode cX3_sureFrom 0 = .ok (.iconst 0, 1) := by decide +kernel
theorem dX3_sureFrom_1 : decode cX3_sureFrom 1 = .ok (.istore_n 2, 1) := by decide +kernel
theorem dX3_sureFrom_2 : decode cX3_sureFrom 2 = .ok (.iload_n 2, 1) := by decide +kernel
theorem dX3_sureFrom_3 : decode cX3_sureFrom 3 = .ok (.aload_n 1, 1) := by decide +kernel
theorem dX3_sureFrom_4 : decode cX3_sureFrom 4 = .ok (.invokevirtual 30, 3) := by decide +kernel
theorem dX3_sureFrom_7 : decode cX3_sureFrom 7 = .ok (.if_icmp .gt 20, 3) := by decide +kernel
theorem dX3_sureFrom_10 : decode cX3_sureFrom 10 = .ok (.aload_n 0, 1) := by decide +kernel
theorem dX3_sureFrom_11 : decode cX3_sureFrom 11 = .ok (.aload_n 1, 1) := by decide +kernel
theorem dX3_sureFrom_12 : decode cX3_sureFrom 12 = .ok (.iload_n 2, 1) := by decide +kernel
theorem dX3_sureFrom_13 : decode cX3_sureFrom 13 = .ok (.invokevirtual 46, 3) := by decide +kernel
theorem dX3_sureFrom_16 : decode cX3_sureFrom 16 = .ok (.ifCond .eq 5, 3) := by decide +kernel
theorem dX3_sureFrom_19 : decode cX3_sureFrom 19 = .ok (.iload_n 2, 1) := by decide +kernel
theorem dX3_sureFrom_20 : decode cX3_sureFrom 20 = .ok (.ireturn, 1) := by decide +kernel
theorem dX3_sureFrom_21 : decode cX3_sureFrom 21 = .ok (.iinc 2 1, 3) := by decide +kernel
theorem dX3_sureFrom_24 : decode cX3_sureFrom 24 = .ok (.goto (-22), 3) := by decide +kernel
theorem dX3_sureFrom_27 : decode cX3_sureFrom 27 = .ok (.iconst (-1), 1) := by decide +kernel
theorem dX3_sureFrom_28 : decode cX3_sureFrom 28 = .ok (.ireturn, 1) := by decide +kernel
theorem dX3_isSureBy_0 : decode cX3_isSureBy 0 = .ok (.aconst_null, 1) := by decide +kernel
theorem dX3_isSureBy_1 : decode cX3_isSureBy 1 = .ok (.astore_n 3, 1) := by decide +kernel
theorem dX3_isSureBy_2 : decode cX3_isSureBy 2 = .ok (.iconst 0, 1) := by decide +kernel
theorem dX3_isSureBy_3 : decode cX3_isSureBy 3 = .ok (.istore 4, 2) := by decide +kernel
theorem dX3_isSureBy_5 : decode cX3_isSureBy 5 = .ok (.iload 4, 2) := by decide +kernel
theorem dX3_isSureBy_7 : decode cX3_isSureBy 7 = .ok (.aload_n 0, 1) := by decide +kernel
theorem dX3_isSureBy_8 : decode cX3_isSureBy 8 = .ok (.getfield 18, 3) := by decide +kernel
theorem dX3_isSureBy_11 : decode cX3_isSureBy 11 = .ok (.if_icmp .ge 56, 3) := by decide +kernel
theorem dX3_isSureBy_14 : decode cX3_isSureBy 14 = .ok (.aload_n 0, 1) := by decide +kernel
theorem dX3_isSureBy_15 : decode cX3_isSureBy 15 = .ok (.iload 4, 2) := by decide +kernel
theorem dX3_isSureBy_17 : decode cX3_isSureBy 17 = .ok (.invokevirtual 26, 3) := by decide +kernel
theorem dX3_isSureBy_20 : decode cX3_isSureBy 20 = .ok (.astore 5, 2) := by decide +kernel
theorem dX3_isSureBy_22 : decode cX3_isSureBy 22 = .ok (.aload 5, 2) := by decide +kernel
theorem dX3_isSureBy_24 : decode cX3_isSureBy 24 = .ok (.ifnull 37, 3) := by decide +kernel
theorem dX3_isSureBy_27 : decode cX3_isSureBy 27 = .ok (.aload 5, 2) := by decide +kernel
theorem dX3_isSureBy_29 : decode cX3_isSureBy 29 = .ok (.aload_n 1, 1) := by decide +kernel
theorem dX3_isSureBy_30 : decode cX3_isSureBy 30 = .ok (.iload_n 2, 1) := by decide +kernel
theorem dX3_isSureBy_31 : decode cX3_isSureBy 31 = .ok (.invokevirtual 35, 3) := by decide +kernel
theorem dX3_isSureBy_34 : decode cX3_isSureBy 34 = .ok (.ifCond .ne 6, 3) := by decide +kernel
theorem dX3_isSureBy_37 : decode cX3_isSureBy 37 = .ok (.goto 24, 3) := by decide +kernel
theorem dX3_isSureBy_40 : decode cX3_isSureBy 40 = .ok (.aload_n 3, 1) := by decide +kernel
theorem dX3_isSureBy_41 : decode cX3_isSureBy 41 = .ok (.ifnonnull 9, 3) := by decide +kernel
theorem dX3_isSureBy_44 : decode cX3_isSureBy 44 = .ok (.aload 5, 2) := by decide +kernel
theorem dX3_isSureBy_46 : decode cX3_isSureBy 46 = .ok (.astore_n 3, 1) := by decide +kernel
theorem dX3_isSureBy_47 : decode cX3_isSureBy 47 = .ok (.goto 14, 3) := by decide +kernel
theorem dX3_isSureBy_50 : decode cX3_isSureBy 50 = .ok (.aload 5, 2) := by decide +kernel
theorem dX3_isSureBy_52 : decode cX3_isSureBy 52 = .ok (.aload_n 3, 1) := by decide +kernel
theorem dX3_isSureBy_53 : decode cX3_isSureBy 53 = .ok (.invokevirtual 50, 3) := by decide +kernel
theorem dX3_isSureBy_56 : decode cX3_isSureBy 56 = .ok (.ifCond .ne 5, 3) := by decide +kernel
theorem dX3_isSureBy_59 : decode cX3_isSureBy 59 = .ok (.iconst 0, 1) := by decide +kernel
theorem dX3_isSureBy_60 : decode cX3_isSureBy 60 = .ok (.ireturn, 1) := by decide +kernel
theorem dX3_isSureBy_61 : decode cX3_isSureBy 61 = .ok (.iinc 4 1, 3) := by decide +kernel
theorem dX3_isSureBy_64 : decode cX3_isSureBy 64 = .ok (.goto (-59), 3) := by decide +kernel
theorem dX3_isSureBy_67 : decode cX3_isSureBy 67 = .ok (.aload_n 3, 1) := by decide +kernel
theorem dX3_isSureBy_68 : decode cX3_isSureBy 68 = .ok (.ifnull 7, 3) := by decide +kernel
theorem dX3_isSureBy_71 : decode cX3_isSureBy 71 = .ok (.iconst 1, 1) := by decide +kernel
theorem dX3_isSureBy_72 : decode cX3_isSureBy 72 = .ok (.goto 4, 3) := by decide +kernel
theorem dX3_isSureBy_75 : decode cX3_isSureBy 75 = .ok (.iconst 0, 1) := by decide +kernel
theorem dX3_isSureBy_76 : decode cX3_isSureBy 76 = .ok (.ireturn, 1) := by decide +kernel
theorem dX3_isClash_0 : decode cX3_isClash 0 = .ok (.aload_n 0, 1) := by decide +kernel
theorem dX3_isClash_1 : decode cX3_isClash 1 = .ok (.iload_n 1, 1) := by decide +kernel
theorem dX3_isClash_2 : decode cX3_isClash 2 = .ok (.invokevirtual 26, 3) := by decide +kernel
theorem dX3_isClash_5 : decode cX3_isClash 5 = .ok (.astore_n 3, 1) := by decide +kernel
theorem dX3_isClash_6 : decode cX3_isClash 6 = .ok (.aload_n 0, 1) := by decide +kernel
theorem dX3_isClash_7 : decode cX3_isClash 7 = .ok (.iload_n 2, 1) := by decide +kernel
theorem dX3_isClash_8 : decode cX3_isClash 8 = .ok (.invokevirtual 26, 3) := by decide +kernel
theorem dX3_isClash_11 : decode cX3_isClash 11 = .ok (.astore 4, 2) := by decide +kernel
theorem dX3_isClash_13 : decode cX3_isClash 13 = .ok (.aload_n 3, 1) := by decide +kernel
theorem dX3_isClash_14 : decode cX3_isClash 14 = .ok (.ifnull 21, 3) := by decide +kernel
theorem dX3_isClash_17 : decode cX3_isClash 17 = .ok (.aload 4, 2) := by decide +kernel
theorem dX3_isClash_19 : decode cX3_isClash 19 = .ok (.ifnull 16, 3) := by decide +kernel
theorem dX3_isClash_22 : decode cX3_isClash 22 = .ok (.aload_n 3, 1) := by decide +kernel
theorem dX3_isClash_23 : decode cX3_isClash 23 = .ok (.aload 4, 2) := by decide +kernel
theorem dX3_isClash_25 : decode cX3_isClash 25 = .ok (.invokevirtual 53, 3) := by decide +kernel
theorem dX3_isClash_28 : decode cX3_isClash 28 = .ok (.ifCond .eq 7, 3) := by decide +kernel
theorem dX3_isClash_31 : decode cX3_isClash 31 = .ok (.iconst 1, 1) := by decide +kernel
theorem dX3_isClash_32 : decode cX3_isClash 32 = .ok (.goto 4, 3) := by decide +kernel
theorem dX3_isClash_35 : decode cX3_isClash 35 = .ok (.iconst 0, 1) := by decide +kernel
theorem dX3_isClash_36 : decode cX3_isClash 36 = .ok (.ireturn, 1) := by decide +kernel
theorem dX3_clashes_0 : decode cX3_clashes 0 = .ok (.iconst 0, 1) := by decide +kernel
theorem dX3_clashes_1 : decode cX3_clashes 1 = .ok (.istore_n 1, 1) := by decide +kernel
theorem dX3_clashes_2 : decode cX3_clashes 2 = .ok (.iconst 0, 1) := by decide +kernel
theorem dX3_clashes_3 : decode cX3_clashes 3 = .ok (.istore_n 2, 1) := by decide +kernel
theorem dX3_clashes_4 : decode cX3_clashes 4 = .ok (.iload_n 2, 1) := by decide +kernel
theorem dX3_clashes_5 : decode cX3_clashes 5 = .ok (.aload_n 0, 1) := by decide +kernel
theorem dX3_clashes_6 : decode cX3_clashes 6 = .ok (.getfield 18, 3) := by decide +kernel
theorem dX3_clashes_9 : decode cX3_clashes 9 = .ok (.if_icmp .ge 39, 3) := by decide +kernel
theorem dX3_clashes_12 : decode cX3_clashes 12 = .ok (.iload_n 2, 1) := by decide +kernel
theorem dX3_clashes_13 : decode cX3_clashes 13 = .ok (.iconst 1, 1) := by decide +kernel
theorem dX3_clashes_14 : decode cX3_clashes 14 = .ok (.iadd, 1) := by decide +kernel
theorem dX3_clashes_15 : decode cX3_clashes 15 = .ok (.istore_n 3, 1) := by decide +kernel
theorem dX3_clashes_16 : decode cX3_clashes 16 = .ok (.iload_n 3, 1) := by decide +kernel
theorem dX3_clashes_17 : decode cX3_clashes 17 = .ok (.aload_n 0, 1) := by decide +kernel
theorem dX3_clashes_18 : decode cX3_clashes 18 = .ok (.getfield 18, 3) := by decide +kernel
theorem dX3_clashes_21 : decode cX3_clashes 21 = .ok (.if_icmp .ge 21, 3) := by decide +kernel
theorem dX3_clashes_24 : decode cX3_clashes 24 = .ok (.aload_n 0, 1) := by decide +kernel
end
section
theorem dX3_clashes_25 : decode cX3_clashes 25 = .ok (.iload_n 2, 1) := by decide +kernel
theorem dX3_clashes_26 : decode cX3_clashes 26 = .ok (.iload_n 3, 1) := by decide +kernel
theorem dX3_clashes_27 : decode cX3_clashes 27 = .ok (.invokevirtual 56, 3) := by decide +kernel
theorem dX3_clashes_30 : decode cX3_clashes 30 = .ok (.ifCond .eq 6, 3) := by decide +kernel
theorem dX3_clashes_33 : decode cX3_clashes 33 = .ok (.iinc 1 1, 3) := by decide +kernel
theorem dX3_clashes_36 : decode cX3_clashes 36 = .ok (.iinc 3 1, 3) := by decide +kernel
theorem dX3_clashes_39 : decode cX3_clashes 39 = .ok (.goto (-23), 3) := by decide +kernel
theorem dX3_clashes_42 : decode cX3_clashes 42 = .ok (.iinc 2 1, 3) := by decide +kernel
theorem dX3_clashes_45 : decode cX3_clashes 45 = .ok (.goto (-41), 3) := by decide +kernel
theorem dX3_clashes_48 : decode cX3_clashes 48 = .ok (.iload_n 1, 1) := by decide +kernel
theorem dX3_clashes_49 : decode cX3_clashes 49 = .ok (.ireturn, 1) := by decide +kernel
theorem dX4_init_0 : decode cX4_init 0 = .ok (.aload_n 0, 1) := by decide +kernel
theorem dX4_init_1 : decode cX4_init 1 = .ok (.invokespecial 3, 3) := by decide +kernel
theorem dX4_init_4 : decode cX4_init 4 = .ok (.aload_n 0, 1) := by decide +kernel
theorem dX4_init_5 : decode cX4_init 5 = .ok (.new 9, 3) := by decide +kernel
theorem dX4_init_8 : decode cX4_init 8 = .ok (.dup, 1) := by decide +kernel
theorem dX4_init_9 : decode cX4_init 9 = .ok (.bipush 10, 2) := by decide +kernel
theorem dX4_init_11 : decode cX4_init 11 = .ok (.invokespecial 11, 3) := by decide +kernel
theorem dX4_init_14 : decode cX4_init 14 = .ok (.putfield 14, 3) := by decide +kernel
theorem dX4_init_17 : decode cX4_init 17 = .ok (.aload_n 0, 1) := by decide +kernel
theorem dX4_init_18 : decode cX4_init 18 = .ok (.new 9, 3) := by decide +kernel
theorem dX4_init_21 : decode cX4_init 21 = .ok (.dup, 1) := by decide +kernel
theorem dX4_init_22 : decode cX4_init 22 = .ok (.bipush 10, 2) := by decide +kernel
theorem dX4_init_24 : decode cX4_init 24 = .ok (.invokespecial 11, 3) := by decide +kernel
theorem dX4_init_27 : decode cX4_init 27 = .ok (.putfield 20, 3) := by decide +kernel
theorem dX4_init_30 : decode cX4_init 30 = .ok (.aload_n 0, 1) := by decide +kernel
theorem dX4_init_31 : decode cX4_init 31 = .ok (.iconst (-1), 1) := by decide +kernel
theorem dX4_init_32 : decode cX4_init 32 = .ok (.putfield 23, 3) := by decide +kernel
theorem dX4_init_35 : decode cX4_init 35 = .ok (.return_, 1) := by decide +kernel
theorem dX4_way_0 : decode cX4_way 0 = .ok (.aload_n 0, 1) := by decide +kernel
theorem dX4_way_1 : decode cX4_way 1 = .ok (.getfield 23, 3) := by decide +kernel
theorem dX4_way_4 : decode cX4_way 4 = .ok (.ireturn, 1) := by decide +kernel
theorem dX4_times_0 : decode cX4_times 0 = .ok (.aload_n 0, 1) := by decide +kernel
theorem dX4_times_1 : decode cX4_times 1 = .ok (.getfield 27, 3) := by decide +kernel
theorem dX4_times_4 : decode cX4_times 4 = .ok (.ireturn, 1) := by decide +kernel
theorem dX4_result_0 : decode cX4_result 0 = .ok (.aload_n 0, 1) := by decide +kernel
theorem dX4_result_1 : decode cX4_result 1 = .ok (.getfield 14, 3) := by decide +kernel
theorem dX4_result_4 : decode cX4_result 4 = .ok (.areturn, 1) := by decide +kernel
theorem dX4_read_0 : decode cX4_read 0 = .ok (.aload_n 0, 1) := by decide +kernel
theorem dX4_read_1 : decode cX4_read 1 = .ok (.getfield 14, 3) := by decide +kernel
theorem dX4_read_4 : decode cX4_read 4 = .ok (.aload_n 2, 1) := by decide +kernel
theorem dX4_read_5 : decode cX4_read 5 = .ok (.invokevirtual 30, 3) := by decide +kernel
theorem dX4_read_8 : decode cX4_read 8 = .ok (.aload_n 0, 1) := by decide +kernel
theorem dX4_read_9 : decode cX4_read 9 = .ok (.iconst (-1), 1) := by decide +kernel
theorem dX4_read_10 : decode cX4_read 10 = .ok (.putfield 23, 3) := by decide +kernel
theorem dX4_read_13 : decode cX4_read 13 = .ok (.aload_n 0, 1) := by decide +kernel
theorem dX4_read_14 : decode cX4_read 14 = .ok (.iconst 0, 1) := by decide +kernel
theorem dX4_read_15 : decode cX4_read 15 = .ok (.putfield 27, 3) := by decide +kernel
theorem dX4_read_18 : decode cX4_read 18 = .ok (.aload_n 0, 1) := by decide +kernel
theorem dX4_read_19 : decode cX4_read 19 = .ok (.getfield 27, 3) := by decide +kernel
theorem dX4_read_22 : decode cX4_read 22 = .ok (.bipush 6, 2) := by decide +kernel
theorem dX4_read_24 : decode cX4_read 24 = .ok (.if_icmp .ge 63, 3) := by decide +kernel
theorem dX4_read_27 : decode cX4_read 27 = .ok (.aload_n 0, 1) := by decide +kernel
theorem dX4_read_28 : decode cX4_read 28 = .ok (.dup, 1) := by decide +kernel
theorem dX4_read_29 : decode cX4_read 29 = .ok (.getfield 27, 3) := by decide +kernel
theorem dX4_read_32 : decode cX4_read 32 = .ok (.iconst 1, 1) := by decide +kernel
theorem dX4_read_33 : decode cX4_read 33 = .ok (.iadd, 1) := by decide +kernel
theorem dX4_read_34 : decode cX4_read 34 = .ok (.putfield 27, 3) := by decide +kernel
theorem dX4_read_37 : decode cX4_read 37 = .ok (.aload_n 1, 1) := by decide +kernel
theorem dX4_read_38 : decode cX4_read 38 = .ok (.aload_n 1, 1) := by decide +kernel
theorem dX4_read_39 : decode cX4_read 39 = .ok (.aload_n 0, 1) := by decide +kernel
theorem dX4_read_40 : decode cX4_read 40 = .ok (.getfield 14, 3) := by decide +kernel
theorem dX4_read_43 : decode cX4_read 43 = .ok (.iconst 0, 1) := by decide +kernel
theorem dX4_read_44 : decode cX4_read 44 = .ok (.invokevirtual 34, 3) := by decide +kernel
theorem dX4_read_47 : decode cX4_read 47 = .ok (.invokevirtual 40, 3) := by decide +kernel
theorem dX4_read_50 : decode cX4_read 50 = .ok (.astore_n 3, 1) := by decide +kernel
theorem dX4_read_51 : decode cX4_read 51 = .ok (.aload_n 3, 1) := by decide +kernel
theorem dX4_read_52 : decode cX4_read 52 = .ok (.ifnull 35, 3) := by decide +kernel
theorem dX4_read_55 : decode cX4_read 55 = .ok (.aload_n 0, 1) := by decide +kernel
theorem dX4_read_56 : decode cX4_read 56 = .ok (.aload_n 3, 1) := by decide +kernel
theorem dX4_read_57 : decode cX4_read 57 = .ok (.invokevirtual 44, 3) := by decide +kernel
theorem dX4_read_60 : decode cX4_read 60 = .ok (.ifCond .ne 6, 3) := by decide +kernel
theorem dX4_read_63 : decode cX4_read 63 = .ok (.goto 24, 3) := by decide +kernel
theorem dX4_read_66 : decode cX4_read 66 = .ok (.aload_n 3, 1) := by decide +kernel
theorem dX4_read_67 : decode cX4_read 67 = .ok (.invokevirtual 48, 3) := by decide +kernel
theorem dX4_read_70 : decode cX4_read 70 = .ok (.bipush 10, 2) := by decide +kernel
theorem dX4_read_72 : decode cX4_read 72 = .ok (.if_icmp .eq 12, 3) := by decide +kernel
theorem dX4_read_75 : decode cX4_read 75 = .ok (.aload_n 0, 1) := by decide +kernel
theorem dX4_read_76 : decode cX4_read 76 = .ok (.aload_n 3, 1) := by decide +kernel
theorem dX4_read_77 : decode cX4_read 77 = .ok (.invokevirtual 48, 3) := by decide +kernel
theorem dX4_read_80 : decode cX4_read 80 = .ok (.putfield 23, 3) := by decide +kernel
theorem dX4_read_83 : decode cX4_read 83 = .ok (.return_, 1) := by decide +kernel
theorem dX4_read_84 : decode cX4_read 84 = .ok (.goto (-66), 3) := by decide +kernel
theorem dX4_read_87 : decode cX4_read 87 = .ok (.aload_n 0, 1) := by decide +kernel
theorem dX4_read_88 : decode cX4_read 88 = .ok (.getfield 14, 3) := by decide +kernel
theorem dX4_read_91 : decode cX4_read 91 = .ok (.invokevirtual 53, 3) := by decide +kernel
theorem dX4_read_94 : decode cX4_read 94 = .ok (.return_, 1) := by decide +kernel
theorem dX4_rewrite_0 : decode cX4_rewrite 0 = .ok (.aload_n 0, 1) := by decide +kernel
theorem dX4_rewrite_1 : decode cX4_rewrite 1 = .ok (.getfield 20, 3) := by decide +kernel
theorem dX4_rewrite_4 : decode cX4_rewrite 4 = .ok (.aload_n 1, 1) := by decide +kernel
theorem dX4_rewrite_5 : decode cX4_rewrite 5 = .ok (.invokevirtual 56, 3) := by decide +kernel
theorem dX4_rewrite_8 : decode cX4_rewrite 8 = .ok (.invokevirtual 30, 3) := by decide +kernel
theorem dX4_rewrite_11 : decode cX4_rewrite 11 = .ok (.iconst 1, 1) := by decide +kernel
theorem dX4_rewrite_12 : decode cX4_rewrite 12 = .ok (.istore_n 2, 1) := by decide +kernel
theorem dX4_rewrite_13 : decode cX4_rewrite 13 = .ok (.aload_n 1, 1) := by decide +kernel
theorem dX4_rewrite_14 : decode cX4_rewrite 14 = .ok (.invokevirtual 60, 3) := by decide +kernel
theorem dX4_rewrite_17 : decode cX4_rewrite 17 = .ok (.istore_n 3, 1) := by decide +kernel
theorem dX4_rewrite_18 : decode cX4_rewrite 18 = .ok (.iload_n 3, 1) := by decide +kernel
theorem dX4_rewrite_19 : decode cX4_rewrite 19 = .ok (.aload_n 0, 1) := by decide +kernel
theorem dX4_rewrite_20 : decode cX4_rewrite 20 = .ok (.getfield 14, 3) := by decide +kernel
theorem dX4_rewrite_23 : decode cX4_rewrite 23 = .ok (.invokevirtual 63, 3) := by decide +kernel
theorem dX4_rewrite_26 : decode cX4_rewrite 26 = .ok (.if_icmp .ge 37, 3) := by decide +kernel
theorem dX4_rewrite_29 : decode cX4_rewrite 29 = .ok (.aload_n 0, 1) := by decide +kernel
theorem dX4_rewrite_30 : decode cX4_rewrite 30 = .ok (.getfield 20, 3) := by decide +kernel
theorem dX4_rewrite_33 : decode cX4_rewrite 33 = .ok (.aload_n 0, 1) := by decide +kernel
theorem dX4_rewrite_34 : decode cX4_rewrite 34 = .ok (.getfield 14, 3) := by decide +kernel
theorem dX4_rewrite_37 : decode cX4_rewrite 37 = .ok (.iload_n 3, 1) := by decide +kernel
theorem dX4_rewrite_38 : decode cX4_rewrite 38 = .ok (.invokevirtual 66, 3) := by decide +kernel
theorem dX4_rewrite_41 : decode cX4_rewrite 41 = .ok (.invokevirtual 69, 3) := by decide +kernel
theorem dX4_rewrite_44 : decode cX4_rewrite 44 = .ok (.ifCond .eq 11, 3) := by decide +kernel
theorem dX4_rewrite_47 : decode cX4_rewrite 47 = .ok (.iload_n 2, 1) := by decide +kernel
theorem dX4_rewrite_48 : decode cX4_rewrite 48 = .ok (.ifCond .eq 7, 3) := by decide +kernel
theorem dX4_rewrite_51 : decode cX4_rewrite 51 = .ok (.iconst 1, 1) := by decide +kernel
theorem dX4_rewrite_52 : decode cX4_rewrite 52 = .ok (.goto 4, 3) := by decide +kernel
theorem dX4_rewrite_55 : decode cX4_rewrite 55 = .ok (.iconst 0, 1) := by decide +kernel
theorem dX4_rewrite_56 : decode cX4_rewrite 56 = .ok (.istore_n 2, 1) := by decide +kernel
theorem dX4_rewrite_57 : decode cX4_rewrite 57 = .ok (.iinc 3 1, 3) := by decide +kernel
theorem dX4_rewrite_60 : decode cX4_rewrite 60 = .ok (.goto (-42), 3) := by decide +kernel
theorem dX4_rewrite_63 : decode cX4_rewrite 63 = .ok (.aload_n 0, 1) := by decide +kernel
theorem dX4_rewrite_64 : decode cX4_rewrite 64 = .ok (.getfield 14, 3) := by decide +kernel
theorem dX4_rewrite_67 : decode cX4_rewrite 67 = .ok (.aload_n 0, 1) := by decide +kernel
theorem dX4_rewrite_68 : decode cX4_rewrite 68 = .ok (.getfield 20, 3) := by decide +kernel
theorem dX4_rewrite_71 : decode cX4_rewrite 71 = .ok (.invokevirtual 30, 3) := by decide +kernel
theorem dX4_rewrite_74 : decode cX4_rewrite 74 = .ok (.iload_n 2, 1) := by decide +kernel
theorem dX4_rewrite_75 : decode cX4_rewrite 75 = .ok (.ifCond .eq 17, 3) := by decide +kernel
theorem dX4_rewrite_78 : decode cX4_rewrite 78 = .ok (.aload_n 0, 1) := by decide +kernel
theorem dX4_rewrite_79 : decode cX4_rewrite 79 = .ok (.getfield 14, 3) := by decide +kernel
theorem dX4_rewrite_82 : decode cX4_rewrite 82 = .ok (.invokevirtual 63, 3) := by decide +kernel
theorem dX4_rewrite_85 : decode cX4_rewrite 85 = .ok (.ifCond .le 7, 3) := by decide +kernel
theorem dX4_rewrite_88 : decode cX4_rewrite 88 = .ok (.iconst 1, 1) := by decide +kernel
theorem dX4_rewrite_89 : decode cX4_rewrite 89 = .ok (.goto 4, 3) := by decide +kernel
theorem dX4_rewrite_92 : decode cX4_rewrite 92 = .ok (.iconst 0, 1) := by decide +kernel
theorem dX4_rewrite_93 : decode cX4_rewrite 93 = .ok (.ireturn, 1) := by decide +kernel
theorem dX5_init_0 : decode cX5_init 0 = .ok (.aload_n 0, 1) := by decide +kernel
theorem dX5_init_1 : decode cX5_init 1 = .ok (.invokespecial 3, 3) := by decide +kernel
theorem dX5_init_4 : decode cX5_init 4 = .ok (.aload_n 0, 1) := by decide +kernel
theorem dX5_init_5 : decode cX5_init 5 = .ok (.iload_n 1, 1) := by decide +kernel
theorem dX5_init_6 : decode cX5_init 6 = .ok (.iconst 0, 1) := by decide +kernel
theorem dX5_init_7 : decode cX5_init 7 = .ok (.invokestatic 9, 3) := by decide +kernel
theorem dX5_init_10 : decode cX5_init 10 = .ok (.newarray .int, 2) := by decide +kernel
theorem dX5_init_12 : decode cX5_init 12 = .ok (.putfield 15, 3) := by decide +kernel
theorem dX5_init_15 : decode cX5_init 15 = .ok (.return_, 1) := by decide +kernel
theorem dX5_size_0 : decode cX5_size 0 = .ok (.aload_n 0, 1) := by decide +kernel
theorem dX5_size_1 : decode cX5_size 1 = .ok (.getfield 21, 3) := by decide +kernel
theorem dX5_size_4 : decode cX5_size 4 = .ok (.ireturn, 1) := by decide +kernel
theorem dX5_at_0 : decode cX5_at 0 = .ok (.iload_n 1, 1) := by decide +kernel
theorem dX5_at_1 : decode cX5_at 1 = .ok (.ifCond .lt 24, 3) := by decide +kernel
theorem dX5_at_4 : decode cX5_at 4 = .ok (.iload_n 1, 1) := by decide +kernel
theorem dX5_at_5 : decode cX5_at 5 = .ok (.aload_n 0, 1) := by decide +kernel
theorem dX5_at_6 : decode cX5_at 6 = .ok (.getfield 21, 3) := by decide +kernel
theorem dX5_at_9 : decode cX5_at 9 = .ok (.if_icmp .ge 16, 3) := by decide +kernel
theorem dX5_at_12 : decode cX5_at 12 = .ok (.iload_n 1, 1) := by decide +kernel
theorem dX5_at_13 : decode cX5_at 13 = .ok (.aload_n 0, 1) := by decide +kernel
theorem dX5_at_14 : decode cX5_at 14 = .ok (.getfield 15, 3) := by decide +kernel
theorem dX5_at_17 : decode cX5_at 17 = .ok (.arraylength, 1) := by decide +kernel
theorem dX5_at_18 : decode cX5_at 18 = .ok (.if_icmp .ge 7, 3) := by decide +kernel
theorem dX5_at_21 : decode cX5_at 21 = .ok (.iconst 1, 1) := by decide +kernel
theorem dX5_at_22 : decode cX5_at 22 = .ok (.goto 4, 3) := by decide +kernel
theorem dX5_at_25 : decode cX5_at 25 = .ok (.iconst 0, 1) := by decide +kernel
theorem dX5_at_26 : decode cX5_at 26 = .ok (.istore_n 2, 1) := by decide +kernel
theorem dX5_at_27 : decode cX5_at 27 = .ok (.iload_n 2, 1) := by decide +kernel
theorem dX5_at_28 : decode cX5_at 28 = .ok (.ifCond .eq 12, 3) := by decide +kernel
theorem dX5_at_31 : decode cX5_at 31 = .ok (.aload_n 0, 1) := by decide +kernel
theorem dX5_at_32 : decode cX5_at 32 = .ok (.getfield 15, 3) := by decide +kernel
theorem dX5_at_35 : decode cX5_at 35 = .ok (.iload_n 1, 1) := by decide +kernel
theorem dX5_at_36 : decode cX5_at 36 = .ok (.iaload, 1) := by decide +kernel
theorem dX5_at_37 : decode cX5_at 37 = .ok (.goto 4, 3) := by decide +kernel
theorem dX5_at_40 : decode cX5_at 40 = .ok (.iconst (-1), 1) := by decide +kernel
theorem dX5_at_41 : decode cX5_at 41 = .ok (.ireturn, 1) := by decide +kernel
theorem dX5_clear_0 : decode cX5_clear 0 = .ok (.aload_n 0, 1) := by decide +kernel
theorem dX5_clear_1 : decode cX5_clear 1 = .ok (.iconst 0, 1) := by decide +kernel
theorem dX5_clear_2 : decode cX5_clear 2 = .ok (.putfield 21, 3) := by decide +kernel
theorem dX5_clear_5 : decode cX5_clear 5 = .ok (.return_, 1) := by decide +kernel
theorem dX5_append_0 : decode cX5_append 0 = .ok (.aload_n 0, 1) := by decide +kernel
theorem dX5_append_1 : decode cX5_append 1 = .ok (.getfield 21, 3) := by decide +kernel
theorem dX5_append_4 : decode cX5_append 4 = .ok (.ifCond .lt 15, 3) := by decide +kernel
theorem dX5_append_7 : decode cX5_append 7 = .ok (.aload_n 0, 1) := by decide +kernel
theorem dX5_append_8 : decode cX5_append 8 = .ok (.getfield 21, 3) := by decide +kernel
theorem dX5_append_11 : decode cX5_append 11 = .ok (.aload_n 0, 1) := by decide +kernel
theorem dX5_append_12 : decode cX5_append 12 = .ok (.getfield 15, 3) := by decide +kernel
theorem dX5_append_15 : decode cX5_append 15 = .ok (.arraylength, 1) := by decide +kernel
theorem dX5_append_16 : decode cX5_append 16 = .ok (.if_icmp .lt 5, 3) := by decide +kernel
theorem dX5_append_19 : decode cX5_append 19 = .ok (.iconst 0, 1) := by decide +kernel
theorem dX5_append_20 : decode cX5_append 20 = .ok (.ireturn, 1) := by decide +kernel
theorem dX5_append_21 : decode cX5_append 21 = .ok (.aload_n 0, 1) := by decide +kernel
theorem dX5_append_22 : decode cX5_append 22 = .ok (.getfield 15, 3) := by decide +kernel
theorem dX5_append_25 : decode cX5_append 25 = .ok (.aload_n 0, 1) := by decide +kernel
theorem dX5_append_26 : decode cX5_append 26 = .ok (.getfield 21, 3) := by decide +kernel
theorem dX5_append_29 : decode cX5_append 29 = .ok (.iload_n 1, 1) := by decide +kernel
theorem dX5_append_30 : decode cX5_append 30 = .ok (.iastore, 1) := by decide +kernel
theorem dX5_append_31 : decode cX5_append 31 = .ok (.aload_n 0, 1) := by decide +kernel
theorem dX5_append_32 : decode cX5_append 32 = .ok (.dup, 1) := by decide +kernel
theorem dX5_append_33 : decode cX5_append 33 = .ok (.getfield 21, 3) := by decide +kernel
theorem dX5_append_36 : decode cX5_append 36 = .ok (.iconst 1, 1) := by decide +kernel
theorem dX5_append_37 : decode cX5_append 37 = .ok (.iadd, 1) := by decide +kernel
theorem dX5_append_38 : decode cX5_append 38 = .ok (.putfield 21, 3) := by decide +kernel
theorem dX5_append_41 : decode cX5_append 41 = .ok (.iconst 1, 1) := by decide +kernel
theorem dX5_append_42 : decode cX5_append 42 = .ok (.ireturn, 1) := by decide +kernel
theorem dX5_copyFrom_0 : decode cX5_copyFrom 0 = .ok (.aload_n 0, 1) := by decide +kernel
theorem dX5_copyFrom_1 : decode cX5_copyFrom 1 = .ok (.invokevirtual 25, 3) := by decide +kernel
theorem dX5_copyFrom_4 : decode cX5_copyFrom 4 = .ok (.iconst 0, 1) := by decide +kernel
theorem dX5_copyFrom_5 : decode cX5_copyFrom 5 = .ok (.istore_n 2, 1) := by decide +kernel
theorem dX5_copyFrom_6 : decode cX5_copyFrom 6 = .ok (.iload_n 2, 1) := by decide +kernel
theorem dX5_copyFrom_7 : decode cX5_copyFrom 7 = .ok (.aload_n 1, 1) := by decide +kernel
theorem dX5_copyFrom_8 : decode cX5_copyFrom 8 = .ok (.invokevirtual 28, 3) := by decide +kernel
theorem dX5_copyFrom_11 : decode cX5_copyFrom 11 = .ok (.if_icmp .ge 19, 3) := by decide +kernel
theorem dX5_copyFrom_14 : decode cX5_copyFrom 14 = .ok (.aload_n 0, 1) := by decide +kernel
theorem dX5_copyFrom_15 : decode cX5_copyFrom 15 = .ok (.aload_n 1, 1) := by decide +kernel
theorem dX5_copyFrom_16 : decode cX5_copyFrom 16 = .ok (.iload_n 2, 1) := by decide +kernel
theorem dX5_copyFrom_17 : decode cX5_copyFrom 17 = .ok (.invokevirtual 31, 3) := by decide +kernel
theorem dX5_copyFrom_20 : decode cX5_copyFrom 20 = .ok (.invokevirtual 35, 3) := by decide +kernel
theorem dX5_copyFrom_23 : decode cX5_copyFrom 23 = .ok (.pop, 1) := by decide +kernel
theorem dX5_copyFrom_24 : decode cX5_copyFrom 24 = .ok (.iinc 2 1, 3) := by decide +kernel
theorem dX5_copyFrom_27 : decode cX5_copyFrom 27 = .ok (.goto (-21), 3) := by decide +kernel
theorem dX5_copyFrom_30 : decode cX5_copyFrom 30 = .ok (.return_, 1) := by decide +kernel
theorem dX5_isLike_0 : decode cX5_isLike 0 = .ok (.aload_n 0, 1) := by decide +kernel
theorem dX5_isLike_1 : decode cX5_isLike 1 = .ok (.getfield 21, 3) := by decide +kernel
theorem dX5_isLike_4 : decode cX5_isLike 4 = .ok (.aload_n 1, 1) := by decide +kernel
theorem dX5_isLike_5 : decode cX5_isLike 5 = .ok (.invokevirtual 28, 3) := by decide +kernel
theorem dX5_isLike_8 : decode cX5_isLike 8 = .ok (.if_icmp .eq 5, 3) := by decide +kernel
theorem dX5_isLike_11 : decode cX5_isLike 11 = .ok (.iconst 0, 1) := by decide +kernel
theorem dX5_isLike_12 : decode cX5_isLike 12 = .ok (.ireturn, 1) := by decide +kernel
theorem dX5_isLike_13 : decode cX5_isLike 13 = .ok (.iconst 0, 1) := by decide +kernel
theorem dX5_isLike_14 : decode cX5_isLike 14 = .ok (.istore_n 2, 1) := by decide +kernel
theorem dX5_isLike_15 : decode cX5_isLike 15 = .ok (.iload_n 2, 1) := by decide +kernel
theorem dX5_isLike_16 : decode cX5_isLike 16 = .ok (.aload_n 0, 1) := by decide +kernel
theorem dX5_isLike_17 : decode cX5_isLike 17 = .ok (.getfield 21, 3) := by decide +kernel
theorem dX5_isLike_20 : decode cX5_isLike 20 = .ok (.if_icmp .ge 24, 3) := by decide +kernel
theorem dX5_isLike_23 : decode cX5_isLike 23 = .ok (.aload_n 0, 1) := by decide +kernel
theorem dX5_isLike_24 : decode cX5_isLike 24 = .ok (.iload_n 2, 1) := by decide +kernel
theorem dX5_isLike_25 : decode cX5_isLike 25 = .ok (.invokevirtual 31, 3) := by decide +kernel
theorem dX5_isLike_28 : decode cX5_isLike 28 = .ok (.aload_n 1, 1) := by decide +kernel
theorem dX5_isLike_29 : decode cX5_isLike 29 = .ok (.iload_n 2, 1) := by decide +kernel
theorem dX5_isLike_30 : decode cX5_isLike 30 = .ok (.invokevirtual 31, 3) := by decide +kernel
theorem dX5_isLike_33 : decode cX5_isLike 33 = .ok (.if_icmp .eq 5, 3) := by decide +kernel
theorem dX5_isLike_36 : decode cX5_isLike 36 = .ok (.iconst 0, 1) := by decide +kernel
theorem dX5_isLike_37 : decode cX5_isLike 37 = .ok (.ireturn, 1) := by decide +kernel
theorem dX5_isLike_38 : decode cX5_isLike 38 = .ok (.iinc 2 1, 3) := by decide +kernel
theorem dX5_isLike_41 : decode cX5_isLike 41 = .ok (.goto (-26), 3) := by decide +kernel
theorem dX5_isLike_44 : decode cX5_isLike 44 = .ok (.iconst 1, 1) := by decide +kernel
theorem dX5_isLike_45 : decode cX5_isLike 45 = .ok (.ireturn, 1) := by decide +kernel
theorem dX5_asNumber_0 : decode cX5_asNumber 0 = .ok (.iconst 0, 1) := by decide +kernel
theorem dX5_asNumber_1 : decode cX5_asNumber 1 = .ok (.istore_n 1, 1) := by decide +kernel
theorem dX5_asNumber_2 : decode cX5_asNumber 2 = .ok (.iconst 0, 1) := by decide +kernel
theorem dX5_asNumber_3 : decode cX5_asNumber 3 = .ok (.istore_n 2, 1) := by decide +kernel
theorem dX5_asNumber_4 : decode cX5_asNumber 4 = .ok (.iload_n 2, 1) := by decide +kernel
theorem dX5_asNumber_5 : decode cX5_asNumber 5 = .ok (.aload_n 0, 1) := by decide +kernel
theorem dX5_asNumber_6 : decode cX5_asNumber 6 = .ok (.getfield 21, 3) := by decide +kernel
theorem dX5_asNumber_9 : decode cX5_asNumber 9 = .ok (.if_icmp .ge 20, 3) := by decide +kernel
theorem dX5_asNumber_12 : decode cX5_asNumber 12 = .ok (.bipush 10, 2) := by decide +kernel
theorem dX5_asNumber_14 : decode cX5_asNumber 14 = .ok (.iload_n 1, 1) := by decide +kernel
theorem dX5_asNumber_15 : decode cX5_asNumber 15 = .ok (.imul, 1) := by decide +kernel
theorem dX5_asNumber_16 : decode cX5_asNumber 16 = .ok (.aload_n 0, 1) := by decide +kernel
theorem dX5_asNumber_17 : decode cX5_asNumber 17 = .ok (.iload_n 2, 1) := by decide +kernel
theorem dX5_asNumber_18 : decode cX5_asNumber 18 = .ok (.invokevirtual 31, 3) := by decide +kernel
theorem dX5_asNumber_21 : decode cX5_asNumber 21 = .ok (.iadd, 1) := by decide +kernel
theorem dX5_asNumber_22 : decode cX5_asNumber 22 = .ok (.istore_n 1, 1) := by decide +kernel
theorem dX5_asNumber_23 : decode cX5_asNumber 23 = .ok (.iinc 2 1, 3) := by decide +kernel
theorem dX5_asNumber_26 : decode cX5_asNumber 26 = .ok (.goto (-22), 3) := by decide +kernel
theorem dX5_asNumber_29 : decode cX5_asNumber 29 = .ok (.iload_n 1, 1) := by decide +kernel
theorem dX5_asNumber_30 : decode cX5_asNumber 30 = .ok (.ireturn, 1) := by decide +kernel
theorem dX6_init_0 : decode cX6_init 0 = .ok (.aload_n 0, 1) := by decide +kernel
theorem dX6_init_1 : decode cX6_init 1 = .ok (.invokespecial 1, 3) := by decide +kernel
theorem dX6_init_4 : decode cX6_init 4 = .ok (.aload_n 0, 1) := by decide +kernel
theorem dX6_init_5 : decode cX6_init 5 = .ok (.new 7, 3) := by decide +kernel
theorem dX6_init_8 : decode cX6_init 8 = .ok (.dup, 1) := by decide +kernel
theorem dX6_init_9 : decode cX6_init 9 = .ok (.bipush 52, 2) := by decide +kernel
theorem dX6_init_11 : decode cX6_init 11 = .ok (.invokespecial 11, 3) := by decide +kernel
theorem dX6_init_14 : decode cX6_init 14 = .ok (.putfield 14, 3) := by decide +kernel
theorem dX6_init_17 : decode cX6_init 17 = .ok (.aload_n 0, 1) := by decide +kernel
theorem dX6_init_18 : decode cX6_init 18 = .ok (.new 18, 3) := by decide +kernel
theorem dX6_init_21 : decode cX6_init 21 = .ok (.dup, 1) := by decide +kernel
theorem dX6_init_22 : decode cX6_init 22 = .ok (.invokespecial 20, 3) := by decide +kernel
theorem dX6_init_25 : decode cX6_init 25 = .ok (.putfield 21, 3) := by decide +kernel
theorem dX6_init_28 : decode cX6_init 28 = .ok (.aload_n 0, 1) := by decide +kernel
theorem dX6_init_29 : decode cX6_init 29 = .ok (.new 25, 3) := by decide +kernel
theorem dX6_init_32 : decode cX6_init 32 = .ok (.dup, 1) := by decide +kernel
theorem dX6_init_33 : decode cX6_init 33 = .ok (.invokespecial 27, 3) := by decide +kernel
theorem dX6_init_36 : decode cX6_init 36 = .ok (.putfield 28, 3) := by decide +kernel
theorem dX6_init_39 : decode cX6_init 39 = .ok (.aload_n 0, 1) := by decide +kernel
theorem dX6_init_40 : decode cX6_init 40 = .ok (.new 7, 3) := by decide +kernel
theorem dX6_init_43 : decode cX6_init 43 = .ok (.dup, 1) := by decide +kernel
theorem dX6_init_44 : decode cX6_init 44 = .ok (.bipush 10, 2) := by decide +kernel
theorem dX6_init_46 : decode cX6_init 46 = .ok (.invokespecial 11, 3) := by decide +kernel
theorem dX6_init_49 : decode cX6_init 49 = .ok (.putfield 32, 3) := by decide +kernel
theorem dX6_init_52 : decode cX6_init 52 = .ok (.aload_n 0, 1) := by decide +kernel
theorem dX6_init_53 : decode cX6_init 53 = .ok (.new 35, 3) := by decide +kernel
theorem dX6_init_56 : decode cX6_init 56 = .ok (.dup, 1) := by decide +kernel
theorem dX6_init_57 : decode cX6_init 57 = .ok (.invokespecial 37, 3) := by decide +kernel
theorem dX6_init_60 : decode cX6_init 60 = .ok (.putfield 38, 3) := by decide +kernel
theorem dX6_init_63 : decode cX6_init 63 = .ok (.aload_n 0, 1) := by decide +kernel
theorem dX6_init_64 : decode cX6_init 64 = .ok (.new 42, 3) := by decide +kernel
theorem dX6_init_67 : decode cX6_init 67 = .ok (.dup, 1) := by decide +kernel
theorem dX6_init_68 : decode cX6_init 68 = .ok (.invokespecial 44, 3) := by decide +kernel
theorem dX6_init_71 : decode cX6_init 71 = .ok (.putfield 45, 3) := by decide +kernel
theorem dX6_init_74 : decode cX6_init 74 = .ok (.return_, 1) := by decide +kernel
theorem dX6_letter_0 : decode cX6_letter 0 = .ok (.iload_n 1, 1) := by decide +kernel
theorem dX6_letter_1 : decode cX6_letter 1 = .ok (.bipush 32, 2) := by decide +kernel
theorem dX6_letter_3 : decode cX6_letter 3 = .ok (.if_icmp .lt 9, 3) := by decide +kernel
theorem dX6_letter_6 : decode cX6_letter 6 = .ok (.iload_n 1, 1) := by decide +kernel
theorem dX6_letter_7 : decode cX6_letter 7 = .ok (.bipush 126, 2) := by decide +kernel
theorem dX6_letter_9 : decode cX6_letter 9 = .ok (.if_icmp .le 7, 3) := by decide +kernel
theorem dX6_letter_12 : decode cX6_letter 12 = .ok (.sipush (-1002), 3) := by decide +kernel
theorem dX6_letter_15 : decode cX6_letter 15 = .ok (.ireturn, 1) := by decide +kernel
theorem dX6_letter_16 : decode cX6_letter 16 = .ok (.aload_n 0, 1) := by decide +kernel
theorem dX6_letter_17 : decode cX6_letter 17 = .ok (.getfield 14, 3) := by decide +kernel
theorem dX6_letter_20 : decode cX6_letter 20 = .ok (.iload_n 1, 1) := by decide +kernel
theorem dX6_letter_21 : decode cX6_letter 21 = .ok (.invokevirtual 49, 3) := by decide +kernel
theorem dX6_letter_24 : decode cX6_letter 24 = .ok (.ifCond .eq 13, 3) := by decide +kernel
theorem dX6_letter_27 : decode cX6_letter 27 = .ok (.aload_n 0, 1) := by decide +kernel
theorem dX6_letter_28 : decode cX6_letter 28 = .ok (.getfield 14, 3) := by decide +kernel
theorem dX6_letter_31 : decode cX6_letter 31 = .ok (.invokevirtual 53, 3) := by decide +kernel
theorem dX6_letter_34 : decode cX6_letter 34 = .ok (.goto 6, 3) := by decide +kernel
theorem dX6_letter_37 : decode cX6_letter 37 = .ok (.sipush (-1004), 3) := by decide +kernel
theorem dX6_letter_40 : decode cX6_letter 40 = .ok (.ireturn, 1) := by decide +kernel
theorem dX6_blank_0 : decode cX6_blank 0 = .ok (.aload_n 0, 1) := by decide +kernel
theorem dX6_blank_1 : decode cX6_blank 1 = .ok (.getfield 14, 3) := by decide +kernel
theorem dX6_blank_4 : decode cX6_blank 4 = .ok (.invokevirtual 53, 3) := by decide +kernel
theorem dX6_blank_7 : decode cX6_blank 7 = .ok (.istore_n 1, 1) := by decide +kernel
theorem dX6_blank_8 : decode cX6_blank 8 = .ok (.aload_n 0, 1) := by decide +kernel
theorem dX6_blank_9 : decode cX6_blank 9 = .ok (.getfield 14, 3) := by decide +kernel
theorem dX6_blank_12 : decode cX6_blank 12 = .ok (.invokevirtual 57, 3) := by decide +kernel
theorem dX6_blank_15 : decode cX6_blank 15 = .ok (.iload_n 1, 1) := by decide +kernel
theorem dX6_blank_16 : decode cX6_blank 16 = .ok (.ireturn, 1) := by decide +kernel
theorem dX6_fault_0 : decode cX6_fault 0 = .ok (.aload_n 0, 1) := by decide +kernel
theorem dX6_fault_1 : decode cX6_fault 1 = .ok (.getfield 21, 3) := by decide +kernel
theorem dX6_fault_4 : decode cX6_fault 4 = .ok (.aload_n 0, 1) := by decide +kernel
theorem dX6_fault_5 : decode cX6_fault 5 = .ok (.getfield 14, 3) := by decide +kernel
theorem dX6_fault_8 : decode cX6_fault 8 = .ok (.invokevirtual 60, 3) := by decide +kernel
theorem dX6_fault_11 : decode cX6_fault 11 = .ok (.ireturn, 1) := by decide +kernel
theorem dX6_add_0 : decode cX6_add 0 = .ok (.aload_n 0, 1) := by decide +kernel
theorem dX6_add_1 : decode cX6_add 1 = .ok (.getfield 21, 3) := by decide +kernel
theorem dX6_add_4 : decode cX6_add 4 = .ok (.aload_n 0, 1) := by decide +kernel
theorem dX6_add_5 : decode cX6_add 5 = .ok (.getfield 14, 3) := by decide +kernel
theorem dX6_add_8 : decode cX6_add 8 = .ok (.invokevirtual 60, 3) := by decide +kernel
theorem dX6_add_11 : decode cX6_add 11 = .ok (.aload_n 0, 1) := by decide +kernel
theorem dX6_add_12 : decode cX6_add 12 = .ok (.getfield 14, 3) := by decide +kernel
theorem dX6_add_15 : decode cX6_add 15 = .ok (.invokevirtual 53, 3) := by decide +kernel
theorem dX6_add_18 : decode cX6_add 18 = .ok (.if_icmp .ne 17, 3) := by decide +kernel
theorem dX6_add_21 : decode cX6_add 21 = .ok (.aload_n 0, 1) := by decide +kernel
theorem dX6_add_22 : decode cX6_add 22 = .ok (.getfield 21, 3) := by decide +kernel
theorem dX6_add_25 : decode cX6_add 25 = .ok (.invokevirtual 64, 3) := by decide +kernel
theorem dX6_add_28 : decode cX6_add 28 = .ok (.ifCond .eq 7, 3) := by decide +kernel
theorem dX6_add_31 : decode cX6_add 31 = .ok (.iconst 1, 1) := by decide +kernel
theorem dX6_add_32 : decode cX6_add 32 = .ok (.goto 4, 3) := by decide +kernel
theorem dX6_add_35 : decode cX6_add 35 = .ok (.iconst 0, 1) := by decide +kernel
theorem dX6_add_36 : decode cX6_add 36 = .ok (.istore_n 1, 1) := by decide +kernel
theorem dX6_add_37 : decode cX6_add 37 = .ok (.iload_n 1, 1) := by decide +kernel
theorem dX6_add_38 : decode cX6_add 38 = .ok (.ifCond .eq 13, 3) := by decide +kernel
theorem dX6_add_41 : decode cX6_add 41 = .ok (.aload_n 0, 1) := by decide +kernel
theorem dX6_add_42 : decode cX6_add 42 = .ok (.getfield 45, 3) := by decide +kernel
theorem dX6_add_45 : decode cX6_add 45 = .ok (.invokevirtual 68, 3) := by decide +kernel
theorem dX6_add_48 : decode cX6_add 48 = .ok (.ifCond .eq 7, 3) := by decide +kernel
theorem dX6_add_51 : decode cX6_add 51 = .ok (.sipush (-1003), 3) := by decide +kernel
theorem dX6_add_54 : decode cX6_add 54 = .ok (.ireturn, 1) := by decide +kernel
theorem dX6_add_55 : decode cX6_add 55 = .ok (.aload_n 0, 1) := by decide +kernel
theorem dX6_add_56 : decode cX6_add 56 = .ok (.getfield 28, 3) := by decide +kernel
theorem dX6_add_59 : decode cX6_add 59 = .ok (.aload_n 0, 1) := by decide +kernel
theorem dX6_add_60 : decode cX6_add 60 = .ok (.getfield 21, 3) := by decide +kernel
theorem dX6_add_63 : decode cX6_add 63 = .ok (.invokevirtual 71, 3) := by decide +kernel
theorem dX6_add_66 : decode cX6_add 66 = .ok (.invokevirtual 75, 3) := by decide +kernel
theorem dX6_add_69 : decode cX6_add 69 = .ok (.ifCond .ne 7, 3) := by decide +kernel
theorem dX6_add_72 : decode cX6_add 72 = .ok (.sipush (-1004), 3) := by decide +kernel
theorem dX6_add_75 : decode cX6_add 75 = .ok (.ireturn, 1) := by decide +kernel
theorem dX6_add_76 : decode cX6_add 76 = .ok (.aload_n 0, 1) := by decide +kernel
theorem dX6_add_77 : decode cX6_add 77 = .ok (.getfield 14, 3) := by decide +kernel
theorem dX6_add_80 : decode cX6_add 80 = .ok (.invokevirtual 57, 3) := by decide +kernel
theorem dX6_add_83 : decode cX6_add 83 = .ok (.aload_n 0, 1) := by decide +kernel
theorem dX6_add_84 : decode cX6_add 84 = .ok (.getfield 28, 3) := by decide +kernel
theorem dX6_add_87 : decode cX6_add 87 = .ok (.invokevirtual 78, 3) := by decide +kernel
theorem dX6_add_90 : decode cX6_add 90 = .ok (.iconst 1, 1) := by decide +kernel
theorem dX6_add_91 : decode cX6_add 91 = .ok (.isub, 1) := by decide +kernel
theorem dX6_add_92 : decode cX6_add 92 = .ok (.ireturn, 1) := by decide +kernel
theorem dX6_drop_0 : decode cX6_drop 0 = .ok (.aload_n 0, 1) := by decide +kernel
theorem dX6_drop_1 : decode cX6_drop 1 = .ok (.getfield 28, 3) := by decide +kernel
theorem dX6_drop_4 : decode cX6_drop 4 = .ok (.iload_n 1, 1) := by decide +kernel
theorem dX6_drop_5 : decode cX6_drop 5 = .ok (.invokevirtual 79, 3) := by decide +kernel
theorem dX6_drop_8 : decode cX6_drop 8 = .ok (.ifnonnull 7, 3) := by decide +kernel
theorem dX6_drop_11 : decode cX6_drop 11 = .ok (.sipush (-1001), 3) := by decide +kernel
theorem dX6_drop_14 : decode cX6_drop 14 = .ok (.ireturn, 1) := by decide +kernel
theorem dX6_drop_15 : decode cX6_drop 15 = .ok (.aload_n 0, 1) := by decide +kernel
theorem dX6_drop_16 : decode cX6_drop 16 = .ok (.getfield 45, 3) := by decide +kernel
theorem dX6_drop_19 : decode cX6_drop 19 = .ok (.invokevirtual 68, 3) := by decide +kernel
theorem dX6_drop_22 : decode cX6_drop 22 = .ok (.ifCond .eq 7, 3) := by decide +kernel
theorem dX6_drop_25 : decode cX6_drop 25 = .ok (.sipush (-1003), 3) := by decide +kernel
theorem dX6_drop_28 : decode cX6_drop 28 = .ok (.ireturn, 1) := by decide +kernel
theorem dX6_drop_29 : decode cX6_drop 29 = .ok (.aload_n 0, 1) := by decide +kernel
theorem dX6_drop_30 : decode cX6_drop 30 = .ok (.getfield 28, 3) := by decide +kernel
theorem dX6_drop_33 : decode cX6_drop 33 = .ok (.iload_n 1, 1) := by decide +kernel
theorem dX6_drop_34 : decode cX6_drop 34 = .ok (.invokevirtual 83, 3) := by decide +kernel
theorem dX6_drop_37 : decode cX6_drop 37 = .ok (.aload_n 0, 1) := by decide +kernel
theorem dX6_drop_38 : decode cX6_drop 38 = .ok (.getfield 28, 3) := by decide +kernel
theorem dX6_drop_41 : decode cX6_drop 41 = .ok (.invokevirtual 78, 3) := by decide +kernel
theorem dX6_drop_44 : decode cX6_drop 44 = .ok (.ireturn, 1) := by decide +kernel
theorem dX6_pattern_0 : decode cX6_pattern 0 = .ok (.aload_n 0, 1) := by decide +kernel
theorem dX6_pattern_1 : decode cX6_pattern 1 = .ok (.getfield 28, 3) := by decide +kernel
theorem dX6_pattern_4 : decode cX6_pattern 4 = .ok (.iload_n 1, 1) := by decide +kernel
theorem dX6_pattern_5 : decode cX6_pattern 5 = .ok (.invokevirtual 79, 3) := by decide +kernel
theorem dX6_pattern_8 : decode cX6_pattern 8 = .ok (.astore_n 3, 1) := by decide +kernel
theorem dX6_pattern_9 : decode cX6_pattern 9 = .ok (.aload_n 3, 1) := by decide +kernel
theorem dX6_pattern_10 : decode cX6_pattern 10 = .ok (.ifnonnull 7, 3) := by decide +kernel
theorem dX6_pattern_13 : decode cX6_pattern 13 = .ok (.sipush (-1001), 3) := by decide +kernel
theorem dX6_pattern_16 : decode cX6_pattern 16 = .ok (.ireturn, 1) := by decide +kernel
theorem dX6_pattern_17 : decode cX6_pattern 17 = .ok (.iload_n 2, 1) := by decide +kernel
theorem dX6_pattern_18 : decode cX6_pattern 18 = .ok (.tableswitch 82 0 5 #[38, 43, 56, 61, 66, 74], 38) := by decide +kernel
theorem dX6_pattern_56 : decode cX6_pattern 56 = .ok (.aload_n 3, 1) := by decide +kernel
theorem dX6_pattern_57 : decode cX6_pattern 57 = .ok (.invokevirtual 86, 3) := by decide +kernel
theorem dX6_pattern_60 : decode cX6_pattern 60 = .ok (.ireturn, 1) := by decide +kernel
theorem dX6_pattern_61 : decode cX6_pattern 61 = .ok (.aload_n 3, 1) := by decide +kernel
theorem dX6_pattern_62 : decode cX6_pattern 62 = .ok (.invokevirtual 91, 3) := by decide +kernel
theorem dX6_pattern_65 : decode cX6_pattern 65 = .ok (.ifCond .eq 7, 3) := by decide +kernel
theorem dX6_pattern_68 : decode cX6_pattern 68 = .ok (.iconst 1, 1) := by decide +kernel
theorem dX6_pattern_69 : decode cX6_pattern 69 = .ok (.goto 4, 3) := by decide +kernel
theorem dX6_pattern_72 : decode cX6_pattern 72 = .ok (.iconst 0, 1) := by decide +kernel
theorem dX6_pattern_73 : decode cX6_pattern 73 = .ok (.ireturn, 1) := by decide +kernel
theorem dX6_pattern_74 : decode cX6_pattern 74 = .ok (.aload_n 3, 1) := by decide +kernel
theorem dX6_pattern_75 : decode cX6_pattern 75 = .ok (.invokevirtual 94, 3) := by decide +kernel
theorem dX6_pattern_78 : decode cX6_pattern 78 = .ok (.ireturn, 1) := by decide +kernel
theorem dX6_pattern_79 : decode cX6_pattern 79 = .ok (.aload_n 3, 1) := by decide +kernel
theorem dX6_pattern_80 : decode cX6_pattern 80 = .ok (.invokevirtual 97, 3) := by decide +kernel
theorem dX6_pattern_83 : decode cX6_pattern 83 = .ok (.ireturn, 1) := by decide +kernel
theorem dX6_pattern_84 : decode cX6_pattern 84 = .ok (.aload_n 3, 1) := by decide +kernel
theorem dX6_pattern_85 : decode cX6_pattern 85 = .ok (.invokevirtual 100, 3) := by decide +kernel
theorem dX6_pattern_88 : decode cX6_pattern 88 = .ok (.invokevirtual 53, 3) := by decide +kernel
theorem dX6_pattern_91 : decode cX6_pattern 91 = .ok (.ireturn, 1) := by decide +kernel
theorem dX6_pattern_92 : decode cX6_pattern 92 = .ok (.aload_n 3, 1) := by decide +kernel
theorem dX6_pattern_93 : decode cX6_pattern 93 = .ok (.invokevirtual 100, 3) := by decide +kernel
theorem dX6_pattern_96 : decode cX6_pattern 96 = .ok (.invokevirtual 104, 3) := by decide +kernel
theorem dX6_pattern_99 : decode cX6_pattern 99 = .ok (.ireturn, 1) := by decide +kernel
theorem dX6_pattern_100 : decode cX6_pattern 100 = .ok (.sipush (-1002), 3) := by decide +kernel
theorem dX6_pattern_103 : decode cX6_pattern 103 = .ok (.ireturn, 1) := by decide +kernel
theorem dX6_lets_0 : decode cX6_lets 0 = .ok (.aload_n 0, 1) := by decide +kernel
theorem dX6_lets_1 : decode cX6_lets 1 = .ok (.getfield 28, 3) := by decide +kernel
theorem dX6_lets_4 : decode cX6_lets 4 = .ok (.iload_n 1, 1) := by decide +kernel
theorem dX6_lets_5 : decode cX6_lets 5 = .ok (.invokevirtual 79, 3) := by decide +kernel
theorem dX6_lets_8 : decode cX6_lets 8 = .ok (.astore_n 3, 1) := by decide +kernel
theorem dX6_lets_9 : decode cX6_lets 9 = .ok (.aload_n 3, 1) := by decide +kernel
theorem dX6_lets_10 : decode cX6_lets 10 = .ok (.ifnonnull 7, 3) := by decide +kernel
theorem dX6_lets_13 : decode cX6_lets 13 = .ok (.sipush (-1001), 3) := by decide +kernel
theorem dX6_lets_16 : decode cX6_lets 16 = .ok (.ireturn, 1) := by decide +kernel
theorem dX6_lets_17 : decode cX6_lets 17 = .ok (.iload_n 2, 1) := by decide +kernel
theorem dX6_lets_18 : decode cX6_lets 18 = .ok (.ifCond .lt 9, 3) := by decide +kernel
theorem dX6_lets_21 : decode cX6_lets 21 = .ok (.iload_n 2, 1) := by decide +kernel
theorem dX6_lets_22 : decode cX6_lets 22 = .ok (.bipush 10, 2) := by decide +kernel
theorem dX6_lets_24 : decode cX6_lets 24 = .ok (.if_icmp .lt 7, 3) := by decide +kernel
theorem dX6_lets_27 : decode cX6_lets 27 = .ok (.sipush (-1002), 3) := by decide +kernel
theorem dX6_lets_30 : decode cX6_lets 30 = .ok (.ireturn, 1) := by decide +kernel
theorem dX6_lets_31 : decode cX6_lets 31 = .ok (.aload_n 3, 1) := by decide +kernel
theorem dX6_lets_32 : decode cX6_lets 32 = .ok (.iload_n 2, 1) := by decide +kernel
theorem dX6_lets_33 : decode cX6_lets 33 = .ok (.invokevirtual 107, 3) := by decide +kernel
theorem dX6_lets_36 : decode cX6_lets 36 = .ok (.ireturn, 1) := by decide +kernel
theorem dX6_narrower_0 : decode cX6_narrower 0 = .ok (.aload_n 0, 1) := by decide +kernel
theorem dX6_narrower_1 : decode cX6_narrower 1 = .ok (.getfield 28, 3) := by decide +kernel
theorem dX6_narrower_4 : decode cX6_narrower 4 = .ok (.iload_n 1, 1) := by decide +kernel
theorem dX6_narrower_5 : decode cX6_narrower 5 = .ok (.invokevirtual 79, 3) := by decide +kernel
theorem dX6_narrower_8 : decode cX6_narrower 8 = .ok (.astore_n 3, 1) := by decide +kernel
theorem dX6_narrower_9 : decode cX6_narrower 9 = .ok (.aload_n 0, 1) := by decide +kernel
theorem dX6_narrower_10 : decode cX6_narrower 10 = .ok (.getfield 28, 3) := by decide +kernel
theorem dX6_narrower_13 : decode cX6_narrower 13 = .ok (.iload_n 2, 1) := by decide +kernel
theorem dX6_narrower_14 : decode cX6_narrower 14 = .ok (.invokevirtual 79, 3) := by decide +kernel
theorem dX6_narrower_17 : decode cX6_narrower 17 = .ok (.astore 4, 2) := by decide +kernel
theorem dX6_narrower_19 : decode cX6_narrower 19 = .ok (.aload_n 3, 1) := by decide +kernel
theorem dX6_narrower_20 : decode cX6_narrower 20 = .ok (.ifnull 8, 3) := by decide +kernel
theorem dX6_narrower_23 : decode cX6_narrower 23 = .ok (.aload 4, 2) := by decide +kernel
theorem dX6_narrower_25 : decode cX6_narrower 25 = .ok (.ifnonnull 7, 3) := by decide +kernel
theorem dX6_narrower_28 : decode cX6_narrower 28 = .ok (.sipush (-1001), 3) := by decide +kernel
theorem dX6_narrower_31 : decode cX6_narrower 31 = .ok (.ireturn, 1) := by decide +kernel
theorem dX6_narrower_32 : decode cX6_narrower 32 = .ok (.aload_n 3, 1) := by decide +kernel
theorem dX6_narrower_33 : decode cX6_narrower 33 = .ok (.aload 4, 2) := by decide +kernel
theorem dX6_narrower_35 : decode cX6_narrower 35 = .ok (.invokevirtual 111, 3) := by decide +kernel
theorem dX6_narrower_38 : decode cX6_narrower 38 = .ok (.ifCond .eq 5, 3) := by decide +kernel
theorem dX6_narrower_41 : decode cX6_narrower 41 = .ok (.iconst 0, 1) := by decide +kernel
theorem dX6_narrower_42 : decode cX6_narrower 42 = .ok (.ireturn, 1) := by decide +kernel
theorem dX6_narrower_43 : decode cX6_narrower 43 = .ok (.aload 4, 2) := by decide +kernel
theorem dX6_narrower_45 : decode cX6_narrower 45 = .ok (.aload_n 3, 1) := by decide +kernel
theorem dX6_narrower_46 : decode cX6_narrower 46 = .ok (.invokevirtual 111, 3) := by decide +kernel
theorem dX6_narrower_49 : decode cX6_narrower 49 = .ok (.ifCond .eq 7, 3) := by decide +kernel
theorem dX6_narrower_52 : decode cX6_narrower 52 = .ok (.iconst 1, 1) := by decide +kernel
theorem dX6_narrower_53 : decode cX6_narrower 53 = .ok (.goto 4, 3) := by decide +kernel
theorem dX6_narrower_56 : decode cX6_narrower 56 = .ok (.iconst 2, 1) := by decide +kernel
theorem dX6_narrower_57 : decode cX6_narrower 57 = .ok (.ireturn, 1) := by decide +kernel
theorem dX6_clash_0 : decode cX6_clash 0 = .ok (.iload_n 1, 1) := by decide +kernel
theorem dX6_clash_1 : decode cX6_clash 1 = .ok (.istore_n 2, 1) := by decide +kernel
theorem dX6_clash_2 : decode cX6_clash 2 = .ok (.iconst 0, 1) := by decide +kernel
theorem dX6_clash_3 : decode cX6_clash 3 = .ok (.istore_n 3, 1) := by decide +kernel
theorem dX6_clash_4 : decode cX6_clash 4 = .ok (.iload_n 3, 1) := by decide +kernel
theorem dX6_clash_5 : decode cX6_clash 5 = .ok (.aload_n 0, 1) := by decide +kernel
theorem dX6_clash_6 : decode cX6_clash 6 = .ok (.getfield 28, 3) := by decide +kernel
theorem dX6_clash_9 : decode cX6_clash 9 = .ok (.invokevirtual 78, 3) := by decide +kernel
theorem dX6_clash_12 : decode cX6_clash 12 = .ok (.if_icmp .ge 64, 3) := by decide +kernel
theorem dX6_clash_15 : decode cX6_clash 15 = .ok (.iload_n 2, 1) := by decide +kernel
theorem dX6_clash_16 : decode cX6_clash 16 = .ok (.ifCond .lt 60, 3) := by decide +kernel
theorem dX6_clash_19 : decode cX6_clash 19 = .ok (.iload_n 3, 1) := by decide +kernel
theorem dX6_clash_20 : decode cX6_clash 20 = .ok (.iconst 1, 1) := by decide +kernel
theorem dX6_clash_21 : decode cX6_clash 21 = .ok (.iadd, 1) := by decide +kernel
theorem dX6_clash_22 : decode cX6_clash 22 = .ok (.istore 4, 2) := by decide +kernel
theorem dX6_clash_24 : decode cX6_clash 24 = .ok (.iload 4, 2) := by decide +kernel
theorem dX6_clash_26 : decode cX6_clash 26 = .ok (.aload_n 0, 1) := by decide +kernel
theorem dX6_clash_27 : decode cX6_clash 27 = .ok (.getfield 28, 3) := by decide +kernel
theorem dX6_clash_30 : decode cX6_clash 30 = .ok (.invokevirtual 78, 3) := by decide +kernel
theorem dX6_clash_33 : decode cX6_clash 33 = .ok (.if_icmp .ge 37, 3) := by decide +kernel
theorem dX6_clash_36 : decode cX6_clash 36 = .ok (.aload_n 0, 1) := by decide +kernel
theorem dX6_clash_37 : decode cX6_clash 37 = .ok (.getfield 28, 3) := by decide +kernel
theorem dX6_clash_40 : decode cX6_clash 40 = .ok (.iload_n 3, 1) := by decide +kernel
theorem dX6_clash_41 : decode cX6_clash 41 = .ok (.iload 4, 2) := by decide +kernel
theorem dX6_clash_43 : decode cX6_clash 43 = .ok (.invokevirtual 114, 3) := by decide +kernel
theorem dX6_clash_46 : decode cX6_clash 46 = .ok (.ifCond .eq 18, 3) := by decide +kernel
theorem dX6_clash_49 : decode cX6_clash 49 = .ok (.iload_n 2, 1) := by decide +kernel
theorem dX6_clash_50 : decode cX6_clash 50 = .ok (.ifCond .ne 11, 3) := by decide +kernel
theorem dX6_clash_53 : decode cX6_clash 53 = .ok (.bipush 16, 2) := by decide +kernel
theorem dX6_clash_55 : decode cX6_clash 55 = .ok (.iload_n 3, 1) := by decide +kernel
theorem dX6_clash_56 : decode cX6_clash 56 = .ok (.imul, 1) := by decide +kernel
theorem dX6_clash_57 : decode cX6_clash 57 = .ok (.iload 4, 2) := by decide +kernel
theorem dX6_clash_59 : decode cX6_clash 59 = .ok (.iadd, 1) := by decide +kernel
theorem dX6_clash_60 : decode cX6_clash 60 = .ok (.ireturn, 1) := by decide +kernel
theorem dX6_clash_61 : decode cX6_clash 61 = .ok (.iinc 2 (-1), 3) := by decide +kernel
theorem dX6_clash_64 : decode cX6_clash 64 = .ok (.iinc 4 1, 3) := by decide +kernel
theorem dX6_clash_67 : decode cX6_clash 67 = .ok (.goto (-43), 3) := by decide +kernel
theorem dX6_clash_70 : decode cX6_clash 70 = .ok (.iinc 3 1, 3) := by decide +kernel
theorem dX6_clash_73 : decode cX6_clash 73 = .ok (.goto (-69), 3) := by decide +kernel
theorem dX6_clash_76 : decode cX6_clash 76 = .ok (.sipush (-1001), 3) := by decide +kernel
theorem dX6_clash_79 : decode cX6_clash 79 = .ok (.ireturn, 1) := by decide +kernel
theorem dX6_row_0 : decode cX6_row 0 = .ok (.iload_n 1, 1) := by decide +kernel
theorem dX6_row_1 : decode cX6_row 1 = .ok (.bipush 10, 2) := by decide +kernel
theorem dX6_row_3 : decode cX6_row 3 = .ok (.if_icmp .lt 13, 3) := by decide +kernel
theorem dX6_row_6 : decode cX6_row 6 = .ok (.iload_n 1, 1) := by decide +kernel
theorem dX6_row_7 : decode cX6_row 7 = .ok (.bipush 20, 2) := by decide +kernel
theorem dX6_row_9 : decode cX6_row 9 = .ok (.if_icmp .ge 7, 3) := by decide +kernel
theorem dX6_row_12 : decode cX6_row 12 = .ok (.iconst 1, 1) := by decide +kernel
theorem dX6_row_13 : decode cX6_row 13 = .ok (.goto 4, 3) := by decide +kernel
theorem dX6_row_16 : decode cX6_row 16 = .ok (.iconst 0, 1) := by decide +kernel
theorem dX6_row_17 : decode cX6_row 17 = .ok (.istore_n 2, 1) := by decide +kernel
theorem dX6_row_18 : decode cX6_row 18 = .ok (.iload_n 2, 1) := by decide +kernel
theorem dX6_row_19 : decode cX6_row 19 = .ok (.ifCond .ne 16, 3) := by decide +kernel
theorem dX6_row_22 : decode cX6_row 22 = .ok (.iload_n 1, 1) := by decide +kernel
theorem dX6_row_23 : decode cX6_row 23 = .ok (.ifCond .lt 8, 3) := by decide +kernel
theorem dX6_row_26 : decode cX6_row 26 = .ok (.iload_n 1, 1) := by decide +kernel
theorem dX6_row_27 : decode cX6_row 27 = .ok (.iconst 5, 1) := by decide +kernel
theorem dX6_row_28 : decode cX6_row 28 = .ok (.if_icmp .le 7, 3) := by decide +kernel
theorem dX6_row_31 : decode cX6_row 31 = .ok (.sipush (-1002), 3) := by decide +kernel
theorem dX6_row_34 : decode cX6_row 34 = .ok (.ireturn, 1) := by decide +kernel
theorem dX6_row_35 : decode cX6_row 35 = .ok (.aload_n 0, 1) := by decide +kernel
theorem dX6_row_36 : decode cX6_row 36 = .ok (.invokevirtual 118, 3) := by decide +kernel
theorem dX6_row_39 : decode cX6_row 39 = .ok (.ifCond .ne 7, 3) := by decide +kernel
theorem dX6_row_42 : decode cX6_row 42 = .ok (.sipush (-1003), 3) := by decide +kernel
theorem dX6_row_45 : decode cX6_row 45 = .ok (.ireturn, 1) := by decide +kernel
theorem dX6_row_46 : decode cX6_row 46 = .ok (.iload_n 1, 1) := by decide +kernel
theorem dX6_row_47 : decode cX6_row 47 = .ok (.tableswitch 64 0 2 #[25, 38, 51], 25) := by decide +kernel
theorem dX6_row_72 : decode cX6_row 72 = .ok (.aload_n 0, 1) := by decide +kernel
theorem dX6_row_73 : decode cX6_row 73 = .ok (.getfield 28, 3) := by decide +kernel
theorem dX6_row_76 : decode cX6_row 76 = .ok (.aload_n 0, 1) := by decide +kernel
theorem dX6_row_77 : decode cX6_row 77 = .ok (.getfield 32, 3) := by decide +kernel
theorem dX6_row_80 : decode cX6_row 80 = .ok (.iconst 0, 1) := by decide +kernel
theorem dX6_row_81 : decode cX6_row 81 = .ok (.invokevirtual 121, 3) := by decide +kernel
theorem dX6_row_84 : decode cX6_row 84 = .ok (.ireturn, 1) := by decide +kernel
theorem dX6_row_85 : decode cX6_row 85 = .ok (.aload_n 0, 1) := by decide +kernel
theorem dX6_row_86 : decode cX6_row 86 = .ok (.getfield 28, 3) := by decide +kernel
theorem dX6_row_89 : decode cX6_row 89 = .ok (.aload_n 0, 1) := by decide +kernel
theorem dX6_row_90 : decode cX6_row 90 = .ok (.getfield 32, 3) := by decide +kernel
theorem dX6_row_93 : decode cX6_row 93 = .ok (.iconst 1, 1) := by decide +kernel
theorem dX6_row_94 : decode cX6_row 94 = .ok (.invokevirtual 125, 3) := by decide +kernel
theorem dX6_row_97 : decode cX6_row 97 = .ok (.ireturn, 1) := by decide +kernel
theorem dX6_row_98 : decode cX6_row 98 = .ok (.aload_n 0, 1) := by decide +kernel
theorem dX6_row_99 : decode cX6_row 99 = .ok (.getfield 28, 3) := by decide +kernel
theorem dX6_row_102 : decode cX6_row 102 = .ok (.aload_n 0, 1) := by decide +kernel
theorem dX6_row_103 : decode cX6_row 103 = .ok (.getfield 32, 3) := by decide +kernel
theorem dX6_row_106 : decode cX6_row 106 = .ok (.iconst 2, 1) := by decide +kernel
theorem dX6_row_107 : decode cX6_row 107 = .ok (.invokevirtual 125, 3) := by decide +kernel
theorem dX6_row_110 : decode cX6_row 110 = .ok (.ireturn, 1) := by decide +kernel
theorem dX6_row_111 : decode cX6_row 111 = .ok (.aload_n 0, 1) := by decide +kernel
theorem dX6_row_112 : decode cX6_row 112 = .ok (.getfield 38, 3) := by decide +kernel
theorem dX6_row_115 : decode cX6_row 115 = .ok (.aload_n 0, 1) := by decide +kernel
theorem dX6_row_116 : decode cX6_row 116 = .ok (.getfield 28, 3) := by decide +kernel
theorem dX6_row_119 : decode cX6_row 119 = .ok (.aload_n 0, 1) := by decide +kernel
theorem dX6_row_120 : decode cX6_row 120 = .ok (.getfield 32, 3) := by decide +kernel
theorem dX6_row_123 : decode cX6_row 123 = .ok (.invokevirtual 129, 3) := by decide +kernel
theorem dX6_row_126 : decode cX6_row 126 = .ok (.iload_n 1, 1) := by decide +kernel
theorem dX6_row_127 : decode cX6_row 127 = .ok (.tableswitch 52 3 5 #[25, 33, 41], 25) := by decide +kernel
theorem dX6_row_152 : decode cX6_row 152 = .ok (.aload_n 0, 1) := by decide +kernel
theorem dX6_row_153 : decode cX6_row 153 = .ok (.getfield 38, 3) := by decide +kernel
theorem dX6_row_156 : decode cX6_row 156 = .ok (.invokevirtual 133, 3) := by decide +kernel
theorem dX6_row_159 : decode cX6_row 159 = .ok (.ireturn, 1) := by decide +kernel
theorem dX6_row_160 : decode cX6_row 160 = .ok (.aload_n 0, 1) := by decide +kernel
theorem dX6_row_161 : decode cX6_row 161 = .ok (.getfield 38, 3) := by decide +kernel
theorem dX6_row_164 : decode cX6_row 164 = .ok (.invokevirtual 134, 3) := by decide +kernel
theorem dX6_row_167 : decode cX6_row 167 = .ok (.ireturn, 1) := by decide +kernel
theorem dX6_row_168 : decode cX6_row 168 = .ok (.aload_n 0, 1) := by decide +kernel
theorem dX6_row_169 : decode cX6_row 169 = .ok (.getfield 38, 3) := by decide +kernel
theorem dX6_row_172 : decode cX6_row 172 = .ok (.invokevirtual 137, 3) := by decide +kernel
theorem dX6_row_175 : decode cX6_row 175 = .ok (.invokevirtual 53, 3) := by decide +kernel
theorem dX6_row_178 : decode cX6_row 178 = .ok (.ireturn, 1) := by decide +kernel
theorem dX6_row_179 : decode cX6_row 179 = .ok (.aload_n 0, 1) := by decide +kernel
theorem dX6_row_180 : decode cX6_row 180 = .ok (.getfield 38, 3) := by decide +kernel
theorem dX6_row_183 : decode cX6_row 183 = .ok (.invokevirtual 137, 3) := by decide +kernel
theorem dX6_row_186 : decode cX6_row 186 = .ok (.iload_n 1, 1) := by decide +kernel
theorem dX6_row_187 : decode cX6_row 187 = .ok (.bipush 10, 2) := by decide +kernel
theorem dX6_row_189 : decode cX6_row 189 = .ok (.isub, 1) := by decide +kernel
theorem dX6_row_190 : decode cX6_row 190 = .ok (.invokevirtual 140, 3) := by decide +kernel
theorem dX6_row_193 : decode cX6_row 193 = .ok (.ireturn, 1) := by decide +kernel
theorem dX6_readsPageAsRow_0 : decode cX6_readsPageAsRow 0 = .ok (.aload_n 0, 1) := by decide +kernel
theorem dX6_readsPageAsRow_1 : decode cX6_readsPageAsRow 1 = .ok (.getfield 32, 3) := by decide +kernel
theorem dX6_readsPageAsRow_4 : decode cX6_readsPageAsRow 4 = .ok (.invokevirtual 57, 3) := by decide +kernel
theorem dX6_readsPageAsRow_7 : decode cX6_readsPageAsRow 7 = .ok (.iconst 0, 1) := by decide +kernel
theorem dX6_readsPageAsRow_8 : decode cX6_readsPageAsRow 8 = .ok (.istore_n 1, 1) := by decide +kernel
theorem dX6_readsPageAsRow_9 : decode cX6_readsPageAsRow 9 = .ok (.iload_n 1, 1) := by decide +kernel
theorem dX6_readsPageAsRow_10 : decode cX6_readsPageAsRow 10 = .ok (.aload_n 0, 1) := by decide +kernel
theorem dX6_readsPageAsRow_11 : decode cX6_readsPageAsRow 11 = .ok (.getfield 14, 3) := by decide +kernel
theorem dX6_readsPageAsRow_14 : decode cX6_readsPageAsRow 14 = .ok (.invokevirtual 53, 3) := by decide +kernel
theorem dX6_readsPageAsRow_17 : decode cX6_readsPageAsRow 17 = .ok (.if_icmp .ge 46, 3) := by decide +kernel
theorem dX6_readsPageAsRow_20 : decode cX6_readsPageAsRow 20 = .ok (.aload_n 0, 1) := by decide +kernel
theorem dX6_readsPageAsRow_21 : decode cX6_readsPageAsRow 21 = .ok (.getfield 14, 3) := by decide +kernel
theorem dX6_readsPageAsRow_24 : decode cX6_readsPageAsRow 24 = .ok (.iload_n 1, 1) := by decide +kernel
theorem dX6_readsPageAsRow_25 : decode cX6_readsPageAsRow 25 = .ok (.invokevirtual 140, 3) := by decide +kernel
theorem dX6_readsPageAsRow_28 : decode cX6_readsPageAsRow 28 = .ok (.invokestatic 142, 3) := by decide +kernel
theorem dX6_readsPageAsRow_31 : decode cX6_readsPageAsRow 31 = .ok (.ifCond .eq 24, 3) := by decide +kernel
theorem dX6_readsPageAsRow_34 : decode cX6_readsPageAsRow 34 = .ok (.aload_n 0, 1) := by decide +kernel
theorem dX6_readsPageAsRow_35 : decode cX6_readsPageAsRow 35 = .ok (.getfield 32, 3) := by decide +kernel
theorem dX6_readsPageAsRow_38 : decode cX6_readsPageAsRow 38 = .ok (.aload_n 0, 1) := by decide +kernel
theorem dX6_readsPageAsRow_39 : decode cX6_readsPageAsRow 39 = .ok (.getfield 14, 3) := by decide +kernel
theorem dX6_readsPageAsRow_42 : decode cX6_readsPageAsRow 42 = .ok (.iload_n 1, 1) := by decide +kernel
theorem dX6_readsPageAsRow_43 : decode cX6_readsPageAsRow 43 = .ok (.invokevirtual 140, 3) := by decide +kernel
theorem dX6_readsPageAsRow_46 : decode cX6_readsPageAsRow 46 = .ok (.bipush 48, 2) := by decide +kernel
theorem dX6_readsPageAsRow_48 : decode cX6_readsPageAsRow 48 = .ok (.isub, 1) := by decide +kernel
theorem dX6_readsPageAsRow_49 : decode cX6_readsPageAsRow 49 = .ok (.invokevirtual 49, 3) := by decide +kernel
theorem dX6_readsPageAsRow_52 : decode cX6_readsPageAsRow 52 = .ok (.ifCond .ne 5, 3) := by decide +kernel
theorem dX6_readsPageAsRow_55 : decode cX6_readsPageAsRow 55 = .ok (.iconst 0, 1) := by decide +kernel
theorem dX6_readsPageAsRow_56 : decode cX6_readsPageAsRow 56 = .ok (.ireturn, 1) := by decide +kernel
theorem dX6_readsPageAsRow_57 : decode cX6_readsPageAsRow 57 = .ok (.iinc 1 1, 3) := by decide +kernel
theorem dX6_readsPageAsRow_60 : decode cX6_readsPageAsRow 60 = .ok (.goto (-51), 3) := by decide +kernel
theorem dX6_readsPageAsRow_63 : decode cX6_readsPageAsRow 63 = .ok (.aload_n 0, 1) := by decide +kernel
theorem dX6_readsPageAsRow_64 : decode cX6_readsPageAsRow 64 = .ok (.getfield 14, 3) := by decide +kernel
theorem dX6_readsPageAsRow_67 : decode cX6_readsPageAsRow 67 = .ok (.invokevirtual 53, 3) := by decide +kernel
theorem dX6_readsPageAsRow_70 : decode cX6_readsPageAsRow 70 = .ok (.ifCond .le 7, 3) := by decide +kernel
theorem dX6_readsPageAsRow_73 : decode cX6_readsPageAsRow 73 = .ok (.iconst 1, 1) := by decide +kernel
theorem dX6_readsPageAsRow_74 : decode cX6_readsPageAsRow 74 = .ok (.goto 4, 3) := by decide +kernel
theorem dX6_readsPageAsRow_77 : decode cX6_readsPageAsRow 77 = .ok (.iconst 0, 1) := by decide +kernel
theorem dX6_readsPageAsRow_78 : decode cX6_readsPageAsRow 78 = .ok (.ireturn, 1) := by decide +kernel
theorem dX6_isFigure_0 : decode cX6_isFigure 0 = .ok (.iload_n 0, 1) := by decide +kernel
theorem dX6_isFigure_1 : decode cX6_isFigure 1 = .ok (.bipush 48, 2) := by decide +kernel
theorem dX6_isFigure_3 : decode cX6_isFigure 3 = .ok (.if_icmp .lt 13, 3) := by decide +kernel
theorem dX6_isFigure_6 : decode cX6_isFigure 6 = .ok (.iload_n 0, 1) := by decide +kernel
theorem dX6_isFigure_7 : decode cX6_isFigure 7 = .ok (.bipush 57, 2) := by decide +kernel
theorem dX6_isFigure_9 : decode cX6_isFigure 9 = .ok (.if_icmp .gt 7, 3) := by decide +kernel
theorem dX6_isFigure_12 : decode cX6_isFigure 12 = .ok (.iconst 1, 1) := by decide +kernel
theorem dX6_isFigure_13 : decode cX6_isFigure 13 = .ok (.goto 4, 3) := by decide +kernel
theorem dX6_isFigure_16 : decode cX6_isFigure 16 = .ok (.iconst 0, 1) := by decide +kernel
theorem dX6_isFigure_17 : decode cX6_isFigure 17 = .ok (.ireturn, 1) := by decide +kernel
theorem dX6_stage_0 : decode cX6_stage 0 = .ok (.iload_n 1, 1) := by decide +kernel
theorem dX6_stage_1 : decode cX6_stage 1 = .ok (.ifCond .lt 19, 3) := by decide +kernel
theorem dX6_stage_4 : decode cX6_stage 4 = .ok (.iload_n 1, 1) := by decide +kernel
theorem dX6_stage_5 : decode cX6_stage 5 = .ok (.iconst 3, 1) := by decide +kernel
theorem dX6_stage_6 : decode cX6_stage 6 = .ok (.if_icmp .ge 14, 3) := by decide +kernel
theorem dX6_stage_9 : decode cX6_stage 9 = .ok (.iload_n 2, 1) := by decide +kernel
theorem dX6_stage_10 : decode cX6_stage 10 = .ok (.iconst 1, 1) := by decide +kernel
theorem dX6_stage_11 : decode cX6_stage 11 = .ok (.if_icmp .lt 9, 3) := by decide +kernel
theorem dX6_stage_14 : decode cX6_stage 14 = .ok (.iload_n 2, 1) := by decide +kernel
theorem dX6_stage_15 : decode cX6_stage 15 = .ok (.bipush 99, 2) := by decide +kernel
theorem dX6_stage_17 : decode cX6_stage 17 = .ok (.if_icmp .le 7, 3) := by decide +kernel
theorem dX6_stage_20 : decode cX6_stage 20 = .ok (.sipush (-1002), 3) := by decide +kernel
theorem dX6_stage_23 : decode cX6_stage 23 = .ok (.ireturn, 1) := by decide +kernel
theorem dX6_stage_24 : decode cX6_stage 24 = .ok (.aload_n 0, 1) := by decide +kernel
theorem dX6_stage_25 : decode cX6_stage 25 = .ok (.getfield 45, 3) := by decide +kernel
theorem dX6_stage_28 : decode cX6_stage 28 = .ok (.iload_n 1, 1) := by decide +kernel
theorem dX6_stage_29 : decode cX6_stage 29 = .ok (.invokevirtual 145, 3) := by decide +kernel
theorem dX6_stage_32 : decode cX6_stage 32 = .ok (.istore_n 3, 1) := by decide +kernel
theorem dX6_stage_33 : decode cX6_stage 33 = .ok (.aload_n 0, 1) := by decide +kernel
theorem dX6_stage_34 : decode cX6_stage 34 = .ok (.getfield 45, 3) := by decide +kernel
theorem dX6_stage_37 : decode cX6_stage 37 = .ok (.iload_n 1, 1) := by decide +kernel
theorem dX6_stage_38 : decode cX6_stage 38 = .ok (.iload_n 2, 1) := by decide +kernel
theorem dX6_stage_39 : decode cX6_stage 39 = .ok (.invokevirtual 148, 3) := by decide +kernel
theorem dX6_stage_42 : decode cX6_stage 42 = .ok (.iload_n 3, 1) := by decide +kernel
theorem dX6_stage_43 : decode cX6_stage 43 = .ok (.ireturn, 1) := by decide +kernel
theorem dX6_lift_0 : decode cX6_lift 0 = .ok (.aload_n 0, 1) := by decide +kernel
theorem dX6_lift_1 : decode cX6_lift 1 = .ok (.getfield 45, 3) := by decide +kernel
theorem dX6_lift_4 : decode cX6_lift 4 = .ok (.invokevirtual 68, 3) := by decide +kernel
theorem dX6_lift_7 : decode cX6_lift 7 = .ok (.ifCond .eq 7, 3) := by decide +kernel
theorem dX6_lift_10 : decode cX6_lift 10 = .ok (.sipush (-1003), 3) := by decide +kernel
theorem dX6_lift_13 : decode cX6_lift 13 = .ok (.ireturn, 1) := by decide +kernel
theorem dX6_lift_14 : decode cX6_lift 14 = .ok (.aload_n 0, 1) := by decide +kernel
theorem dX6_lift_15 : decode cX6_lift 15 = .ok (.getfield 45, 3) := by decide +kernel
theorem dX6_lift_18 : decode cX6_lift 18 = .ok (.aload_n 0, 1) := by decide +kernel
theorem dX6_lift_19 : decode cX6_lift 19 = .ok (.getfield 28, 3) := by decide +kernel
theorem dX6_lift_22 : decode cX6_lift 22 = .ok (.invokevirtual 152, 3) := by decide +kernel
theorem dX6_lift_25 : decode cX6_lift 25 = .ok (.aload_n 0, 1) := by decide +kernel
theorem dX6_lift_26 : decode cX6_lift 26 = .ok (.getfield 45, 3) := by decide +kernel
theorem dX6_lift_29 : decode cX6_lift 29 = .ok (.invokevirtual 156, 3) := by decide +kernel
theorem dX6_lift_32 : decode cX6_lift 32 = .ok (.ireturn, 1) := by decide +kernel
theorem dX6_hang_0 : decode cX6_hang 0 = .ok (.aload_n 0, 1) := by decide +kernel
theorem dX6_hang_1 : decode cX6_hang 1 = .ok (.getfield 45, 3) := by decide +kernel
theorem dX6_hang_4 : decode cX6_hang 4 = .ok (.invokevirtual 68, 3) := by decide +kernel
theorem dX6_hang_7 : decode cX6_hang 7 = .ok (.ifCond .ne 7, 3) := by decide +kernel
theorem dX6_hang_10 : decode cX6_hang 10 = .ok (.sipush (-1003), 3) := by decide +kernel
theorem dX6_hang_13 : decode cX6_hang 13 = .ok (.ireturn, 1) := by decide +kernel
theorem dX6_hang_14 : decode cX6_hang 14 = .ok (.aload_n 0, 1) := by decide +kernel
theorem dX6_hang_15 : decode cX6_hang 15 = .ok (.getfield 45, 3) := by decide +kernel
theorem dX6_hang_18 : decode cX6_hang 18 = .ok (.invokevirtual 159, 3) := by decide +kernel
theorem dX6_hang_21 : decode cX6_hang 21 = .ok (.invokevirtual 53, 3) := by decide +kernel
theorem dX6_hang_24 : decode cX6_hang 24 = .ok (.istore_n 1, 1) := by decide +kernel
theorem dX6_hang_25 : decode cX6_hang 25 = .ok (.aload_n 0, 1) := by decide +kernel
theorem dX6_hang_26 : decode cX6_hang 26 = .ok (.getfield 45, 3) := by decide +kernel
theorem dX6_hang_29 : decode cX6_hang 29 = .ok (.invokevirtual 162, 3) := by decide +kernel
theorem dX6_hang_32 : decode cX6_hang 32 = .ok (.iload_n 1, 1) := by decide +kernel
theorem dX6_hang_33 : decode cX6_hang 33 = .ok (.ireturn, 1) := by decide +kernel
theorem dX6_press_0 : decode cX6_press 0 = .ok (.iload_n 1, 1) := by decide +kernel
theorem dX6_press_1 : decode cX6_press 1 = .ok (.ifCond .lt 9, 3) := by decide +kernel
theorem dX6_press_4 : decode cX6_press 4 = .ok (.iload_n 1, 1) := by decide +kernel
theorem dX6_press_5 : decode cX6_press 5 = .ok (.bipush 9, 2) := by decide +kernel
theorem dX6_press_7 : decode cX6_press 7 = .ok (.if_icmp .le 7, 3) := by decide +kernel
theorem dX6_press_10 : decode cX6_press 10 = .ok (.sipush (-1002), 3) := by decide +kernel
theorem dX6_press_13 : decode cX6_press 13 = .ok (.ireturn, 1) := by decide +kernel
theorem dX6_press_14 : decode cX6_press 14 = .ok (.aload_n 0, 1) := by decide +kernel
theorem dX6_press_15 : decode cX6_press 15 = .ok (.getfield 45, 3) := by decide +kernel
theorem dX6_press_18 : decode cX6_press 18 = .ok (.invokevirtual 165, 3) := by decide +kernel
theorem dX6_press_21 : decode cX6_press 21 = .ok (.ifCond .ne 7, 3) := by decide +kernel
theorem dX6_press_24 : decode cX6_press 24 = .ok (.sipush (-1003), 3) := by decide +kernel
theorem dX6_press_27 : decode cX6_press 27 = .ok (.ireturn, 1) := by decide +kernel
theorem dX6_press_28 : decode cX6_press 28 = .ok (.aload_n 0, 1) := by decide +kernel
theorem dX6_press_29 : decode cX6_press 29 = .ok (.getfield 45, 3) := by decide +kernel
theorem dX6_press_32 : decode cX6_press 32 = .ok (.iload_n 1, 1) := by decide +kernel
theorem dX6_press_33 : decode cX6_press 33 = .ok (.aload_n 0, 1) := by decide +kernel
theorem dX6_press_34 : decode cX6_press 34 = .ok (.getfield 28, 3) := by decide +kernel
theorem dX6_press_37 : decode cX6_press 37 = .ok (.invokevirtual 168, 3) := by decide +kernel
theorem dX6_press_40 : decode cX6_press 40 = .ok (.aload_n 0, 1) := by decide +kernel
theorem dX6_press_41 : decode cX6_press 41 = .ok (.getfield 45, 3) := by decide +kernel
theorem dX6_press_44 : decode cX6_press 44 = .ok (.invokevirtual 172, 3) := by decide +kernel
theorem dX6_press_47 : decode cX6_press 47 = .ok (.ireturn, 1) := by decide +kernel
theorem dX6_pass_0 : decode cX6_pass 0 = .ok (.iload_n 1, 1) := by decide +kernel
theorem dX6_pass_1 : decode cX6_pass 1 = .ok (.iconst 1, 1) := by decide +kernel
theorem dX6_pass_2 : decode cX6_pass 2 = .ok (.if_icmp .lt 9, 3) := by decide +kernel
theorem dX6_pass_5 : decode cX6_pass 5 = .ok (.iload_n 1, 1) := by decide +kernel
theorem dX6_pass_6 : decode cX6_pass 6 = .ok (.bipush 99, 2) := by decide +kernel
theorem dX6_pass_8 : decode cX6_pass 8 = .ok (.if_icmp .le 7, 3) := by decide +kernel
theorem dX6_pass_11 : decode cX6_pass 11 = .ok (.sipush (-1002), 3) := by decide +kernel
theorem dX6_pass_14 : decode cX6_pass 14 = .ok (.ireturn, 1) := by decide +kernel
theorem dX6_pass_15 : decode cX6_pass 15 = .ok (.aload_n 0, 1) := by decide +kernel
theorem dX6_pass_16 : decode cX6_pass 16 = .ok (.getfield 45, 3) := by decide +kernel
theorem dX6_pass_19 : decode cX6_pass 19 = .ok (.invokevirtual 165, 3) := by decide +kernel
theorem dX6_pass_22 : decode cX6_pass 22 = .ok (.ifCond .ne 7, 3) := by decide +kernel
theorem dX6_pass_25 : decode cX6_pass 25 = .ok (.sipush (-1003), 3) := by decide +kernel
theorem dX6_pass_28 : decode cX6_pass 28 = .ok (.ireturn, 1) := by decide +kernel
theorem dX6_pass_29 : decode cX6_pass 29 = .ok (.aload_n 0, 1) := by decide +kernel
theorem dX6_pass_30 : decode cX6_pass 30 = .ok (.getfield 45, 3) := by decide +kernel
theorem dX6_pass_33 : decode cX6_pass 33 = .ok (.iload_n 1, 1) := by decide +kernel
theorem dX6_pass_34 : decode cX6_pass 34 = .ok (.aload_n 0, 1) := by decide +kernel
theorem dX6_pass_35 : decode cX6_pass 35 = .ok (.getfield 28, 3) := by decide +kernel
theorem dX6_pass_38 : decode cX6_pass 38 = .ok (.invokevirtual 175, 3) := by decide +kernel
theorem dX6_pass_41 : decode cX6_pass 41 = .ok (.aload_n 0, 1) := by decide +kernel
theorem dX6_pass_42 : decode cX6_pass 42 = .ok (.getfield 45, 3) := by decide +kernel
theorem dX6_pass_45 : decode cX6_pass 45 = .ok (.invokevirtual 172, 3) := by decide +kernel
theorem dX6_pass_48 : decode cX6_pass 48 = .ok (.ireturn, 1) := by decide +kernel
theorem dX6_end_0 : decode cX6_end 0 = .ok (.aload_n 0, 1) := by decide +kernel
theorem dX6_end_1 : decode cX6_end 1 = .ok (.getfield 45, 3) := by decide +kernel
theorem dX6_end_4 : decode cX6_end 4 = .ok (.invokevirtual 165, 3) := by decide +kernel
theorem dX6_end_7 : decode cX6_end 7 = .ok (.ifCond .ne 7, 3) := by decide +kernel
theorem dX6_end_10 : decode cX6_end 10 = .ok (.sipush (-1003), 3) := by decide +kernel
theorem dX6_end_13 : decode cX6_end 13 = .ok (.ireturn, 1) := by decide +kernel
theorem dX6_end_14 : decode cX6_end 14 = .ok (.aload_n 0, 1) := by decide +kernel
theorem dX6_end_15 : decode cX6_end 15 = .ok (.getfield 45, 3) := by decide +kernel
theorem dX6_end_18 : decode cX6_end 18 = .ok (.iconst 3, 1) := by decide +kernel
theorem dX6_end_19 : decode cX6_end 19 = .ok (.aload_n 0, 1) := by decide +kernel
theorem dX6_end_20 : decode cX6_end 20 = .ok (.getfield 28, 3) := by decide +kernel
theorem dX6_end_23 : decode cX6_end 23 = .ok (.invokevirtual 178, 3) := by decide +kernel
theorem dX6_end_26 : decode cX6_end 26 = .ok (.aload_n 0, 1) := by decide +kernel
theorem dX6_end_27 : decode cX6_end 27 = .ok (.getfield 45, 3) := by decide +kernel
theorem dX6_end_30 : decode cX6_end 30 = .ok (.invokevirtual 172, 3) := by decide +kernel
theorem dX6_end_33 : decode cX6_end 33 = .ok (.ireturn, 1) := by decide +kernel
theorem dX6_line_0 : decode cX6_line 0 = .ok (.iload_n 1, 1) := by decide +kernel
theorem dX6_line_1 : decode cX6_line 1 = .ok (.bipush 10, 2) := by decide +kernel
theorem dX6_line_3 : decode cX6_line 3 = .ok (.if_icmp .lt 24, 3) := by decide +kernel
theorem dX6_line_6 : decode cX6_line 6 = .ok (.iload_n 1, 1) := by decide +kernel
theorem dX6_line_7 : decode cX6_line 7 = .ok (.bipush 20, 2) := by decide +kernel
theorem dX6_line_9 : decode cX6_line 9 = .ok (.if_icmp .ge 18, 3) := by decide +kernel
theorem dX6_line_12 : decode cX6_line 12 = .ok (.aload_n 0, 1) := by decide +kernel
theorem dX6_line_13 : decode cX6_line 13 = .ok (.getfield 45, 3) := by decide +kernel
theorem dX6_line_16 : decode cX6_line 16 = .ok (.invokevirtual 159, 3) := by decide +kernel
theorem dX6_line_19 : decode cX6_line 19 = .ok (.iload_n 1, 1) := by decide +kernel
theorem dX6_line_20 : decode cX6_line 20 = .ok (.bipush 10, 2) := by decide +kernel
theorem dX6_line_22 : decode cX6_line 22 = .ok (.isub, 1) := by decide +kernel
theorem dX6_line_23 : decode cX6_line 23 = .ok (.invokevirtual 140, 3) := by decide +kernel
theorem dX6_line_26 : decode cX6_line 26 = .ok (.ireturn, 1) := by decide +kernel
theorem dX6_line_27 : decode cX6_line 27 = .ok (.iload_n 1, 1) := by decide +kernel
theorem dX6_line_28 : decode cX6_line 28 = .ok (.tableswitch 141 0 7 #[48, 56, 67, 75, 101, 113, 128, 136], 48) := by decide +kernel
theorem dX6_line_76 : decode cX6_line 76 = .ok (.aload_n 0, 1) := by decide +kernel
theorem dX6_line_77 : decode cX6_line 77 = .ok (.getfield 45, 3) := by decide +kernel
theorem dX6_line_80 : decode cX6_line 80 = .ok (.invokevirtual 172, 3) := by decide +kernel
theorem dX6_line_83 : decode cX6_line 83 = .ok (.ireturn, 1) := by decide +kernel
theorem dX6_line_84 : decode cX6_line 84 = .ok (.aload_n 0, 1) := by decide +kernel
theorem dX6_line_85 : decode cX6_line 85 = .ok (.getfield 45, 3) := by decide +kernel
theorem dX6_line_88 : decode cX6_line 88 = .ok (.invokevirtual 159, 3) := by decide +kernel
theorem dX6_line_91 : decode cX6_line 91 = .ok (.invokevirtual 53, 3) := by decide +kernel
theorem dX6_line_94 : decode cX6_line 94 = .ok (.ireturn, 1) := by decide +kernel
theorem dX6_line_95 : decode cX6_line 95 = .ok (.aload_n 0, 1) := by decide +kernel
theorem dX6_line_96 : decode cX6_line 96 = .ok (.getfield 45, 3) := by decide +kernel
theorem dX6_line_99 : decode cX6_line 99 = .ok (.invokevirtual 156, 3) := by decide +kernel
theorem dX6_line_102 : decode cX6_line 102 = .ok (.ireturn, 1) := by decide +kernel
theorem dX6_line_103 : decode cX6_line 103 = .ok (.aload_n 0, 1) := by decide +kernel
theorem dX6_line_104 : decode cX6_line 104 = .ok (.getfield 45, 3) := by decide +kernel
theorem dX6_line_107 : decode cX6_line 107 = .ok (.invokevirtual 165, 3) := by decide +kernel
theorem dX6_line_110 : decode cX6_line 110 = .ok (.ifCond .eq 17, 3) := by decide +kernel
theorem dX6_line_113 : decode cX6_line 113 = .ok (.aload_n 0, 1) := by decide +kernel
theorem dX6_line_114 : decode cX6_line 114 = .ok (.getfield 45, 3) := by decide +kernel
theorem dX6_line_117 : decode cX6_line 117 = .ok (.aload_n 0, 1) := by decide +kernel
theorem dX6_line_118 : decode cX6_line 118 = .ok (.getfield 28, 3) := by decide +kernel
theorem dX6_line_121 : decode cX6_line 121 = .ok (.invokevirtual 181, 3) := by decide +kernel
theorem dX6_line_124 : decode cX6_line 124 = .ok (.goto 4, 3) := by decide +kernel
theorem dX6_line_127 : decode cX6_line 127 = .ok (.iconst (-1), 1) := by decide +kernel
theorem dX6_line_128 : decode cX6_line 128 = .ok (.ireturn, 1) := by decide +kernel
theorem dX6_line_129 : decode cX6_line 129 = .ok (.aload_n 0, 1) := by decide +kernel
theorem dX6_line_130 : decode cX6_line 130 = .ok (.getfield 45, 3) := by decide +kernel
theorem dX6_line_133 : decode cX6_line 133 = .ok (.aload_n 0, 1) := by decide +kernel
theorem dX6_line_134 : decode cX6_line 134 = .ok (.getfield 28, 3) := by decide +kernel
theorem dX6_line_137 : decode cX6_line 137 = .ok (.invokevirtual 185, 3) := by decide +kernel
theorem dX6_line_140 : decode cX6_line 140 = .ok (.ireturn, 1) := by decide +kernel
theorem dX6_line_141 : decode cX6_line 141 = .ok (.aload_n 0, 1) := by decide +kernel
theorem dX6_line_142 : decode cX6_line 142 = .ok (.getfield 28, 3) := by decide +kernel
theorem dX6_line_145 : decode cX6_line 145 = .ok (.aload_n 0, 1) := by decide +kernel
theorem dX6_line_146 : decode cX6_line 146 = .ok (.getfield 45, 3) := by decide +kernel
theorem dX6_line_149 : decode cX6_line 149 = .ok (.invokevirtual 159, 3) := by decide +kernel
theorem dX6_line_152 : decode cX6_line 152 = .ok (.invokevirtual 187, 3) := by decide +kernel
theorem dX6_line_155 : decode cX6_line 155 = .ok (.ireturn, 1) := by decide +kernel
theorem dX6_line_156 : decode cX6_line 156 = .ok (.aload_n 0, 1) := by decide +kernel
theorem dX6_line_157 : decode cX6_line 157 = .ok (.getfield 45, 3) := by decide +kernel
theorem dX6_line_160 : decode cX6_line 160 = .ok (.invokevirtual 190, 3) := by decide +kernel
theorem dX6_line_163 : decode cX6_line 163 = .ok (.ireturn, 1) := by decide +kernel
theorem dX6_line_164 : decode cX6_line 164 = .ok (.aload_n 0, 1) := by decide +kernel
theorem dX6_line_165 : decode cX6_line 165 = .ok (.invokevirtual 193, 3) := by decide +kernel
theorem dX6_line_168 : decode cX6_line 168 = .ok (.ireturn, 1) := by decide +kernel
theorem dX6_line_169 : decode cX6_line 169 = .ok (.sipush (-1002), 3) := by decide +kernel
theorem dX6_line_172 : decode cX6_line 172 = .ok (.ireturn, 1) := by decide +kernel
theorem dX6_wayOfTheLine_0 : decode cX6_wayOfTheLine 0 = .ok (.aload_n 0, 1) := by decide +kernel
theorem dX6_wayOfTheLine_1 : decode cX6_wayOfTheLine 1 = .ok (.getfield 45, 3) := by decide +kernel
theorem dX6_wayOfTheLine_4 : decode cX6_wayOfTheLine 4 = .ok (.invokevirtual 172, 3) := by decide +kernel
theorem dX6_wayOfTheLine_7 : decode cX6_wayOfTheLine 7 = .ok (.iconst 2, 1) := by decide +kernel
theorem dX6_wayOfTheLine_8 : decode cX6_wayOfTheLine 8 = .ok (.if_icmp .eq 5, 3) := by decide +kernel
theorem dX6_wayOfTheLine_11 : decode cX6_wayOfTheLine 11 = .ok (.iconst (-1), 1) := by decide +kernel
theorem dX6_wayOfTheLine_12 : decode cX6_wayOfTheLine 12 = .ok (.ireturn, 1) := by decide +kernel
theorem dX6_wayOfTheLine_13 : decode cX6_wayOfTheLine 13 = .ok (.aload_n 0, 1) := by decide +kernel
theorem dX6_wayOfTheLine_14 : decode cX6_wayOfTheLine 14 = .ok (.getfield 45, 3) := by decide +kernel
theorem dX6_wayOfTheLine_17 : decode cX6_wayOfTheLine 17 = .ok (.invokevirtual 190, 3) := by decide +kernel
theorem dX6_wayOfTheLine_20 : decode cX6_wayOfTheLine 20 = .ok (.iconst 4, 1) := by decide +kernel
theorem dX6_wayOfTheLine_21 : decode cX6_wayOfTheLine 21 = .ok (.if_icmp .ne 6, 3) := by decide +kernel
theorem dX6_wayOfTheLine_24 : decode cX6_wayOfTheLine 24 = .ok (.bipush 9, 2) := by decide +kernel
theorem dX6_wayOfTheLine_26 : decode cX6_wayOfTheLine 26 = .ok (.ireturn, 1) := by decide +kernel
theorem dX6_wayOfTheLine_27 : decode cX6_wayOfTheLine 27 = .ok (.aload_n 0, 1) := by decide +kernel
theorem dX6_wayOfTheLine_28 : decode cX6_wayOfTheLine 28 = .ok (.getfield 38, 3) := by decide +kernel
theorem dX6_wayOfTheLine_31 : decode cX6_wayOfTheLine 31 = .ok (.aload_n 0, 1) := by decide +kernel
theorem dX6_wayOfTheLine_32 : decode cX6_wayOfTheLine 32 = .ok (.getfield 28, 3) := by decide +kernel
theorem dX6_wayOfTheLine_35 : decode cX6_wayOfTheLine 35 = .ok (.aload_n 0, 1) := by decide +kernel
theorem dX6_wayOfTheLine_36 : decode cX6_wayOfTheLine 36 = .ok (.getfield 45, 3) := by decide +kernel
theorem dX6_wayOfTheLine_39 : decode cX6_wayOfTheLine 39 = .ok (.invokevirtual 159, 3) := by decide +kernel
theorem dX6_wayOfTheLine_42 : decode cX6_wayOfTheLine 42 = .ok (.invokevirtual 129, 3) := by decide +kernel
theorem dX6_wayOfTheLine_45 : decode cX6_wayOfTheLine 45 = .ok (.aload_n 0, 1) := by decide +kernel
theorem dX6_wayOfTheLine_46 : decode cX6_wayOfTheLine 46 = .ok (.getfield 38, 3) := by decide +kernel
theorem dX6_wayOfTheLine_49 : decode cX6_wayOfTheLine 49 = .ok (.invokevirtual 133, 3) := by decide +kernel
theorem dX6_wayOfTheLine_52 : decode cX6_wayOfTheLine 52 = .ok (.ireturn, 1) := by decide +kernel
theorem dX6_count_0 : decode cX6_count 0 = .ok (.iload_n 1, 1) := by decide +kernel
theorem dX6_count_1 : decode cX6_count 1 = .ok (.tableswitch 138 0 9 #[55, 63, 71, 79, 88, 97, 106, 114, 122, 130], 55) := by decide +kernel
theorem dX6_count_56 : decode cX6_count 56 = .ok (.aload_n 0, 1) := by decide +kernel
theorem dX6_count_57 : decode cX6_count 57 = .ok (.getfield 28, 3) := by decide +kernel
theorem dX6_count_60 : decode cX6_count 60 = .ok (.invokevirtual 78, 3) := by decide +kernel
theorem dX6_count_63 : decode cX6_count 63 = .ok (.ireturn, 1) := by decide +kernel
theorem dX6_count_64 : decode cX6_count 64 = .ok (.aload_n 0, 1) := by decide +kernel
theorem dX6_count_65 : decode cX6_count 65 = .ok (.getfield 14, 3) := by decide +kernel
theorem dX6_count_68 : decode cX6_count 68 = .ok (.invokevirtual 53, 3) := by decide +kernel
theorem dX6_count_71 : decode cX6_count 71 = .ok (.ireturn, 1) := by decide +kernel
theorem dX6_count_72 : decode cX6_count 72 = .ok (.aload_n 0, 1) := by decide +kernel
theorem dX6_count_73 : decode cX6_count 73 = .ok (.getfield 28, 3) := by decide +kernel
theorem dX6_count_76 : decode cX6_count 76 = .ok (.invokevirtual 196, 3) := by decide +kernel
theorem dX6_count_79 : decode cX6_count 79 = .ok (.ireturn, 1) := by decide +kernel
theorem dX6_count_80 : decode cX6_count 80 = .ok (.aload_n 0, 1) := by decide +kernel
theorem dX6_count_81 : decode cX6_count 81 = .ok (.getfield 45, 3) := by decide +kernel
theorem dX6_count_84 : decode cX6_count 84 = .ok (.iconst 0, 1) := by decide +kernel
theorem dX6_count_85 : decode cX6_count 85 = .ok (.invokevirtual 145, 3) := by decide +kernel
theorem dX6_count_88 : decode cX6_count 88 = .ok (.ireturn, 1) := by decide +kernel
theorem dX6_count_89 : decode cX6_count 89 = .ok (.aload_n 0, 1) := by decide +kernel
theorem dX6_count_90 : decode cX6_count 90 = .ok (.getfield 45, 3) := by decide +kernel
theorem dX6_count_93 : decode cX6_count 93 = .ok (.iconst 1, 1) := by decide +kernel
theorem dX6_count_94 : decode cX6_count 94 = .ok (.invokevirtual 145, 3) := by decide +kernel
theorem dX6_count_97 : decode cX6_count 97 = .ok (.ireturn, 1) := by decide +kernel
theorem dX6_count_98 : decode cX6_count 98 = .ok (.aload_n 0, 1) := by decide +kernel
theorem dX6_count_99 : decode cX6_count 99 = .ok (.getfield 45, 3) := by decide +kernel
theorem dX6_count_102 : decode cX6_count 102 = .ok (.iconst 2, 1) := by decide +kernel
theorem dX6_count_103 : decode cX6_count 103 = .ok (.invokevirtual 145, 3) := by decide +kernel
theorem dX6_count_106 : decode cX6_count 106 = .ok (.ireturn, 1) := by decide +kernel
theorem dX6_count_107 : decode cX6_count 107 = .ok (.aload_n 0, 1) := by decide +kernel
theorem dX6_count_108 : decode cX6_count 108 = .ok (.getfield 45, 3) := by decide +kernel
theorem dX6_count_111 : decode cX6_count 111 = .ok (.invokevirtual 199, 3) := by decide +kernel
theorem dX6_count_114 : decode cX6_count 114 = .ok (.ireturn, 1) := by decide +kernel
theorem dX6_count_115 : decode cX6_count 115 = .ok (.aload_n 0, 1) := by decide +kernel
theorem dX6_count_116 : decode cX6_count 116 = .ok (.getfield 45, 3) := by decide +kernel
theorem dX6_count_119 : decode cX6_count 119 = .ok (.invokevirtual 202, 3) := by decide +kernel
theorem dX6_count_122 : decode cX6_count 122 = .ok (.ireturn, 1) := by decide +kernel
theorem dX6_count_123 : decode cX6_count 123 = .ok (.aload_n 0, 1) := by decide +kernel
theorem dX6_count_124 : decode cX6_count 124 = .ok (.getfield 45, 3) := by decide +kernel
theorem dX6_count_127 : decode cX6_count 127 = .ok (.invokevirtual 205, 3) := by decide +kernel
theorem dX6_count_130 : decode cX6_count 130 = .ok (.ireturn, 1) := by decide +kernel
theorem dX6_count_131 : decode cX6_count 131 = .ok (.aload_n 0, 1) := by decide +kernel
theorem dX6_count_132 : decode cX6_count 132 = .ok (.getfield 45, 3) := by decide +kernel
theorem dX6_count_135 : decode cX6_count 135 = .ok (.invokevirtual 208, 3) := by decide +kernel
theorem dX6_count_138 : decode cX6_count 138 = .ok (.ireturn, 1) := by decide +kernel
theorem dX6_count_139 : decode cX6_count 139 = .ok (.sipush (-1002), 3) := by decide +kernel
theorem dX6_count_142 : decode cX6_count 142 = .ok (.ireturn, 1) := by decide +kernel
theorem dX6_digest_0 : decode cX6_digest 0 = .ok (.aload_n 0, 1) := by decide +kernel
theorem dX6_digest_1 : decode cX6_digest 1 = .ok (.ldc2_w 211, 3) := by decide +kernel
theorem dX6_digest_4 : decode cX6_digest 4 = .ok (.invokevirtual 213, 3) := by decide +kernel
theorem dX6_digest_7 : decode cX6_digest 7 = .ok (.lstore_n 1, 1) := by decide +kernel
theorem dX6_digest_8 : decode cX6_digest 8 = .ok (.aload_n 0, 1) := by decide +kernel
theorem dX6_digest_9 : decode cX6_digest 9 = .ok (.lload_n 1, 1) := by decide +kernel
theorem dX6_digest_10 : decode cX6_digest 10 = .ok (.invokevirtual 217, 3) := by decide +kernel
theorem dX6_digest_13 : decode cX6_digest 13 = .ok (.lstore_n 1, 1) := by decide +kernel
theorem dX6_digest_14 : decode cX6_digest 14 = .ok (.iconst 0, 1) := by decide +kernel
theorem dX6_digest_15 : decode cX6_digest 15 = .ok (.istore_n 3, 1) := by decide +kernel
theorem dX6_digest_16 : decode cX6_digest 16 = .ok (.iload_n 3, 1) := by decide +kernel
theorem dX6_digest_17 : decode cX6_digest 17 = .ok (.bipush 8, 2) := by decide +kernel
theorem dX6_digest_19 : decode cX6_digest 19 = .ok (.if_icmp .ge 22, 3) := by decide +kernel
theorem dX6_digest_22 : decode cX6_digest 22 = .ok (.ldc2_w 220, 3) := by decide +kernel
theorem dX6_digest_25 : decode cX6_digest 25 = .ok (.lload_n 1, 1) := by decide +kernel
theorem dX6_digest_26 : decode cX6_digest 26 = .ok (.lmul, 1) := by decide +kernel
theorem dX6_digest_27 : decode cX6_digest 27 = .ok (.aload_n 0, 1) := by decide +kernel
theorem dX6_digest_28 : decode cX6_digest 28 = .ok (.iload_n 3, 1) := by decide +kernel
theorem dX6_digest_29 : decode cX6_digest 29 = .ok (.invokevirtual 222, 3) := by decide +kernel
theorem dX6_digest_32 : decode cX6_digest 32 = .ok (.i2l, 1) := by decide +kernel
theorem dX6_digest_33 : decode cX6_digest 33 = .ok (.ladd, 1) := by decide +kernel
theorem dX6_digest_34 : decode cX6_digest 34 = .ok (.lstore_n 1, 1) := by decide +kernel
theorem dX6_digest_35 : decode cX6_digest 35 = .ok (.iinc 3 1, 3) := by decide +kernel
theorem dX6_digest_38 : decode cX6_digest 38 = .ok (.goto (-22), 3) := by decide +kernel
theorem dX6_digest_41 : decode cX6_digest 41 = .ok (.iconst 0, 1) := by decide +kernel
theorem dX6_digest_42 : decode cX6_digest 42 = .ok (.istore_n 3, 1) := by decide +kernel
theorem dX6_digest_43 : decode cX6_digest 43 = .ok (.iload_n 3, 1) := by decide +kernel
theorem dX6_digest_44 : decode cX6_digest 44 = .ok (.bipush 10, 2) := by decide +kernel
theorem dX6_digest_46 : decode cX6_digest 46 = .ok (.if_icmp .ge 25, 3) := by decide +kernel
theorem dX6_digest_49 : decode cX6_digest 49 = .ok (.ldc2_w 220, 3) := by decide +kernel
theorem dX6_digest_52 : decode cX6_digest 52 = .ok (.lload_n 1, 1) := by decide +kernel
theorem dX6_digest_53 : decode cX6_digest 53 = .ok (.lmul, 1) := by decide +kernel
theorem dX6_digest_54 : decode cX6_digest 54 = .ok (.aload_n 0, 1) := by decide +kernel
theorem dX6_digest_55 : decode cX6_digest 55 = .ok (.bipush 10, 2) := by decide +kernel
theorem dX6_digest_57 : decode cX6_digest 57 = .ok (.iload_n 3, 1) := by decide +kernel
theorem dX6_digest_58 : decode cX6_digest 58 = .ok (.iadd, 1) := by decide +kernel
theorem dX6_digest_59 : decode cX6_digest 59 = .ok (.invokevirtual 222, 3) := by decide +kernel
theorem dX6_digest_62 : decode cX6_digest 62 = .ok (.i2l, 1) := by decide +kernel
theorem dX6_digest_63 : decode cX6_digest 63 = .ok (.ladd, 1) := by decide +kernel
theorem dX6_digest_64 : decode cX6_digest 64 = .ok (.lstore_n 1, 1) := by decide +kernel
theorem dX6_digest_65 : decode cX6_digest 65 = .ok (.iinc 3 1, 3) := by decide +kernel
theorem dX6_digest_68 : decode cX6_digest 68 = .ok (.goto (-25), 3) := by decide +kernel
theorem dX6_digest_71 : decode cX6_digest 71 = .ok (.iconst 0, 1) := by decide +kernel
theorem dX6_digest_72 : decode cX6_digest 72 = .ok (.istore_n 3, 1) := by decide +kernel
theorem dX6_digest_73 : decode cX6_digest 73 = .ok (.iload_n 3, 1) := by decide +kernel
theorem dX6_digest_74 : decode cX6_digest 74 = .ok (.aload_n 0, 1) := by decide +kernel
theorem dX6_digest_75 : decode cX6_digest 75 = .ok (.getfield 14, 3) := by decide +kernel
theorem dX6_digest_78 : decode cX6_digest 78 = .ok (.invokevirtual 53, 3) := by decide +kernel
theorem dX6_digest_81 : decode cX6_digest 81 = .ok (.if_icmp .ge 25, 3) := by decide +kernel
theorem dX6_digest_84 : decode cX6_digest 84 = .ok (.ldc2_w 220, 3) := by decide +kernel
theorem dX6_digest_87 : decode cX6_digest 87 = .ok (.lload_n 1, 1) := by decide +kernel
theorem dX6_digest_88 : decode cX6_digest 88 = .ok (.lmul, 1) := by decide +kernel
theorem dX6_digest_89 : decode cX6_digest 89 = .ok (.aload_n 0, 1) := by decide +kernel
theorem dX6_digest_90 : decode cX6_digest 90 = .ok (.getfield 14, 3) := by decide +kernel
theorem dX6_digest_93 : decode cX6_digest 93 = .ok (.iload_n 3, 1) := by decide +kernel
theorem dX6_digest_94 : decode cX6_digest 94 = .ok (.invokevirtual 140, 3) := by decide +kernel
theorem dX6_digest_97 : decode cX6_digest 97 = .ok (.i2l, 1) := by decide +kernel
theorem dX6_digest_98 : decode cX6_digest 98 = .ok (.ladd, 1) := by decide +kernel
theorem dX6_digest_99 : decode cX6_digest 99 = .ok (.lstore_n 1, 1) := by decide +kernel
theorem dX6_digest_100 : decode cX6_digest 100 = .ok (.iinc 3 1, 3) := by decide +kernel
theorem dX6_digest_103 : decode cX6_digest 103 = .ok (.goto (-30), 3) := by decide +kernel
theorem dX6_digest_106 : decode cX6_digest 106 = .ok (.iconst 0, 1) := by decide +kernel
theorem dX6_digest_107 : decode cX6_digest 107 = .ok (.istore_n 3, 1) := by decide +kernel
theorem dX6_digest_108 : decode cX6_digest 108 = .ok (.iload_n 3, 1) := by decide +kernel
theorem dX6_digest_109 : decode cX6_digest 109 = .ok (.bipush 10, 2) := by decide +kernel
theorem dX6_digest_111 : decode cX6_digest 111 = .ok (.if_icmp .ge 22, 3) := by decide +kernel
theorem dX6_digest_114 : decode cX6_digest 114 = .ok (.ldc2_w 220, 3) := by decide +kernel
theorem dX6_digest_117 : decode cX6_digest 117 = .ok (.lload_n 1, 1) := by decide +kernel
theorem dX6_digest_118 : decode cX6_digest 118 = .ok (.lmul, 1) := by decide +kernel
theorem dX6_digest_119 : decode cX6_digest 119 = .ok (.aload_n 0, 1) := by decide +kernel
theorem dX6_digest_120 : decode cX6_digest 120 = .ok (.iload_n 3, 1) := by decide +kernel
theorem dX6_digest_121 : decode cX6_digest 121 = .ok (.invokevirtual 225, 3) := by decide +kernel
theorem dX6_digest_124 : decode cX6_digest 124 = .ok (.i2l, 1) := by decide +kernel
theorem dX6_digest_125 : decode cX6_digest 125 = .ok (.ladd, 1) := by decide +kernel
theorem dX6_digest_126 : decode cX6_digest 126 = .ok (.lstore_n 1, 1) := by decide +kernel
theorem dX6_digest_127 : decode cX6_digest 127 = .ok (.iinc 3 1, 3) := by decide +kernel
theorem dX6_digest_130 : decode cX6_digest 130 = .ok (.goto (-22), 3) := by decide +kernel
theorem dX6_digest_133 : decode cX6_digest 133 = .ok (.lload_n 1, 1) := by decide +kernel
theorem dX6_digest_134 : decode cX6_digest 134 = .ok (.lreturn, 1) := by decide +kernel
theorem dX6_digestOfPatterns_0 : decode cX6_digestOfPatterns 0 = .ok (.lload_n 1, 1) := by decide +kernel
theorem dX6_digestOfPatterns_1 : decode cX6_digestOfPatterns 1 = .ok (.lstore_n 3, 1) := by decide +kernel
theorem dX6_digestOfPatterns_2 : decode cX6_digestOfPatterns 2 = .ok (.iconst 0, 1) := by decide +kernel
theorem dX6_digestOfPatterns_3 : decode cX6_digestOfPatterns 3 = .ok (.istore 5, 2) := by decide +kernel
theorem dX6_digestOfPatterns_5 : decode cX6_digestOfPatterns 5 = .ok (.iload 5, 2) := by decide +kernel
theorem dX6_digestOfPatterns_7 : decode cX6_digestOfPatterns 7 = .ok (.aload_n 0, 1) := by decide +kernel
theorem dX6_digestOfPatterns_8 : decode cX6_digestOfPatterns 8 = .ok (.getfield 28, 3) := by decide +kernel
theorem dX6_digestOfPatterns_11 : decode cX6_digestOfPatterns 11 = .ok (.invokevirtual 78, 3) := by decide +kernel
theorem dX6_digestOfPatterns_14 : decode cX6_digestOfPatterns 14 = .ok (.if_icmp .ge 73, 3) := by decide +kernel
theorem dX6_digestOfPatterns_17 : decode cX6_digestOfPatterns 17 = .ok (.iconst 0, 1) := by decide +kernel
theorem dX6_digestOfPatterns_18 : decode cX6_digestOfPatterns 18 = .ok (.istore 6, 2) := by decide +kernel
theorem dX6_digestOfPatterns_20 : decode cX6_digestOfPatterns 20 = .ok (.iload 6, 2) := by decide +kernel
theorem dX6_digestOfPatterns_22 : decode cX6_digestOfPatterns 22 = .ok (.bipush 6, 2) := by decide +kernel
theorem dX6_digestOfPatterns_24 : decode cX6_digestOfPatterns 24 = .ok (.if_icmp .ge 25, 3) := by decide +kernel
theorem dX6_digestOfPatterns_27 : decode cX6_digestOfPatterns 27 = .ok (.ldc2_w 220, 3) := by decide +kernel
theorem dX6_digestOfPatterns_30 : decode cX6_digestOfPatterns 30 = .ok (.lload_n 3, 1) := by decide +kernel
theorem dX6_digestOfPatterns_31 : decode cX6_digestOfPatterns 31 = .ok (.lmul, 1) := by decide +kernel
theorem dX6_digestOfPatterns_32 : decode cX6_digestOfPatterns 32 = .ok (.aload_n 0, 1) := by decide +kernel
theorem dX6_digestOfPatterns_33 : decode cX6_digestOfPatterns 33 = .ok (.iload 5, 2) := by decide +kernel
theorem dX6_digestOfPatterns_35 : decode cX6_digestOfPatterns 35 = .ok (.iload 6, 2) := by decide +kernel
theorem dX6_digestOfPatterns_37 : decode cX6_digestOfPatterns 37 = .ok (.invokevirtual 228, 3) := by decide +kernel
theorem dX6_digestOfPatterns_40 : decode cX6_digestOfPatterns 40 = .ok (.i2l, 1) := by decide +kernel
theorem dX6_digestOfPatterns_41 : decode cX6_digestOfPatterns 41 = .ok (.ladd, 1) := by decide +kernel
theorem dX6_digestOfPatterns_42 : decode cX6_digestOfPatterns 42 = .ok (.lstore_n 3, 1) := by decide +kernel
theorem dX6_digestOfPatterns_43 : decode cX6_digestOfPatterns 43 = .ok (.iinc 6 1, 3) := by decide +kernel
theorem dX6_digestOfPatterns_46 : decode cX6_digestOfPatterns 46 = .ok (.goto (-26), 3) := by decide +kernel
theorem dX6_digestOfPatterns_49 : decode cX6_digestOfPatterns 49 = .ok (.iconst 0, 1) := by decide +kernel
theorem dX6_digestOfPatterns_50 : decode cX6_digestOfPatterns 50 = .ok (.istore 6, 2) := by decide +kernel
theorem dX6_digestOfPatterns_52 : decode cX6_digestOfPatterns 52 = .ok (.iload 6, 2) := by decide +kernel
theorem dX6_digestOfPatterns_54 : decode cX6_digestOfPatterns 54 = .ok (.bipush 10, 2) := by decide +kernel
theorem dX6_digestOfPatterns_56 : decode cX6_digestOfPatterns 56 = .ok (.if_icmp .ge 25, 3) := by decide +kernel
theorem dX6_digestOfPatterns_59 : decode cX6_digestOfPatterns 59 = .ok (.ldc2_w 220, 3) := by decide +kernel
theorem dX6_digestOfPatterns_62 : decode cX6_digestOfPatterns 62 = .ok (.lload_n 3, 1) := by decide +kernel
theorem dX6_digestOfPatterns_63 : decode cX6_digestOfPatterns 63 = .ok (.lmul, 1) := by decide +kernel
theorem dX6_digestOfPatterns_64 : decode cX6_digestOfPatterns 64 = .ok (.aload_n 0, 1) := by decide +kernel
theorem dX6_digestOfPatterns_65 : decode cX6_digestOfPatterns 65 = .ok (.iload 5, 2) := by decide +kernel
theorem dX6_digestOfPatterns_67 : decode cX6_digestOfPatterns 67 = .ok (.iload 6, 2) := by decide +kernel
theorem dX6_digestOfPatterns_69 : decode cX6_digestOfPatterns 69 = .ok (.invokevirtual 232, 3) := by decide +kernel
theorem dX6_digestOfPatterns_72 : decode cX6_digestOfPatterns 72 = .ok (.i2l, 1) := by decide +kernel
theorem dX6_digestOfPatterns_73 : decode cX6_digestOfPatterns 73 = .ok (.ladd, 1) := by decide +kernel
theorem dX6_digestOfPatterns_74 : decode cX6_digestOfPatterns 74 = .ok (.lstore_n 3, 1) := by decide +kernel
theorem dX6_digestOfPatterns_75 : decode cX6_digestOfPatterns 75 = .ok (.iinc 6 1, 3) := by decide +kernel
theorem dX6_digestOfPatterns_78 : decode cX6_digestOfPatterns 78 = .ok (.goto (-26), 3) := by decide +kernel
theorem dX6_digestOfPatterns_81 : decode cX6_digestOfPatterns 81 = .ok (.iinc 5 1, 3) := by decide +kernel
theorem dX6_digestOfPatterns_84 : decode cX6_digestOfPatterns 84 = .ok (.goto (-79), 3) := by decide +kernel
theorem dX6_digestOfPatterns_87 : decode cX6_digestOfPatterns 87 = .ok (.lload_n 3, 1) := by decide +kernel
theorem dX6_digestOfPatterns_88 : decode cX6_digestOfPatterns 88 = .ok (.lreturn, 1) := by decide +kernel
theorem dX6_digestOfClashes_0 : decode cX6_digestOfClashes 0 = .ok (.lload_n 1, 1) := by decide +kernel
theorem dX6_digestOfClashes_1 : decode cX6_digestOfClashes 1 = .ok (.lstore_n 3, 1) := by decide +kernel
theorem dX6_digestOfClashes_2 : decode cX6_digestOfClashes 2 = .ok (.iconst 0, 1) := by decide +kernel
theorem dX6_digestOfClashes_3 : decode cX6_digestOfClashes 3 = .ok (.istore 5, 2) := by decide +kernel
theorem dX6_digestOfClashes_5 : decode cX6_digestOfClashes 5 = .ok (.iload 5, 2) := by decide +kernel
theorem dX6_digestOfClashes_7 : decode cX6_digestOfClashes 7 = .ok (.aload_n 0, 1) := by decide +kernel
theorem dX6_digestOfClashes_8 : decode cX6_digestOfClashes 8 = .ok (.getfield 28, 3) := by decide +kernel
theorem dX6_digestOfClashes_11 : decode cX6_digestOfClashes 11 = .ok (.invokevirtual 78, 3) := by decide +kernel
theorem dX6_digestOfClashes_14 : decode cX6_digestOfClashes 14 = .ok (.if_icmp .ge 63, 3) := by decide +kernel
theorem dX6_digestOfClashes_17 : decode cX6_digestOfClashes 17 = .ok (.iload 5, 2) := by decide +kernel
theorem dX6_digestOfClashes_19 : decode cX6_digestOfClashes 19 = .ok (.iconst 1, 1) := by decide +kernel
theorem dX6_digestOfClashes_20 : decode cX6_digestOfClashes 20 = .ok (.iadd, 1) := by decide +kernel
theorem dX6_digestOfClashes_21 : decode cX6_digestOfClashes 21 = .ok (.istore 6, 2) := by decide +kernel
theorem dX6_digestOfClashes_23 : decode cX6_digestOfClashes 23 = .ok (.iload 6, 2) := by decide +kernel
theorem dX6_digestOfClashes_25 : decode cX6_digestOfClashes 25 = .ok (.aload_n 0, 1) := by decide +kernel
theorem dX6_digestOfClashes_26 : decode cX6_digestOfClashes 26 = .ok (.getfield 28, 3) := by decide +kernel
theorem dX6_digestOfClashes_29 : decode cX6_digestOfClashes 29 = .ok (.invokevirtual 78, 3) := by decide +kernel
theorem dX6_digestOfClashes_32 : decode cX6_digestOfClashes 32 = .ok (.if_icmp .ge 39, 3) := by decide +kernel
theorem dX6_digestOfClashes_35 : decode cX6_digestOfClashes 35 = .ok (.aload_n 0, 1) := by decide +kernel
theorem dX6_digestOfClashes_36 : decode cX6_digestOfClashes 36 = .ok (.getfield 28, 3) := by decide +kernel
theorem dX6_digestOfClashes_39 : decode cX6_digestOfClashes 39 = .ok (.iload 5, 2) := by decide +kernel
theorem dX6_digestOfClashes_41 : decode cX6_digestOfClashes 41 = .ok (.iload 6, 2) := by decide +kernel
theorem dX6_digestOfClashes_43 : decode cX6_digestOfClashes 43 = .ok (.invokevirtual 114, 3) := by decide +kernel
theorem dX6_digestOfClashes_46 : decode cX6_digestOfClashes 46 = .ok (.ifCond .eq 19, 3) := by decide +kernel
theorem dX6_digestOfClashes_49 : decode cX6_digestOfClashes 49 = .ok (.ldc2_w 220, 3) := by decide +kernel
theorem dX6_digestOfClashes_52 : decode cX6_digestOfClashes 52 = .ok (.lload_n 3, 1) := by decide +kernel
theorem dX6_digestOfClashes_53 : decode cX6_digestOfClashes 53 = .ok (.lmul, 1) := by decide +kernel
theorem dX6_digestOfClashes_54 : decode cX6_digestOfClashes 54 = .ok (.bipush 16, 2) := by decide +kernel
theorem dX6_digestOfClashes_56 : decode cX6_digestOfClashes 56 = .ok (.iload 5, 2) := by decide +kernel
theorem dX6_digestOfClashes_58 : decode cX6_digestOfClashes 58 = .ok (.imul, 1) := by decide +kernel
theorem dX6_digestOfClashes_59 : decode cX6_digestOfClashes 59 = .ok (.iload 6, 2) := by decide +kernel
theorem dX6_digestOfClashes_61 : decode cX6_digestOfClashes 61 = .ok (.iadd, 1) := by decide +kernel
theorem dX6_digestOfClashes_62 : decode cX6_digestOfClashes 62 = .ok (.i2l, 1) := by decide +kernel
theorem dX6_digestOfClashes_63 : decode cX6_digestOfClashes 63 = .ok (.ladd, 1) := by decide +kernel
theorem dX6_digestOfClashes_64 : decode cX6_digestOfClashes 64 = .ok (.lstore_n 3, 1) := by decide +kernel
theorem dX6_digestOfClashes_65 : decode cX6_digestOfClashes 65 = .ok (.iinc 6 1, 3) := by decide +kernel
theorem dX6_digestOfClashes_68 : decode cX6_digestOfClashes 68 = .ok (.goto (-45), 3) := by decide +kernel
theorem dX6_digestOfClashes_71 : decode cX6_digestOfClashes 71 = .ok (.iinc 5 1, 3) := by decide +kernel
theorem dX6_digestOfClashes_74 : decode cX6_digestOfClashes 74 = .ok (.goto (-69), 3) := by decide +kernel
theorem dX6_digestOfClashes_77 : decode cX6_digestOfClashes 77 = .ok (.lload_n 3, 1) := by decide +kernel
theorem dX6_digestOfClashes_78 : decode cX6_digestOfClashes 78 = .ok (.lreturn, 1) := by decide +kernel
theorem dX7_init_0 : decode cX7_init 0 = .ok (.aload_n 0, 1) := by decide +kernel
theorem dX7_init_1 : decode cX7_init 1 = .ok (.invokespecial 1, 3) := by decide +kernel
theorem dX7_init_4 : decode cX7_init 4 = .ok (.aload_n 0, 1) := by decide +kernel
theorem dX7_init_5 : decode cX7_init 5 = .ok (.bipush 52, 2) := by decide +kernel
theorem dX7_init_7 : decode cX7_init 7 = .ok (.newarray .int, 2) := by decide +kernel
theorem dX7_init_9 : decode cX7_init 9 = .ok (.putfield 7, 3) := by decide +kernel
theorem dX7_init_12 : decode cX7_init 12 = .ok (.aload_n 0, 1) := by decide +kernel
theorem dX7_init_13 : decode cX7_init 13 = .ok (.bipush 10, 2) := by decide +kernel
theorem dX7_init_15 : decode cX7_init 15 = .ok (.newarray .int, 2) := by decide +kernel
theorem dX7_init_17 : decode cX7_init 17 = .ok (.putfield 13, 3) := by decide +kernel
theorem dX7_init_20 : decode cX7_init 20 = .ok (.aload_n 0, 1) := by decide +kernel
theorem dX7_init_21 : decode cX7_init 21 = .ok (.bipush 10, 2) := by decide +kernel
theorem dX7_init_23 : decode cX7_init 23 = .ok (.newarray .boolean, 2) := by decide +kernel
theorem dX7_init_25 : decode cX7_init 25 = .ok (.putfield 16, 3) := by decide +kernel
theorem dX7_init_28 : decode cX7_init 28 = .ok (.aload_n 0, 1) := by decide +kernel
theorem dX7_init_29 : decode cX7_init 29 = .ok (.bipush 80, 2) := by decide +kernel
theorem dX7_init_31 : decode cX7_init 31 = .ok (.newarray .int, 2) := by decide +kernel
theorem dX7_init_33 : decode cX7_init 33 = .ok (.putfield 20, 3) := by decide +kernel
theorem dX7_init_36 : decode cX7_init 36 = .ok (.aload_n 0, 1) := by decide +kernel
theorem dX7_init_37 : decode cX7_init 37 = .ok (.bipush 10, 2) := by decide +kernel
theorem dX7_init_39 : decode cX7_init 39 = .ok (.newarray .int, 2) := by decide +kernel
theorem dX7_init_41 : decode cX7_init 41 = .ok (.putfield 23, 3) := by decide +kernel
theorem dX7_init_44 : decode cX7_init 44 = .ok (.aload_n 0, 1) := by decide +kernel
theorem dX7_init_45 : decode cX7_init 45 = .ok (.bipush 10, 2) := by decide +kernel
theorem dX7_init_47 : decode cX7_init 47 = .ok (.newarray .int, 2) := by decide +kernel
theorem dX7_init_49 : decode cX7_init 49 = .ok (.putfield 26, 3) := by decide +kernel
theorem dX7_init_52 : decode cX7_init 52 = .ok (.aload_n 0, 1) := by decide +kernel
theorem dX7_init_53 : decode cX7_init 53 = .ok (.bipush 10, 2) := by decide +kernel
theorem dX7_init_55 : decode cX7_init 55 = .ok (.newarray .int, 2) := by decide +kernel
theorem dX7_init_57 : decode cX7_init 57 = .ok (.putfield 29, 3) := by decide +kernel
theorem dX7_init_60 : decode cX7_init 60 = .ok (.aload_n 0, 1) := by decide +kernel
theorem dX7_init_61 : decode cX7_init 61 = .ok (.bipush 40, 2) := by decide +kernel
theorem dX7_init_63 : decode cX7_init 63 = .ok (.newarray .int, 2) := by decide +kernel
theorem dX7_init_65 : decode cX7_init 65 = .ok (.putfield 32, 3) := by decide +kernel
theorem dX7_init_68 : decode cX7_init 68 = .ok (.aload_n 0, 1) := by decide +kernel
theorem dX7_init_69 : decode cX7_init 69 = .ok (.iconst 3, 1) := by decide +kernel
theorem dX7_init_70 : decode cX7_init 70 = .ok (.newarray .int, 2) := by decide +kernel
theorem dX7_init_72 : decode cX7_init 72 = .ok (.putfield 35, 3) := by decide +kernel
theorem dX7_init_75 : decode cX7_init 75 = .ok (.aload_n 0, 1) := by decide +kernel
theorem dX7_init_76 : decode cX7_init 76 = .ok (.bipush 8, 2) := by decide +kernel
theorem dX7_init_78 : decode cX7_init 78 = .ok (.newarray .int, 2) := by decide +kernel
theorem dX7_init_80 : decode cX7_init 80 = .ok (.putfield 38, 3) := by decide +kernel
theorem dX7_init_83 : decode cX7_init 83 = .ok (.aload_n 0, 1) := by decide +kernel
theorem dX7_init_84 : decode cX7_init 84 = .ok (.iconst 4, 1) := by decide +kernel
theorem dX7_init_85 : decode cX7_init 85 = .ok (.newarray .int, 2) := by decide +kernel
theorem dX7_init_87 : decode cX7_init 87 = .ok (.putfield 41, 3) := by decide +kernel
theorem dX7_init_90 : decode cX7_init 90 = .ok (.aload_n 0, 1) := by decide +kernel
theorem dX7_init_91 : decode cX7_init 91 = .ok (.bipush 14, 2) := by decide +kernel
theorem dX7_init_93 : decode cX7_init 93 = .ok (.newarray .int, 2) := by decide +kernel
theorem dX7_init_95 : decode cX7_init 95 = .ok (.putfield 44, 3) := by decide +kernel
theorem dX7_init_98 : decode cX7_init 98 = .ok (.aload_n 0, 1) := by decide +kernel
theorem dX7_init_99 : decode cX7_init 99 = .ok (.bipush 10, 2) := by decide +kernel
theorem dX7_init_101 : decode cX7_init 101 = .ok (.newarray .int, 2) := by decide +kernel
theorem dX7_init_103 : decode cX7_init 103 = .ok (.putfield 47, 3) := by decide +kernel
theorem dX7_init_106 : decode cX7_init 106 = .ok (.aload_n 0, 1) := by decide +kernel
theorem dX7_init_107 : decode cX7_init 107 = .ok (.getfield 35, 3) := by decide +kernel
theorem dX7_init_110 : decode cX7_init 110 = .ok (.iconst 0, 1) := by decide +kernel
theorem dX7_init_111 : decode cX7_init 111 = .ok (.bipush 15, 2) := by decide +kernel
theorem dX7_init_113 : decode cX7_init 113 = .ok (.iastore, 1) := by decide +kernel
theorem dX7_init_114 : decode cX7_init 114 = .ok (.aload_n 0, 1) := by decide +kernel
theorem dX7_init_115 : decode cX7_init 115 = .ok (.getfield 35, 3) := by decide +kernel
theorem dX7_init_118 : decode cX7_init 118 = .ok (.iconst 1, 1) := by decide +kernel
theorem dX7_init_119 : decode cX7_init 119 = .ok (.bipush 8, 2) := by decide +kernel
theorem dX7_init_121 : decode cX7_init 121 = .ok (.iastore, 1) := by decide +kernel
theorem dX7_init_122 : decode cX7_init 122 = .ok (.aload_n 0, 1) := by decide +kernel
theorem dX7_init_123 : decode cX7_init 123 = .ok (.getfield 35, 3) := by decide +kernel
theorem dX7_init_126 : decode cX7_init 126 = .ok (.iconst 2, 1) := by decide +kernel
theorem dX7_init_127 : decode cX7_init 127 = .ok (.iconst 4, 1) := by decide +kernel
theorem dX7_init_128 : decode cX7_init 128 = .ok (.iastore, 1) := by decide +kernel
theorem dX7_init_129 : decode cX7_init 129 = .ok (.return_, 1) := by decide +kernel
theorem dX7_within_0 : decode cX7_within 0 = .ok (.iload_n 0, 1) := by decide +kernel
theorem dX7_within_1 : decode cX7_within 1 = .ok (.iload_n 1, 1) := by decide +kernel
theorem dX7_within_2 : decode cX7_within 2 = .ok (.if_icmp .lt 12, 3) := by decide +kernel
theorem dX7_within_5 : decode cX7_within 5 = .ok (.iload_n 0, 1) := by decide +kernel
theorem dX7_within_6 : decode cX7_within 6 = .ok (.iload_n 2, 1) := by decide +kernel
theorem dX7_within_7 : decode cX7_within 7 = .ok (.if_icmp .gt 7, 3) := by decide +kernel
theorem dX7_within_10 : decode cX7_within 10 = .ok (.iconst 1, 1) := by decide +kernel
theorem dX7_within_11 : decode cX7_within 11 = .ok (.goto 4, 3) := by decide +kernel
theorem dX7_within_14 : decode cX7_within 14 = .ok (.iconst 0, 1) := by decide +kernel
theorem dX7_within_15 : decode cX7_within 15 = .ok (.ireturn, 1) := by decide +kernel
theorem dX7_ones_0 : decode cX7_ones 0 = .ok (.iconst 0, 1) := by decide +kernel
theorem dX7_ones_1 : decode cX7_ones 1 = .ok (.istore_n 1, 1) := by decide +kernel
theorem dX7_ones_2 : decode cX7_ones 2 = .ok (.iconst 0, 1) := by decide +kernel
theorem dX7_ones_3 : decode cX7_ones 3 = .ok (.istore_n 2, 1) := by decide +kernel
theorem dX7_ones_4 : decode cX7_ones 4 = .ok (.iload_n 2, 1) := by decide +kernel
theorem dX7_ones_5 : decode cX7_ones 5 = .ok (.bipush 10, 2) := by decide +kernel
theorem dX7_ones_7 : decode cX7_ones 7 = .ok (.if_icmp .ge 17, 3) := by decide +kernel
theorem dX7_ones_10 : decode cX7_ones 10 = .ok (.iload_n 1, 1) := by decide +kernel
theorem dX7_ones_11 : decode cX7_ones 11 = .ok (.iload_n 0, 1) := by decide +kernel
theorem dX7_ones_12 : decode cX7_ones 12 = .ok (.iload_n 2, 1) := by decide +kernel
theorem dX7_ones_13 : decode cX7_ones 13 = .ok (.ishr, 1) := by decide +kernel
theorem dX7_ones_14 : decode cX7_ones 14 = .ok (.iconst 1, 1) := by decide +kernel
theorem dX7_ones_15 : decode cX7_ones 15 = .ok (.iand, 1) := by decide +kernel
theorem dX7_ones_16 : decode cX7_ones 16 = .ok (.iadd, 1) := by decide +kernel
theorem dX7_ones_17 : decode cX7_ones 17 = .ok (.istore_n 1, 1) := by decide +kernel
theorem dX7_ones_18 : decode cX7_ones 18 = .ok (.iinc 2 1, 3) := by decide +kernel
theorem dX7_ones_21 : decode cX7_ones 21 = .ok (.goto (-17), 3) := by decide +kernel
theorem dX7_ones_24 : decode cX7_ones 24 = .ok (.iload_n 1, 1) := by decide +kernel
theorem dX7_ones_25 : decode cX7_ones 25 = .ok (.ireturn, 1) := by decide +kernel
theorem dX7_letter_0 : decode cX7_letter 0 = .ok (.iload_n 1, 1) := by decide +kernel
theorem dX7_letter_1 : decode cX7_letter 1 = .ok (.bipush 32, 2) := by decide +kernel
theorem dX7_letter_3 : decode cX7_letter 3 = .ok (.bipush 126, 2) := by decide +kernel
theorem dX7_letter_5 : decode cX7_letter 5 = .ok (.invokestatic 50, 3) := by decide +kernel
theorem dX7_letter_8 : decode cX7_letter 8 = .ok (.ifCond .ne 7, 3) := by decide +kernel
theorem dX7_letter_11 : decode cX7_letter 11 = .ok (.sipush (-1002), 3) := by decide +kernel
theorem dX7_letter_14 : decode cX7_letter 14 = .ok (.ireturn, 1) := by decide +kernel
theorem dX7_letter_15 : decode cX7_letter 15 = .ok (.aload_n 0, 1) := by decide +kernel
theorem dX7_letter_16 : decode cX7_letter 16 = .ok (.getfield 54, 3) := by decide +kernel
theorem dX7_letter_19 : decode cX7_letter 19 = .ok (.bipush 52, 2) := by decide +kernel
theorem dX7_letter_21 : decode cX7_letter 21 = .ok (.if_icmp .ne 7, 3) := by decide +kernel
theorem dX7_letter_24 : decode cX7_letter 24 = .ok (.sipush (-1004), 3) := by decide +kernel
theorem dX7_letter_27 : decode cX7_letter 27 = .ok (.ireturn, 1) := by decide +kernel
theorem dX7_letter_28 : decode cX7_letter 28 = .ok (.aload_n 0, 1) := by decide +kernel
theorem dX7_letter_29 : decode cX7_letter 29 = .ok (.getfield 7, 3) := by decide +kernel
theorem dX7_letter_32 : decode cX7_letter 32 = .ok (.aload_n 0, 1) := by decide +kernel
theorem dX7_letter_33 : decode cX7_letter 33 = .ok (.getfield 54, 3) := by decide +kernel
theorem dX7_letter_36 : decode cX7_letter 36 = .ok (.iload_n 1, 1) := by decide +kernel
theorem dX7_letter_37 : decode cX7_letter 37 = .ok (.iastore, 1) := by decide +kernel
theorem dX7_letter_38 : decode cX7_letter 38 = .ok (.aload_n 0, 1) := by decide +kernel
theorem dX7_letter_39 : decode cX7_letter 39 = .ok (.dup, 1) := by decide +kernel
theorem dX7_letter_40 : decode cX7_letter 40 = .ok (.getfield 54, 3) := by decide +kernel
theorem dX7_letter_43 : decode cX7_letter 43 = .ok (.iconst 1, 1) := by decide +kernel
theorem dX7_letter_44 : decode cX7_letter 44 = .ok (.iadd, 1) := by decide +kernel
theorem dX7_letter_45 : decode cX7_letter 45 = .ok (.putfield 54, 3) := by decide +kernel
theorem dX7_letter_48 : decode cX7_letter 48 = .ok (.aload_n 0, 1) := by decide +kernel
theorem dX7_letter_49 : decode cX7_letter 49 = .ok (.getfield 54, 3) := by decide +kernel
theorem dX7_letter_52 : decode cX7_letter 52 = .ok (.ireturn, 1) := by decide +kernel
theorem dX7_blank_0 : decode cX7_blank 0 = .ok (.aload_n 0, 1) := by decide +kernel
theorem dX7_blank_1 : decode cX7_blank 1 = .ok (.getfield 54, 3) := by decide +kernel
theorem dX7_blank_4 : decode cX7_blank 4 = .ok (.istore_n 1, 1) := by decide +kernel
theorem dX7_blank_5 : decode cX7_blank 5 = .ok (.aload_n 0, 1) := by decide +kernel
theorem dX7_blank_6 : decode cX7_blank 6 = .ok (.iconst 0, 1) := by decide +kernel
theorem dX7_blank_7 : decode cX7_blank 7 = .ok (.putfield 54, 3) := by decide +kernel
theorem dX7_blank_10 : decode cX7_blank 10 = .ok (.iload_n 1, 1) := by decide +kernel
theorem dX7_blank_11 : decode cX7_blank 11 = .ok (.ireturn, 1) := by decide +kernel
theorem dX7_letsNext_0 : decode cX7_letsNext 0 = .ok (.aload_n 0, 1) := by decide +kernel
theorem dX7_letsNext_1 : decode cX7_letsNext 1 = .ok (.getfield 38, 3) := by decide +kernel
theorem dX7_letsNext_4 : decode cX7_letsNext 4 = .ok (.aload_n 0, 1) := by decide +kernel
theorem dX7_letsNext_5 : decode cX7_letsNext 5 = .ok (.getfield 58, 3) := by decide +kernel
theorem dX7_letsNext_8 : decode cX7_letsNext 8 = .ok (.iload_n 1, 1) := by decide +kernel
theorem dX7_letsNext_9 : decode cX7_letsNext 9 = .ok (.iastore, 1) := by decide +kernel
theorem dX7_letsNext_10 : decode cX7_letsNext 10 = .ok (.aload_n 0, 1) := by decide +kernel
theorem dX7_letsNext_11 : decode cX7_letsNext 11 = .ok (.dup, 1) := by decide +kernel
theorem dX7_letsNext_12 : decode cX7_letsNext 12 = .ok (.getfield 58, 3) := by decide +kernel
theorem dX7_letsNext_15 : decode cX7_letsNext 15 = .ok (.iconst 1, 1) := by decide +kernel
theorem dX7_letsNext_16 : decode cX7_letsNext 16 = .ok (.iadd, 1) := by decide +kernel
theorem dX7_letsNext_17 : decode cX7_letsNext 17 = .ok (.putfield 58, 3) := by decide +kernel
theorem dX7_letsNext_20 : decode cX7_letsNext 20 = .ok (.aload_n 0, 1) := by decide +kernel
theorem dX7_letsNext_21 : decode cX7_letsNext 21 = .ok (.iconst 0, 1) := by decide +kernel
theorem dX7_letsNext_22 : decode cX7_letsNext 22 = .ok (.putfield 61, 3) := by decide +kernel
theorem dX7_letsNext_25 : decode cX7_letsNext 25 = .ok (.iconst 1, 1) := by decide +kernel
theorem dX7_letsNext_26 : decode cX7_letsNext 26 = .ok (.ireturn, 1) := by decide +kernel
theorem dX7_takesPlace_0 : decode cX7_takesPlace 0 = .ok (.iload_n 1, 1) := by decide +kernel
theorem dX7_takesPlace_1 : decode cX7_takesPlace 1 = .ok (.bipush 61, 2) := by decide +kernel
theorem dX7_takesPlace_3 : decode cX7_takesPlace 3 = .ok (.if_icmp .ne 18, 3) := by decide +kernel
theorem dX7_takesPlace_6 : decode cX7_takesPlace 6 = .ok (.aload_n 0, 1) := by decide +kernel
theorem dX7_takesPlace_7 : decode cX7_takesPlace 7 = .ok (.getfield 58, 3) := by decide +kernel
theorem dX7_takesPlace_10 : decode cX7_takesPlace 10 = .ok (.ifCond .le 11, 3) := by decide +kernel
theorem dX7_takesPlace_13 : decode cX7_takesPlace 13 = .ok (.aload_n 0, 1) := by decide +kernel
theorem dX7_takesPlace_14 : decode cX7_takesPlace 14 = .ok (.bipush 6, 2) := by decide +kernel
theorem dX7_takesPlace_16 : decode cX7_takesPlace 16 = .ok (.putfield 61, 3) := by decide +kernel
theorem dX7_takesPlace_19 : decode cX7_takesPlace 19 = .ok (.iconst 1, 1) := by decide +kernel
theorem dX7_takesPlace_20 : decode cX7_takesPlace 20 = .ok (.ireturn, 1) := by decide +kernel
theorem dX7_takesPlace_21 : decode cX7_takesPlace 21 = .ok (.iload_n 1, 1) := by decide +kernel
theorem dX7_takesPlace_22 : decode cX7_takesPlace 22 = .ok (.bipush 46, 2) := by decide +kernel
theorem dX7_takesPlace_24 : decode cX7_takesPlace 24 = .ok (.if_icmp .ne 22, 3) := by decide +kernel
theorem dX7_takesPlace_27 : decode cX7_takesPlace 27 = .ok (.aload_n 0, 1) := by decide +kernel
theorem dX7_takesPlace_28 : decode cX7_takesPlace 28 = .ok (.getfield 58, 3) := by decide +kernel
theorem dX7_takesPlace_31 : decode cX7_takesPlace 31 = .ok (.ifCond .le 15, 3) := by decide +kernel
theorem dX7_takesPlace_34 : decode cX7_takesPlace 34 = .ok (.aload_n 0, 1) := by decide +kernel
theorem dX7_takesPlace_35 : decode cX7_takesPlace 35 = .ok (.iconst 1, 1) := by decide +kernel
theorem dX7_takesPlace_36 : decode cX7_takesPlace 36 = .ok (.putfield 64, 3) := by decide +kernel
theorem dX7_takesPlace_39 : decode cX7_takesPlace 39 = .ok (.aload_n 0, 1) := by decide +kernel
theorem dX7_takesPlace_40 : decode cX7_takesPlace 40 = .ok (.iconst 5, 1) := by decide +kernel
theorem dX7_takesPlace_41 : decode cX7_takesPlace 41 = .ok (.putfield 61, 3) := by decide +kernel
theorem dX7_takesPlace_44 : decode cX7_takesPlace 44 = .ok (.iconst 1, 1) := by decide +kernel
theorem dX7_takesPlace_45 : decode cX7_takesPlace 45 = .ok (.ireturn, 1) := by decide +kernel
theorem dX7_takesPlace_46 : decode cX7_takesPlace 46 = .ok (.aload_n 0, 1) := by decide +kernel
theorem dX7_takesPlace_47 : decode cX7_takesPlace 47 = .ok (.getfield 58, 3) := by decide +kernel
theorem dX7_takesPlace_50 : decode cX7_takesPlace 50 = .ok (.bipush 8, 2) := by decide +kernel
theorem dX7_takesPlace_52 : decode cX7_takesPlace 52 = .ok (.if_icmp .ne 5, 3) := by decide +kernel
theorem dX7_takesPlace_55 : decode cX7_takesPlace 55 = .ok (.iconst 0, 1) := by decide +kernel
theorem dX7_takesPlace_56 : decode cX7_takesPlace 56 = .ok (.ireturn, 1) := by decide +kernel
theorem dX7_takesPlace_57 : decode cX7_takesPlace 57 = .ok (.iload_n 1, 1) := by decide +kernel
theorem dX7_takesPlace_58 : decode cX7_takesPlace 58 = .ok (.bipush 91, 2) := by decide +kernel
theorem dX7_takesPlace_60 : decode cX7_takesPlace 60 = .ok (.if_icmp .ne 10, 3) := by decide +kernel
theorem dX7_takesPlace_63 : decode cX7_takesPlace 63 = .ok (.aload_n 0, 1) := by decide +kernel
theorem dX7_takesPlace_64 : decode cX7_takesPlace 64 = .ok (.iconst 1, 1) := by decide +kernel
theorem dX7_takesPlace_65 : decode cX7_takesPlace 65 = .ok (.putfield 61, 3) := by decide +kernel
theorem dX7_takesPlace_68 : decode cX7_takesPlace 68 = .ok (.iconst 1, 1) := by decide +kernel
theorem dX7_takesPlace_69 : decode cX7_takesPlace 69 = .ok (.ireturn, 1) := by decide +kernel
theorem dX7_takesPlace_70 : decode cX7_takesPlace 70 = .ok (.iload_n 1, 1) := by decide +kernel
theorem dX7_takesPlace_71 : decode cX7_takesPlace 71 = .ok (.bipush 48, 2) := by decide +kernel
theorem dX7_takesPlace_73 : decode cX7_takesPlace 73 = .ok (.bipush 57, 2) := by decide +kernel
theorem dX7_takesPlace_75 : decode cX7_takesPlace 75 = .ok (.invokestatic 50, 3) := by decide +kernel
theorem dX7_takesPlace_78 : decode cX7_takesPlace 78 = .ok (.ifCond .ne 15, 3) := by decide +kernel
theorem dX7_takesPlace_81 : decode cX7_takesPlace 81 = .ok (.iload_n 1, 1) := by decide +kernel
theorem dX7_takesPlace_82 : decode cX7_takesPlace 82 = .ok (.bipush 78, 2) := by decide +kernel
theorem dX7_takesPlace_84 : decode cX7_takesPlace 84 = .ok (.if_icmp .eq 9, 3) := by decide +kernel
theorem dX7_takesPlace_87 : decode cX7_takesPlace 87 = .ok (.iload_n 1, 1) := by decide +kernel
theorem dX7_takesPlace_88 : decode cX7_takesPlace 88 = .ok (.bipush 88, 2) := by decide +kernel
theorem dX7_takesPlace_90 : decode cX7_takesPlace 90 = .ok (.if_icmp .ne 7, 3) := by decide +kernel
theorem dX7_takesPlace_93 : decode cX7_takesPlace 93 = .ok (.iconst 1, 1) := by decide +kernel
theorem dX7_takesPlace_94 : decode cX7_takesPlace 94 = .ok (.goto 4, 3) := by decide +kernel
theorem dX7_takesPlace_97 : decode cX7_takesPlace 97 = .ok (.iconst 0, 1) := by decide +kernel
theorem dX7_takesPlace_98 : decode cX7_takesPlace 98 = .ok (.istore_n 2, 1) := by decide +kernel
theorem dX7_takesPlace_99 : decode cX7_takesPlace 99 = .ok (.iload_n 2, 1) := by decide +kernel
theorem dX7_takesPlace_100 : decode cX7_takesPlace 100 = .ok (.ifCond .eq 44, 3) := by decide +kernel
theorem dX7_takesPlace_103 : decode cX7_takesPlace 103 = .ok (.aload_n 0, 1) := by decide +kernel
theorem dX7_takesPlace_104 : decode cX7_takesPlace 104 = .ok (.iload_n 1, 1) := by decide +kernel
theorem dX7_takesPlace_105 : decode cX7_takesPlace 105 = .ok (.bipush 78, 2) := by decide +kernel
theorem dX7_takesPlace_107 : decode cX7_takesPlace 107 = .ok (.if_icmp .ne 9, 3) := by decide +kernel
theorem dX7_takesPlace_110 : decode cX7_takesPlace 110 = .ok (.sipush 1020, 3) := by decide +kernel
theorem dX7_takesPlace_113 : decode cX7_takesPlace 113 = .ok (.goto 21, 3) := by decide +kernel
theorem dX7_takesPlace_116 : decode cX7_takesPlace 116 = .ok (.iload_n 1, 1) := by decide +kernel
theorem dX7_takesPlace_117 : decode cX7_takesPlace 117 = .ok (.bipush 88, 2) := by decide +kernel
theorem dX7_takesPlace_119 : decode cX7_takesPlace 119 = .ok (.if_icmp .ne 9, 3) := by decide +kernel
theorem dX7_takesPlace_122 : decode cX7_takesPlace 122 = .ok (.sipush 1023, 3) := by decide +kernel
theorem dX7_takesPlace_125 : decode cX7_takesPlace 125 = .ok (.goto 9, 3) := by decide +kernel
theorem dX7_takesPlace_128 : decode cX7_takesPlace 128 = .ok (.iconst 1, 1) := by decide +kernel
theorem dX7_takesPlace_129 : decode cX7_takesPlace 129 = .ok (.iload_n 1, 1) := by decide +kernel
theorem dX7_takesPlace_130 : decode cX7_takesPlace 130 = .ok (.bipush 48, 2) := by decide +kernel
theorem dX7_takesPlace_132 : decode cX7_takesPlace 132 = .ok (.isub, 1) := by decide +kernel
theorem dX7_takesPlace_133 : decode cX7_takesPlace 133 = .ok (.ishl, 1) := by decide +kernel
theorem dX7_takesPlace_134 : decode cX7_takesPlace 134 = .ok (.invokevirtual 68, 3) := by decide +kernel
theorem dX7_takesPlace_137 : decode cX7_takesPlace 137 = .ok (.ifCond .eq 7, 3) := by decide +kernel
theorem dX7_takesPlace_140 : decode cX7_takesPlace 140 = .ok (.iconst 1, 1) := by decide +kernel
theorem dX7_takesPlace_141 : decode cX7_takesPlace 141 = .ok (.goto 4, 3) := by decide +kernel
theorem dX7_takesPlace_144 : decode cX7_takesPlace 144 = .ok (.iconst 0, 1) := by decide +kernel
theorem dX7_takesPlace_145 : decode cX7_takesPlace 145 = .ok (.ireturn, 1) := by decide +kernel
theorem dX7_takesSpan_0 : decode cX7_takesSpan 0 = .ok (.iload_n 1, 1) := by decide +kernel
end
section
theorem dX7_takesSpan_1 : decode cX7_takesSpan 1 = .ok (.bipush 48, 2) := by decide +kernel
theorem dX7_takesSpan_3 : decode cX7_takesSpan 3 = .ok (.isub, 1) := by decide +kernel
theorem dX7_takesSpan_4 : decode cX7_takesSpan 4 = .ok (.istore_n 2, 1) := by decide +kernel
theorem dX7_takesSpan_5 : decode cX7_takesSpan 5 = .ok (.aload_n 0, 1) := by decide +kernel
theorem dX7_takesSpan_6 : decode cX7_takesSpan 6 = .ok (.getfield 61, 3) := by decide +kernel
theorem dX7_takesSpan_9 : decode cX7_takesSpan 9 = .ok (.iconst 1, 1) := by decide +kernel
theorem dX7_takesSpan_10 : decode cX7_takesSpan 10 = .ok (.if_icmp .ne 13, 3) := by decide +kernel
theorem dX7_takesSpan_13 : decode cX7_takesSpan 13 = .ok (.iload_n 2, 1) := by decide +kernel
theorem dX7_takesSpan_14 : decode cX7_takesSpan 14 = .ok (.iconst 0, 1) := by decide +kernel
theorem dX7_takesSpan_15 : decode cX7_takesSpan 15 = .ok (.bipush 8, 2) := by decide +kernel
theorem dX7_takesSpan_17 : decode cX7_takesSpan 17 = .ok (.invokestatic 50, 3) := by decide +kernel
theorem dX7_takesSpan_20 : decode cX7_takesSpan 20 = .ok (.goto 59, 3) := by decide +kernel
theorem dX7_takesSpan_23 : decode cX7_takesSpan 23 = .ok (.aload_n 0, 1) := by decide +kernel
theorem dX7_takesSpan_24 : decode cX7_takesSpan 24 = .ok (.getfield 61, 3) := by decide +kernel
theorem dX7_takesSpan_27 : decode cX7_takesSpan 27 = .ok (.iconst 2, 1) := by decide +kernel
theorem dX7_takesSpan_28 : decode cX7_takesSpan 28 = .ok (.if_icmp .ne 17, 3) := by decide +kernel
theorem dX7_takesSpan_31 : decode cX7_takesSpan 31 = .ok (.iload_n 1, 1) := by decide +kernel
theorem dX7_takesSpan_32 : decode cX7_takesSpan 32 = .ok (.bipush 45, 2) := by decide +kernel
theorem dX7_takesSpan_34 : decode cX7_takesSpan 34 = .ok (.if_icmp .ne 7, 3) := by decide +kernel
theorem dX7_takesSpan_37 : decode cX7_takesSpan 37 = .ok (.iconst 1, 1) := by decide +kernel
theorem dX7_takesSpan_38 : decode cX7_takesSpan 38 = .ok (.goto 41, 3) := by decide +kernel
theorem dX7_takesSpan_41 : decode cX7_takesSpan 41 = .ok (.iconst 0, 1) := by decide +kernel
theorem dX7_takesSpan_42 : decode cX7_takesSpan 42 = .ok (.goto 37, 3) := by decide +kernel
theorem dX7_takesSpan_45 : decode cX7_takesSpan 45 = .ok (.aload_n 0, 1) := by decide +kernel
theorem dX7_takesSpan_46 : decode cX7_takesSpan 46 = .ok (.getfield 61, 3) := by decide +kernel
theorem dX7_takesSpan_49 : decode cX7_takesSpan 49 = .ok (.iconst 3, 1) := by decide +kernel
theorem dX7_takesSpan_50 : decode cX7_takesSpan 50 = .ok (.if_icmp .ne 18, 3) := by decide +kernel
theorem dX7_takesSpan_53 : decode cX7_takesSpan 53 = .ok (.iload_n 2, 1) := by decide +kernel
theorem dX7_takesSpan_54 : decode cX7_takesSpan 54 = .ok (.aload_n 0, 1) := by decide +kernel
theorem dX7_takesSpan_55 : decode cX7_takesSpan 55 = .ok (.getfield 72, 3) := by decide +kernel
theorem dX7_takesSpan_58 : decode cX7_takesSpan 58 = .ok (.iconst 1, 1) := by decide +kernel
theorem dX7_takesSpan_59 : decode cX7_takesSpan 59 = .ok (.iadd, 1) := by decide +kernel
theorem dX7_takesSpan_60 : decode cX7_takesSpan 60 = .ok (.bipush 9, 2) := by decide +kernel
theorem dX7_takesSpan_62 : decode cX7_takesSpan 62 = .ok (.invokestatic 50, 3) := by decide +kernel
theorem dX7_takesSpan_65 : decode cX7_takesSpan 65 = .ok (.goto 14, 3) := by decide +kernel
theorem dX7_takesSpan_68 : decode cX7_takesSpan 68 = .ok (.iload_n 1, 1) := by decide +kernel
theorem dX7_takesSpan_69 : decode cX7_takesSpan 69 = .ok (.bipush 93, 2) := by decide +kernel
theorem dX7_takesSpan_71 : decode cX7_takesSpan 71 = .ok (.if_icmp .ne 7, 3) := by decide +kernel
theorem dX7_takesSpan_74 : decode cX7_takesSpan 74 = .ok (.iconst 1, 1) := by decide +kernel
theorem dX7_takesSpan_75 : decode cX7_takesSpan 75 = .ok (.goto 4, 3) := by decide +kernel
theorem dX7_takesSpan_78 : decode cX7_takesSpan 78 = .ok (.iconst 0, 1) := by decide +kernel
theorem dX7_takesSpan_79 : decode cX7_takesSpan 79 = .ok (.istore_n 3, 1) := by decide +kernel
theorem dX7_takesSpan_80 : decode cX7_takesSpan 80 = .ok (.iload_n 3, 1) := by decide +kernel
theorem dX7_takesSpan_81 : decode cX7_takesSpan 81 = .ok (.ifCond .eq 31, 3) := by decide +kernel
theorem dX7_takesSpan_84 : decode cX7_takesSpan 84 = .ok (.aload_n 0, 1) := by decide +kernel
theorem dX7_takesSpan_85 : decode cX7_takesSpan 85 = .ok (.getfield 61, 3) := by decide +kernel
theorem dX7_takesSpan_88 : decode cX7_takesSpan 88 = .ok (.iconst 4, 1) := by decide +kernel
theorem dX7_takesSpan_89 : decode cX7_takesSpan 89 = .ok (.if_icmp .ne 23, 3) := by decide +kernel
theorem dX7_takesSpan_92 : decode cX7_takesSpan 92 = .ok (.aload_n 0, 1) := by decide +kernel
theorem dX7_takesSpan_93 : decode cX7_takesSpan 93 = .ok (.iconst 1, 1) := by decide +kernel
theorem dX7_takesSpan_94 : decode cX7_takesSpan 94 = .ok (.aload_n 0, 1) := by decide +kernel
theorem dX7_takesSpan_95 : decode cX7_takesSpan 95 = .ok (.getfield 75, 3) := by decide +kernel
theorem dX7_takesSpan_98 : decode cX7_takesSpan 98 = .ok (.iconst 1, 1) := by decide +kernel
theorem dX7_takesSpan_99 : decode cX7_takesSpan 99 = .ok (.iadd, 1) := by decide +kernel
theorem dX7_takesSpan_100 : decode cX7_takesSpan 100 = .ok (.ishl, 1) := by decide +kernel
theorem dX7_takesSpan_101 : decode cX7_takesSpan 101 = .ok (.iconst 1, 1) := by decide +kernel
theorem dX7_takesSpan_102 : decode cX7_takesSpan 102 = .ok (.aload_n 0, 1) := by decide +kernel
theorem dX7_takesSpan_103 : decode cX7_takesSpan 103 = .ok (.getfield 72, 3) := by decide +kernel
theorem dX7_takesSpan_106 : decode cX7_takesSpan 106 = .ok (.ishl, 1) := by decide +kernel
theorem dX7_takesSpan_107 : decode cX7_takesSpan 107 = .ok (.isub, 1) := by decide +kernel
theorem dX7_takesSpan_108 : decode cX7_takesSpan 108 = .ok (.invokevirtual 68, 3) := by decide +kernel
theorem dX7_takesSpan_111 : decode cX7_takesSpan 111 = .ok (.ireturn, 1) := by decide +kernel
theorem dX7_takesSpan_112 : decode cX7_takesSpan 112 = .ok (.aload_n 0, 1) := by decide +kernel
theorem dX7_takesSpan_113 : decode cX7_takesSpan 113 = .ok (.aload_n 0, 1) := by decide +kernel
theorem dX7_takesSpan_114 : decode cX7_takesSpan 114 = .ok (.getfield 61, 3) := by decide +kernel
theorem dX7_takesSpan_117 : decode cX7_takesSpan 117 = .ok (.iconst 1, 1) := by decide +kernel
theorem dX7_takesSpan_118 : decode cX7_takesSpan 118 = .ok (.if_icmp .ne 7, 3) := by decide +kernel
theorem dX7_takesSpan_121 : decode cX7_takesSpan 121 = .ok (.iload_n 2, 1) := by decide +kernel
theorem dX7_takesSpan_122 : decode cX7_takesSpan 122 = .ok (.goto 7, 3) := by decide +kernel
theorem dX7_takesSpan_125 : decode cX7_takesSpan 125 = .ok (.aload_n 0, 1) := by decide +kernel
theorem dX7_takesSpan_126 : decode cX7_takesSpan 126 = .ok (.getfield 72, 3) := by decide +kernel
theorem dX7_takesSpan_129 : decode cX7_takesSpan 129 = .ok (.putfield 72, 3) := by decide +kernel
theorem dX7_takesSpan_132 : decode cX7_takesSpan 132 = .ok (.aload_n 0, 1) := by decide +kernel
theorem dX7_takesSpan_133 : decode cX7_takesSpan 133 = .ok (.aload_n 0, 1) := by decide +kernel
theorem dX7_takesSpan_134 : decode cX7_takesSpan 134 = .ok (.getfield 61, 3) := by decide +kernel
theorem dX7_takesSpan_137 : decode cX7_takesSpan 137 = .ok (.iconst 3, 1) := by decide +kernel
theorem dX7_takesSpan_138 : decode cX7_takesSpan 138 = .ok (.if_icmp .ne 7, 3) := by decide +kernel
theorem dX7_takesSpan_141 : decode cX7_takesSpan 141 = .ok (.iload_n 2, 1) := by decide +kernel
theorem dX7_takesSpan_142 : decode cX7_takesSpan 142 = .ok (.goto 7, 3) := by decide +kernel
theorem dX7_takesSpan_145 : decode cX7_takesSpan 145 = .ok (.aload_n 0, 1) := by decide +kernel
theorem dX7_takesSpan_146 : decode cX7_takesSpan 146 = .ok (.getfield 75, 3) := by decide +kernel
theorem dX7_takesSpan_149 : decode cX7_takesSpan 149 = .ok (.putfield 75, 3) := by decide +kernel
theorem dX7_takesSpan_152 : decode cX7_takesSpan 152 = .ok (.aload_n 0, 1) := by decide +kernel
theorem dX7_takesSpan_153 : decode cX7_takesSpan 153 = .ok (.dup, 1) := by decide +kernel
theorem dX7_takesSpan_154 : decode cX7_takesSpan 154 = .ok (.getfield 61, 3) := by decide +kernel
theorem dX7_takesSpan_157 : decode cX7_takesSpan 157 = .ok (.iload_n 3, 1) := by decide +kernel
theorem dX7_takesSpan_158 : decode cX7_takesSpan 158 = .ok (.ifCond .eq 7, 3) := by decide +kernel
theorem dX7_takesSpan_161 : decode cX7_takesSpan 161 = .ok (.iconst 1, 1) := by decide +kernel
theorem dX7_takesSpan_162 : decode cX7_takesSpan 162 = .ok (.goto 4, 3) := by decide +kernel
theorem dX7_takesSpan_165 : decode cX7_takesSpan 165 = .ok (.iconst 0, 1) := by decide +kernel
theorem dX7_takesSpan_166 : decode cX7_takesSpan 166 = .ok (.iadd, 1) := by decide +kernel
theorem dX7_takesSpan_167 : decode cX7_takesSpan 167 = .ok (.putfield 61, 3) := by decide +kernel
theorem dX7_takesSpan_170 : decode cX7_takesSpan 170 = .ok (.iload_n 3, 1) := by decide +kernel
theorem dX7_takesSpan_171 : decode cX7_takesSpan 171 = .ok (.ireturn, 1) := by decide +kernel
theorem dX7_takesWay_0 : decode cX7_takesWay 0 = .ok (.aload_n 0, 1) := by decide +kernel
theorem dX7_takesWay_1 : decode cX7_takesWay 1 = .ok (.iload_n 1, 1) := by decide +kernel
theorem dX7_takesWay_2 : decode cX7_takesWay 2 = .ok (.bipush 97, 2) := by decide +kernel
theorem dX7_takesWay_4 : decode cX7_takesWay 4 = .ok (.bipush 104, 2) := by decide +kernel
theorem dX7_takesWay_6 : decode cX7_takesWay 6 = .ok (.invokestatic 50, 3) := by decide +kernel
theorem dX7_takesWay_9 : decode cX7_takesWay 9 = .ok (.ifCond .eq 10, 3) := by decide +kernel
theorem dX7_takesWay_12 : decode cX7_takesWay 12 = .ok (.iload_n 1, 1) := by decide +kernel
theorem dX7_takesWay_13 : decode cX7_takesWay 13 = .ok (.bipush 97, 2) := by decide +kernel
theorem dX7_takesWay_15 : decode cX7_takesWay 15 = .ok (.isub, 1) := by decide +kernel
theorem dX7_takesWay_16 : decode cX7_takesWay 16 = .ok (.goto 37, 3) := by decide +kernel
theorem dX7_takesWay_19 : decode cX7_takesWay 19 = .ok (.iload_n 1, 1) := by decide +kernel
theorem dX7_takesWay_20 : decode cX7_takesWay 20 = .ok (.bipush 45, 2) := by decide +kernel
theorem dX7_takesWay_22 : decode cX7_takesWay 22 = .ok (.if_icmp .ne 8, 3) := by decide +kernel
theorem dX7_takesWay_25 : decode cX7_takesWay 25 = .ok (.bipush 8, 2) := by decide +kernel
theorem dX7_takesWay_27 : decode cX7_takesWay 27 = .ok (.goto 26, 3) := by decide +kernel
theorem dX7_takesWay_30 : decode cX7_takesWay 30 = .ok (.iload_n 1, 1) := by decide +kernel
theorem dX7_takesWay_31 : decode cX7_takesWay 31 = .ok (.bipush 33, 2) := by decide +kernel
theorem dX7_takesWay_33 : decode cX7_takesWay 33 = .ok (.if_icmp .ne 8, 3) := by decide +kernel
theorem dX7_takesWay_36 : decode cX7_takesWay 36 = .ok (.bipush 9, 2) := by decide +kernel
theorem dX7_takesWay_38 : decode cX7_takesWay 38 = .ok (.goto 15, 3) := by decide +kernel
theorem dX7_takesWay_41 : decode cX7_takesWay 41 = .ok (.iload_n 1, 1) := by decide +kernel
theorem dX7_takesWay_42 : decode cX7_takesWay 42 = .ok (.bipush 42, 2) := by decide +kernel
theorem dX7_takesWay_44 : decode cX7_takesWay 44 = .ok (.if_icmp .ne 8, 3) := by decide +kernel
theorem dX7_takesWay_47 : decode cX7_takesWay 47 = .ok (.bipush 10, 2) := by decide +kernel
theorem dX7_takesWay_49 : decode cX7_takesWay 49 = .ok (.goto 4, 3) := by decide +kernel
theorem dX7_takesWay_52 : decode cX7_takesWay 52 = .ok (.iconst (-1), 1) := by decide +kernel
theorem dX7_takesWay_53 : decode cX7_takesWay 53 = .ok (.putfield 78, 3) := by decide +kernel
theorem dX7_takesWay_56 : decode cX7_takesWay 56 = .ok (.aload_n 0, 1) := by decide +kernel
theorem dX7_takesWay_57 : decode cX7_takesWay 57 = .ok (.bipush 7, 2) := by decide +kernel
theorem dX7_takesWay_59 : decode cX7_takesWay 59 = .ok (.putfield 61, 3) := by decide +kernel
theorem dX7_takesWay_62 : decode cX7_takesWay 62 = .ok (.aload_n 0, 1) := by decide +kernel
theorem dX7_takesWay_63 : decode cX7_takesWay 63 = .ok (.getfield 78, 3) := by decide +kernel
theorem dX7_takesWay_66 : decode cX7_takesWay 66 = .ok (.iconst (-1), 1) := by decide +kernel
theorem dX7_takesWay_67 : decode cX7_takesWay 67 = .ok (.if_icmp .eq 7, 3) := by decide +kernel
theorem dX7_takesWay_70 : decode cX7_takesWay 70 = .ok (.iconst 1, 1) := by decide +kernel
theorem dX7_takesWay_71 : decode cX7_takesWay 71 = .ok (.goto 4, 3) := by decide +kernel
theorem dX7_takesWay_74 : decode cX7_takesWay 74 = .ok (.iconst 0, 1) := by decide +kernel
theorem dX7_takesWay_75 : decode cX7_takesWay 75 = .ok (.ireturn, 1) := by decide +kernel
theorem dX7_takesDrop_0 : decode cX7_takesDrop 0 = .ok (.aload_n 0, 1) := by decide +kernel
theorem dX7_takesDrop_1 : decode cX7_takesDrop 1 = .ok (.iload_n 1, 1) := by decide +kernel
theorem dX7_takesDrop_2 : decode cX7_takesDrop 2 = .ok (.putfield 75, 3) := by decide +kernel
theorem dX7_takesDrop_5 : decode cX7_takesDrop 5 = .ok (.aload_n 0, 1) := by decide +kernel
theorem dX7_takesDrop_6 : decode cX7_takesDrop 6 = .ok (.bipush 9, 2) := by decide +kernel
theorem dX7_takesDrop_8 : decode cX7_takesDrop 8 = .ok (.putfield 61, 3) := by decide +kernel
theorem dX7_takesDrop_11 : decode cX7_takesDrop 11 = .ok (.iload_n 1, 1) := by decide +kernel
theorem dX7_takesDrop_12 : decode cX7_takesDrop 12 = .ok (.iconst 0, 1) := by decide +kernel
theorem dX7_takesDrop_13 : decode cX7_takesDrop 13 = .ok (.aload_n 0, 1) := by decide +kernel
theorem dX7_takesDrop_14 : decode cX7_takesDrop 14 = .ok (.getfield 58, 3) := by decide +kernel
theorem dX7_takesDrop_17 : decode cX7_takesDrop 17 = .ok (.invokestatic 50, 3) := by decide +kernel
theorem dX7_takesDrop_20 : decode cX7_takesDrop 20 = .ok (.ireturn, 1) := by decide +kernel
theorem dX7_takesAhead_0 : decode cX7_takesAhead 0 = .ok (.iload_n 1, 1) := by decide +kernel
theorem dX7_takesAhead_1 : decode cX7_takesAhead 1 = .ok (.iconst 0, 1) := by decide +kernel
theorem dX7_takesAhead_2 : decode cX7_takesAhead 2 = .ok (.bipush 9, 2) := by decide +kernel
theorem dX7_takesAhead_4 : decode cX7_takesAhead 4 = .ok (.invokestatic 50, 3) := by decide +kernel
theorem dX7_takesAhead_7 : decode cX7_takesAhead 7 = .ok (.ifCond .eq 15, 3) := by decide +kernel
theorem dX7_takesAhead_10 : decode cX7_takesAhead 10 = .ok (.aload_n 0, 1) := by decide +kernel
theorem dX7_takesAhead_11 : decode cX7_takesAhead 11 = .ok (.getfield 81, 3) := by decide +kernel
theorem dX7_takesAhead_14 : decode cX7_takesAhead 14 = .ok (.iconst 4, 1) := by decide +kernel
theorem dX7_takesAhead_15 : decode cX7_takesAhead 15 = .ok (.if_icmp .ge 7, 3) := by decide +kernel
theorem dX7_takesAhead_18 : decode cX7_takesAhead 18 = .ok (.iconst 1, 1) := by decide +kernel
theorem dX7_takesAhead_19 : decode cX7_takesAhead 19 = .ok (.goto 4, 3) := by decide +kernel
theorem dX7_takesAhead_22 : decode cX7_takesAhead 22 = .ok (.iconst 0, 1) := by decide +kernel
theorem dX7_takesAhead_23 : decode cX7_takesAhead 23 = .ok (.istore_n 2, 1) := by decide +kernel
theorem dX7_takesAhead_24 : decode cX7_takesAhead 24 = .ok (.iload_n 2, 1) := by decide +kernel
theorem dX7_takesAhead_25 : decode cX7_takesAhead 25 = .ok (.ifCond .eq 23, 3) := by decide +kernel
theorem dX7_takesAhead_28 : decode cX7_takesAhead 28 = .ok (.aload_n 0, 1) := by decide +kernel
theorem dX7_takesAhead_29 : decode cX7_takesAhead 29 = .ok (.getfield 41, 3) := by decide +kernel
theorem dX7_takesAhead_32 : decode cX7_takesAhead 32 = .ok (.aload_n 0, 1) := by decide +kernel
theorem dX7_takesAhead_33 : decode cX7_takesAhead 33 = .ok (.getfield 81, 3) := by decide +kernel
theorem dX7_takesAhead_36 : decode cX7_takesAhead 36 = .ok (.iload_n 1, 1) := by decide +kernel
theorem dX7_takesAhead_37 : decode cX7_takesAhead 37 = .ok (.iastore, 1) := by decide +kernel
theorem dX7_takesAhead_38 : decode cX7_takesAhead 38 = .ok (.aload_n 0, 1) := by decide +kernel
theorem dX7_takesAhead_39 : decode cX7_takesAhead 39 = .ok (.dup, 1) := by decide +kernel
theorem dX7_takesAhead_40 : decode cX7_takesAhead 40 = .ok (.getfield 81, 3) := by decide +kernel
theorem dX7_takesAhead_43 : decode cX7_takesAhead 43 = .ok (.iconst 1, 1) := by decide +kernel
theorem dX7_takesAhead_44 : decode cX7_takesAhead 44 = .ok (.iadd, 1) := by decide +kernel
theorem dX7_takesAhead_45 : decode cX7_takesAhead 45 = .ok (.putfield 81, 3) := by decide +kernel
theorem dX7_takesAhead_48 : decode cX7_takesAhead 48 = .ok (.iload_n 2, 1) := by decide +kernel
theorem dX7_takesAhead_49 : decode cX7_takesAhead 49 = .ok (.ireturn, 1) := by decide +kernel
theorem dX7_takes_0 : decode cX7_takes 0 = .ok (.aload_n 0, 1) := by decide +kernel
theorem dX7_takes_1 : decode cX7_takes 1 = .ok (.getfield 61, 3) := by decide +kernel
theorem dX7_takes_4 : decode cX7_takes 4 = .ok (.ifCond .ne 9, 3) := by decide +kernel
theorem dX7_takes_7 : decode cX7_takes 7 = .ok (.aload_n 0, 1) := by decide +kernel
theorem dX7_takes_8 : decode cX7_takes 8 = .ok (.iload_n 1, 1) := by decide +kernel
theorem dX7_takes_9 : decode cX7_takes 9 = .ok (.invokevirtual 84, 3) := by decide +kernel
theorem dX7_takes_12 : decode cX7_takes 12 = .ok (.ireturn, 1) := by decide +kernel
theorem dX7_takes_13 : decode cX7_takes 13 = .ok (.aload_n 0, 1) := by decide +kernel
theorem dX7_takes_14 : decode cX7_takes 14 = .ok (.getfield 61, 3) := by decide +kernel
theorem dX7_takes_17 : decode cX7_takes 17 = .ok (.iconst 5, 1) := by decide +kernel
theorem dX7_takes_18 : decode cX7_takes 18 = .ok (.if_icmp .ge 9, 3) := by decide +kernel
theorem dX7_takes_21 : decode cX7_takes 21 = .ok (.aload_n 0, 1) := by decide +kernel
theorem dX7_takes_22 : decode cX7_takes 22 = .ok (.iload_n 1, 1) := by decide +kernel
theorem dX7_takes_23 : decode cX7_takes 23 = .ok (.invokevirtual 87, 3) := by decide +kernel
theorem dX7_takes_26 : decode cX7_takes 26 = .ok (.ireturn, 1) := by decide +kernel
theorem dX7_takes_27 : decode cX7_takes 27 = .ok (.aload_n 0, 1) := by decide +kernel
theorem dX7_takes_28 : decode cX7_takes 28 = .ok (.getfield 61, 3) := by decide +kernel
theorem dX7_takes_31 : decode cX7_takes 31 = .ok (.tableswitch 80 5 8 #[29, 47, 53, 71], 29) := by decide +kernel
theorem dX7_takes_60 : decode cX7_takes 60 = .ok (.aload_n 0, 1) := by decide +kernel
theorem dX7_takes_61 : decode cX7_takes 61 = .ok (.bipush 6, 2) := by decide +kernel
theorem dX7_takes_63 : decode cX7_takes 63 = .ok (.putfield 61, 3) := by decide +kernel
theorem dX7_takes_66 : decode cX7_takes 66 = .ok (.iload_n 1, 1) := by decide +kernel
theorem dX7_takes_67 : decode cX7_takes 67 = .ok (.bipush 61, 2) := by decide +kernel
theorem dX7_takes_69 : decode cX7_takes 69 = .ok (.if_icmp .ne 7, 3) := by decide +kernel
theorem dX7_takes_72 : decode cX7_takes 72 = .ok (.iconst 1, 1) := by decide +kernel
theorem dX7_takes_73 : decode cX7_takes 73 = .ok (.goto 4, 3) := by decide +kernel
theorem dX7_takes_76 : decode cX7_takes 76 = .ok (.iconst 0, 1) := by decide +kernel
theorem dX7_takes_77 : decode cX7_takes 77 = .ok (.ireturn, 1) := by decide +kernel
theorem dX7_takes_78 : decode cX7_takes 78 = .ok (.aload_n 0, 1) := by decide +kernel
theorem dX7_takes_79 : decode cX7_takes 79 = .ok (.iload_n 1, 1) := by decide +kernel
theorem dX7_takes_80 : decode cX7_takes 80 = .ok (.invokevirtual 90, 3) := by decide +kernel
theorem dX7_takes_83 : decode cX7_takes 83 = .ok (.ireturn, 1) := by decide +kernel
theorem dX7_takes_84 : decode cX7_takes 84 = .ok (.aload_n 0, 1) := by decide +kernel
theorem dX7_takes_85 : decode cX7_takes 85 = .ok (.bipush 8, 2) := by decide +kernel
theorem dX7_takes_87 : decode cX7_takes 87 = .ok (.putfield 61, 3) := by decide +kernel
theorem dX7_takes_90 : decode cX7_takes 90 = .ok (.iload_n 1, 1) := by decide +kernel
theorem dX7_takes_91 : decode cX7_takes 91 = .ok (.bipush 58, 2) := by decide +kernel
theorem dX7_takes_93 : decode cX7_takes 93 = .ok (.if_icmp .ne 7, 3) := by decide +kernel
theorem dX7_takes_96 : decode cX7_takes 96 = .ok (.iconst 1, 1) := by decide +kernel
theorem dX7_takes_97 : decode cX7_takes 97 = .ok (.goto 4, 3) := by decide +kernel
theorem dX7_takes_100 : decode cX7_takes 100 = .ok (.iconst 0, 1) := by decide +kernel
theorem dX7_takes_101 : decode cX7_takes 101 = .ok (.ireturn, 1) := by decide +kernel
theorem dX7_takes_102 : decode cX7_takes 102 = .ok (.aload_n 0, 1) := by decide +kernel
theorem dX7_takes_103 : decode cX7_takes 103 = .ok (.iload_n 1, 1) := by decide +kernel
theorem dX7_takes_104 : decode cX7_takes 104 = .ok (.bipush 48, 2) := by decide +kernel
theorem dX7_takes_106 : decode cX7_takes 106 = .ok (.isub, 1) := by decide +kernel
theorem dX7_takes_107 : decode cX7_takes 107 = .ok (.invokevirtual 93, 3) := by decide +kernel
theorem dX7_takes_110 : decode cX7_takes 110 = .ok (.ireturn, 1) := by decide +kernel
theorem dX7_takes_111 : decode cX7_takes 111 = .ok (.aload_n 0, 1) := by decide +kernel
theorem dX7_takes_112 : decode cX7_takes 112 = .ok (.iload_n 1, 1) := by decide +kernel
theorem dX7_takes_113 : decode cX7_takes 113 = .ok (.bipush 48, 2) := by decide +kernel
theorem dX7_takes_115 : decode cX7_takes 115 = .ok (.isub, 1) := by decide +kernel
theorem dX7_takes_116 : decode cX7_takes 116 = .ok (.invokevirtual 96, 3) := by decide +kernel
theorem dX7_takes_119 : decode cX7_takes 119 = .ok (.ireturn, 1) := by decide +kernel
theorem dX7_goAlong_0 : decode cX7_goAlong 0 = .ok (.aload_n 0, 1) := by decide +kernel
theorem dX7_goAlong_1 : decode cX7_goAlong 1 = .ok (.iconst 0, 1) := by decide +kernel
theorem dX7_goAlong_2 : decode cX7_goAlong 2 = .ok (.putfield 61, 3) := by decide +kernel
theorem dX7_goAlong_5 : decode cX7_goAlong 5 = .ok (.aload_n 0, 1) := by decide +kernel
theorem dX7_goAlong_6 : decode cX7_goAlong 6 = .ok (.iconst 0, 1) := by decide +kernel
theorem dX7_goAlong_7 : decode cX7_goAlong 7 = .ok (.putfield 58, 3) := by decide +kernel
theorem dX7_goAlong_10 : decode cX7_goAlong 10 = .ok (.aload_n 0, 1) := by decide +kernel
theorem dX7_goAlong_11 : decode cX7_goAlong 11 = .ok (.iconst 0, 1) := by decide +kernel
theorem dX7_goAlong_12 : decode cX7_goAlong 12 = .ok (.putfield 64, 3) := by decide +kernel
theorem dX7_goAlong_15 : decode cX7_goAlong 15 = .ok (.aload_n 0, 1) := by decide +kernel
theorem dX7_goAlong_16 : decode cX7_goAlong 16 = .ok (.iconst 0, 1) := by decide +kernel
theorem dX7_goAlong_17 : decode cX7_goAlong 17 = .ok (.putfield 81, 3) := by decide +kernel
theorem dX7_goAlong_20 : decode cX7_goAlong 20 = .ok (.iconst 0, 1) := by decide +kernel
theorem dX7_goAlong_21 : decode cX7_goAlong 21 = .ok (.istore_n 1, 1) := by decide +kernel
theorem dX7_goAlong_22 : decode cX7_goAlong 22 = .ok (.iload_n 1, 1) := by decide +kernel
theorem dX7_goAlong_23 : decode cX7_goAlong 23 = .ok (.aload_n 0, 1) := by decide +kernel
theorem dX7_goAlong_24 : decode cX7_goAlong 24 = .ok (.getfield 54, 3) := by decide +kernel
theorem dX7_goAlong_27 : decode cX7_goAlong 27 = .ok (.if_icmp .ge 22, 3) := by decide +kernel
theorem dX7_goAlong_30 : decode cX7_goAlong 30 = .ok (.aload_n 0, 1) := by decide +kernel
theorem dX7_goAlong_31 : decode cX7_goAlong 31 = .ok (.aload_n 0, 1) := by decide +kernel
theorem dX7_goAlong_32 : decode cX7_goAlong 32 = .ok (.getfield 7, 3) := by decide +kernel
theorem dX7_goAlong_35 : decode cX7_goAlong 35 = .ok (.iload_n 1, 1) := by decide +kernel
theorem dX7_goAlong_36 : decode cX7_goAlong 36 = .ok (.iaload, 1) := by decide +kernel
theorem dX7_goAlong_37 : decode cX7_goAlong 37 = .ok (.invokevirtual 99, 3) := by decide +kernel
theorem dX7_goAlong_40 : decode cX7_goAlong 40 = .ok (.ifCond .eq 9, 3) := by decide +kernel
theorem dX7_goAlong_43 : decode cX7_goAlong 43 = .ok (.iinc 1 1, 3) := by decide +kernel
theorem dX7_goAlong_46 : decode cX7_goAlong 46 = .ok (.goto (-24), 3) := by decide +kernel
theorem dX7_goAlong_49 : decode cX7_goAlong 49 = .ok (.iload_n 1, 1) := by decide +kernel
theorem dX7_goAlong_50 : decode cX7_goAlong 50 = .ok (.ireturn, 1) := by decide +kernel
theorem dX7_fault_0 : decode cX7_fault 0 = .ok (.aload_n 0, 1) := by decide +kernel
theorem dX7_fault_1 : decode cX7_fault 1 = .ok (.invokevirtual 102, 3) := by decide +kernel
theorem dX7_fault_4 : decode cX7_fault 4 = .ok (.ireturn, 1) := by decide +kernel
theorem dX7_keepPattern_0 : decode cX7_keepPattern 0 = .ok (.aload_n 0, 1) := by decide +kernel
theorem dX7_keepPattern_1 : decode cX7_keepPattern 1 = .ok (.getfield 13, 3) := by decide +kernel
theorem dX7_keepPattern_4 : decode cX7_keepPattern 4 = .ok (.iload_n 1, 1) := by decide +kernel
theorem dX7_keepPattern_5 : decode cX7_keepPattern 5 = .ok (.aload_n 0, 1) := by decide +kernel
theorem dX7_keepPattern_6 : decode cX7_keepPattern 6 = .ok (.getfield 58, 3) := by decide +kernel
theorem dX7_keepPattern_9 : decode cX7_keepPattern 9 = .ok (.iastore, 1) := by decide +kernel
theorem dX7_keepPattern_10 : decode cX7_keepPattern 10 = .ok (.aload_n 0, 1) := by decide +kernel
theorem dX7_keepPattern_11 : decode cX7_keepPattern 11 = .ok (.getfield 16, 3) := by decide +kernel
theorem dX7_keepPattern_14 : decode cX7_keepPattern 14 = .ok (.iload_n 1, 1) := by decide +kernel
theorem dX7_keepPattern_15 : decode cX7_keepPattern 15 = .ok (.aload_n 0, 1) := by decide +kernel
theorem dX7_keepPattern_16 : decode cX7_keepPattern 16 = .ok (.getfield 64, 3) := by decide +kernel
theorem dX7_keepPattern_19 : decode cX7_keepPattern 19 = .ok (.bastore, 1) := by decide +kernel
theorem dX7_keepPattern_20 : decode cX7_keepPattern 20 = .ok (.aload_n 0, 1) := by decide +kernel
theorem dX7_keepPattern_21 : decode cX7_keepPattern 21 = .ok (.getfield 23, 3) := by decide +kernel
theorem dX7_keepPattern_24 : decode cX7_keepPattern 24 = .ok (.iload_n 1, 1) := by decide +kernel
theorem dX7_keepPattern_25 : decode cX7_keepPattern 25 = .ok (.aload_n 0, 1) := by decide +kernel
theorem dX7_keepPattern_26 : decode cX7_keepPattern 26 = .ok (.getfield 78, 3) := by decide +kernel
theorem dX7_keepPattern_29 : decode cX7_keepPattern 29 = .ok (.iastore, 1) := by decide +kernel
theorem dX7_keepPattern_30 : decode cX7_keepPattern 30 = .ok (.aload_n 0, 1) := by decide +kernel
theorem dX7_keepPattern_31 : decode cX7_keepPattern 31 = .ok (.getfield 26, 3) := by decide +kernel
theorem dX7_keepPattern_34 : decode cX7_keepPattern 34 = .ok (.iload_n 1, 1) := by decide +kernel
theorem dX7_keepPattern_35 : decode cX7_keepPattern 35 = .ok (.aload_n 0, 1) := by decide +kernel
theorem dX7_keepPattern_36 : decode cX7_keepPattern 36 = .ok (.getfield 75, 3) := by decide +kernel
theorem dX7_keepPattern_39 : decode cX7_keepPattern 39 = .ok (.iastore, 1) := by decide +kernel
theorem dX7_keepPattern_40 : decode cX7_keepPattern 40 = .ok (.aload_n 0, 1) := by decide +kernel
theorem dX7_keepPattern_41 : decode cX7_keepPattern 41 = .ok (.getfield 29, 3) := by decide +kernel
theorem dX7_keepPattern_44 : decode cX7_keepPattern 44 = .ok (.iload_n 1, 1) := by decide +kernel
theorem dX7_keepPattern_45 : decode cX7_keepPattern 45 = .ok (.aload_n 0, 1) := by decide +kernel
theorem dX7_keepPattern_46 : decode cX7_keepPattern 46 = .ok (.getfield 81, 3) := by decide +kernel
theorem dX7_keepPattern_49 : decode cX7_keepPattern 49 = .ok (.iastore, 1) := by decide +kernel
theorem dX7_keepPattern_50 : decode cX7_keepPattern 50 = .ok (.iconst 0, 1) := by decide +kernel
theorem dX7_keepPattern_51 : decode cX7_keepPattern 51 = .ok (.istore_n 2, 1) := by decide +kernel
theorem dX7_keepPattern_52 : decode cX7_keepPattern 52 = .ok (.iload_n 2, 1) := by decide +kernel
theorem dX7_keepPattern_53 : decode cX7_keepPattern 53 = .ok (.aload_n 0, 1) := by decide +kernel
theorem dX7_keepPattern_54 : decode cX7_keepPattern 54 = .ok (.getfield 58, 3) := by decide +kernel
theorem dX7_keepPattern_57 : decode cX7_keepPattern 57 = .ok (.if_icmp .ge 26, 3) := by decide +kernel
theorem dX7_keepPattern_60 : decode cX7_keepPattern 60 = .ok (.aload_n 0, 1) := by decide +kernel
theorem dX7_keepPattern_61 : decode cX7_keepPattern 61 = .ok (.getfield 20, 3) := by decide +kernel
theorem dX7_keepPattern_64 : decode cX7_keepPattern 64 = .ok (.bipush 8, 2) := by decide +kernel
theorem dX7_keepPattern_66 : decode cX7_keepPattern 66 = .ok (.iload_n 1, 1) := by decide +kernel
theorem dX7_keepPattern_67 : decode cX7_keepPattern 67 = .ok (.imul, 1) := by decide +kernel
theorem dX7_keepPattern_68 : decode cX7_keepPattern 68 = .ok (.iload_n 2, 1) := by decide +kernel
theorem dX7_keepPattern_69 : decode cX7_keepPattern 69 = .ok (.iadd, 1) := by decide +kernel
theorem dX7_keepPattern_70 : decode cX7_keepPattern 70 = .ok (.aload_n 0, 1) := by decide +kernel
theorem dX7_keepPattern_71 : decode cX7_keepPattern 71 = .ok (.getfield 38, 3) := by decide +kernel
theorem dX7_keepPattern_74 : decode cX7_keepPattern 74 = .ok (.iload_n 2, 1) := by decide +kernel
theorem dX7_keepPattern_75 : decode cX7_keepPattern 75 = .ok (.iaload, 1) := by decide +kernel
theorem dX7_keepPattern_76 : decode cX7_keepPattern 76 = .ok (.iastore, 1) := by decide +kernel
theorem dX7_keepPattern_77 : decode cX7_keepPattern 77 = .ok (.iinc 2 1, 3) := by decide +kernel
theorem dX7_keepPattern_80 : decode cX7_keepPattern 80 = .ok (.goto (-28), 3) := by decide +kernel
theorem dX7_keepPattern_83 : decode cX7_keepPattern 83 = .ok (.iconst 0, 1) := by decide +kernel
theorem dX7_keepPattern_84 : decode cX7_keepPattern 84 = .ok (.istore_n 2, 1) := by decide +kernel
theorem dX7_keepPattern_85 : decode cX7_keepPattern 85 = .ok (.iload_n 2, 1) := by decide +kernel
theorem dX7_keepPattern_86 : decode cX7_keepPattern 86 = .ok (.aload_n 0, 1) := by decide +kernel
theorem dX7_keepPattern_87 : decode cX7_keepPattern 87 = .ok (.getfield 81, 3) := by decide +kernel
theorem dX7_keepPattern_90 : decode cX7_keepPattern 90 = .ok (.if_icmp .ge 25, 3) := by decide +kernel
theorem dX7_keepPattern_93 : decode cX7_keepPattern 93 = .ok (.aload_n 0, 1) := by decide +kernel
theorem dX7_keepPattern_94 : decode cX7_keepPattern 94 = .ok (.getfield 32, 3) := by decide +kernel
theorem dX7_keepPattern_97 : decode cX7_keepPattern 97 = .ok (.iconst 4, 1) := by decide +kernel
theorem dX7_keepPattern_98 : decode cX7_keepPattern 98 = .ok (.iload_n 1, 1) := by decide +kernel
theorem dX7_keepPattern_99 : decode cX7_keepPattern 99 = .ok (.imul, 1) := by decide +kernel
theorem dX7_keepPattern_100 : decode cX7_keepPattern 100 = .ok (.iload_n 2, 1) := by decide +kernel
theorem dX7_keepPattern_101 : decode cX7_keepPattern 101 = .ok (.iadd, 1) := by decide +kernel
theorem dX7_keepPattern_102 : decode cX7_keepPattern 102 = .ok (.aload_n 0, 1) := by decide +kernel
theorem dX7_keepPattern_103 : decode cX7_keepPattern 103 = .ok (.getfield 41, 3) := by decide +kernel
theorem dX7_keepPattern_106 : decode cX7_keepPattern 106 = .ok (.iload_n 2, 1) := by decide +kernel
theorem dX7_keepPattern_107 : decode cX7_keepPattern 107 = .ok (.iaload, 1) := by decide +kernel
theorem dX7_keepPattern_108 : decode cX7_keepPattern 108 = .ok (.iastore, 1) := by decide +kernel
theorem dX7_keepPattern_109 : decode cX7_keepPattern 109 = .ok (.iinc 2 1, 3) := by decide +kernel
theorem dX7_keepPattern_112 : decode cX7_keepPattern 112 = .ok (.goto (-27), 3) := by decide +kernel
theorem dX7_keepPattern_115 : decode cX7_keepPattern 115 = .ok (.return_, 1) := by decide +kernel
theorem dX7_add_0 : decode cX7_add 0 = .ok (.aload_n 0, 1) := by decide +kernel
theorem dX7_add_1 : decode cX7_add 1 = .ok (.invokevirtual 102, 3) := by decide +kernel
theorem dX7_add_4 : decode cX7_add 4 = .ok (.aload_n 0, 1) := by decide +kernel
theorem dX7_add_5 : decode cX7_add 5 = .ok (.getfield 54, 3) := by decide +kernel
theorem dX7_add_8 : decode cX7_add 8 = .ok (.if_icmp .lt 19, 3) := by decide +kernel
theorem dX7_add_11 : decode cX7_add 11 = .ok (.aload_n 0, 1) := by decide +kernel
theorem dX7_add_12 : decode cX7_add 12 = .ok (.getfield 61, 3) := by decide +kernel
theorem dX7_add_15 : decode cX7_add 15 = .ok (.bipush 9, 2) := by decide +kernel
theorem dX7_add_17 : decode cX7_add 17 = .ok (.if_icmp .ne 10, 3) := by decide +kernel
theorem dX7_add_20 : decode cX7_add 20 = .ok (.aload_n 0, 1) := by decide +kernel
theorem dX7_add_21 : decode cX7_add 21 = .ok (.getfield 106, 3) := by decide +kernel
theorem dX7_add_24 : decode cX7_add 24 = .ok (.ifCond .eq 7, 3) := by decide +kernel
theorem dX7_add_27 : decode cX7_add 27 = .ok (.sipush (-1003), 3) := by decide +kernel
theorem dX7_add_30 : decode cX7_add 30 = .ok (.ireturn, 1) := by decide +kernel
theorem dX7_add_31 : decode cX7_add 31 = .ok (.aload_n 0, 1) := by decide +kernel
theorem dX7_add_32 : decode cX7_add 32 = .ok (.getfield 109, 3) := by decide +kernel
theorem dX7_add_35 : decode cX7_add 35 = .ok (.bipush 10, 2) := by decide +kernel
theorem dX7_add_37 : decode cX7_add 37 = .ok (.if_icmp .ne 7, 3) := by decide +kernel
theorem dX7_add_40 : decode cX7_add 40 = .ok (.sipush (-1004), 3) := by decide +kernel
theorem dX7_add_43 : decode cX7_add 43 = .ok (.ireturn, 1) := by decide +kernel
theorem dX7_add_44 : decode cX7_add 44 = .ok (.aload_n 0, 1) := by decide +kernel
theorem dX7_add_45 : decode cX7_add 45 = .ok (.aload_n 0, 1) := by decide +kernel
theorem dX7_add_46 : decode cX7_add 46 = .ok (.getfield 109, 3) := by decide +kernel
theorem dX7_add_49 : decode cX7_add 49 = .ok (.invokevirtual 112, 3) := by decide +kernel
theorem dX7_add_52 : decode cX7_add 52 = .ok (.aload_n 0, 1) := by decide +kernel
theorem dX7_add_53 : decode cX7_add 53 = .ok (.dup, 1) := by decide +kernel
theorem dX7_add_54 : decode cX7_add 54 = .ok (.getfield 109, 3) := by decide +kernel
theorem dX7_add_57 : decode cX7_add 57 = .ok (.iconst 1, 1) := by decide +kernel
theorem dX7_add_58 : decode cX7_add 58 = .ok (.iadd, 1) := by decide +kernel
theorem dX7_add_59 : decode cX7_add 59 = .ok (.putfield 109, 3) := by decide +kernel
theorem dX7_add_62 : decode cX7_add 62 = .ok (.aload_n 0, 1) := by decide +kernel
theorem dX7_add_63 : decode cX7_add 63 = .ok (.iconst 0, 1) := by decide +kernel
theorem dX7_add_64 : decode cX7_add 64 = .ok (.putfield 54, 3) := by decide +kernel
theorem dX7_add_67 : decode cX7_add 67 = .ok (.aload_n 0, 1) := by decide +kernel
theorem dX7_add_68 : decode cX7_add 68 = .ok (.getfield 109, 3) := by decide +kernel
theorem dX7_add_71 : decode cX7_add 71 = .ok (.iconst 1, 1) := by decide +kernel
theorem dX7_add_72 : decode cX7_add 72 = .ok (.isub, 1) := by decide +kernel
theorem dX7_add_73 : decode cX7_add 73 = .ok (.ireturn, 1) := by decide +kernel
theorem dX7_isPattern_0 : decode cX7_isPattern 0 = .ok (.iload_n 1, 1) := by decide +kernel
theorem dX7_isPattern_1 : decode cX7_isPattern 1 = .ok (.iconst 0, 1) := by decide +kernel
theorem dX7_isPattern_2 : decode cX7_isPattern 2 = .ok (.aload_n 0, 1) := by decide +kernel
theorem dX7_isPattern_3 : decode cX7_isPattern 3 = .ok (.getfield 109, 3) := by decide +kernel
theorem dX7_isPattern_6 : decode cX7_isPattern 6 = .ok (.iconst 1, 1) := by decide +kernel
theorem dX7_isPattern_7 : decode cX7_isPattern 7 = .ok (.isub, 1) := by decide +kernel
theorem dX7_isPattern_8 : decode cX7_isPattern 8 = .ok (.invokestatic 50, 3) := by decide +kernel
theorem dX7_isPattern_11 : decode cX7_isPattern 11 = .ok (.ireturn, 1) := by decide +kernel
theorem dX7_copy_0 : decode cX7_copy 0 = .ok (.aload_n 0, 1) := by decide +kernel
theorem dX7_copy_1 : decode cX7_copy 1 = .ok (.getfield 13, 3) := by decide +kernel
theorem dX7_copy_4 : decode cX7_copy 4 = .ok (.iload_n 2, 1) := by decide +kernel
theorem dX7_copy_5 : decode cX7_copy 5 = .ok (.aload_n 0, 1) := by decide +kernel
theorem dX7_copy_6 : decode cX7_copy 6 = .ok (.getfield 13, 3) := by decide +kernel
theorem dX7_copy_9 : decode cX7_copy 9 = .ok (.iload_n 1, 1) := by decide +kernel
theorem dX7_copy_10 : decode cX7_copy 10 = .ok (.iaload, 1) := by decide +kernel
theorem dX7_copy_11 : decode cX7_copy 11 = .ok (.iastore, 1) := by decide +kernel
theorem dX7_copy_12 : decode cX7_copy 12 = .ok (.aload_n 0, 1) := by decide +kernel
theorem dX7_copy_13 : decode cX7_copy 13 = .ok (.getfield 16, 3) := by decide +kernel
theorem dX7_copy_16 : decode cX7_copy 16 = .ok (.iload_n 2, 1) := by decide +kernel
theorem dX7_copy_17 : decode cX7_copy 17 = .ok (.aload_n 0, 1) := by decide +kernel
theorem dX7_copy_18 : decode cX7_copy 18 = .ok (.getfield 16, 3) := by decide +kernel
theorem dX7_copy_21 : decode cX7_copy 21 = .ok (.iload_n 1, 1) := by decide +kernel
theorem dX7_copy_22 : decode cX7_copy 22 = .ok (.baload, 1) := by decide +kernel
theorem dX7_copy_23 : decode cX7_copy 23 = .ok (.bastore, 1) := by decide +kernel
theorem dX7_copy_24 : decode cX7_copy 24 = .ok (.aload_n 0, 1) := by decide +kernel
theorem dX7_copy_25 : decode cX7_copy 25 = .ok (.getfield 23, 3) := by decide +kernel
theorem dX7_copy_28 : decode cX7_copy 28 = .ok (.iload_n 2, 1) := by decide +kernel
theorem dX7_copy_29 : decode cX7_copy 29 = .ok (.aload_n 0, 1) := by decide +kernel
theorem dX7_copy_30 : decode cX7_copy 30 = .ok (.getfield 23, 3) := by decide +kernel
theorem dX7_copy_33 : decode cX7_copy 33 = .ok (.iload_n 1, 1) := by decide +kernel
theorem dX7_copy_34 : decode cX7_copy 34 = .ok (.iaload, 1) := by decide +kernel
theorem dX7_copy_35 : decode cX7_copy 35 = .ok (.iastore, 1) := by decide +kernel
theorem dX7_copy_36 : decode cX7_copy 36 = .ok (.aload_n 0, 1) := by decide +kernel
theorem dX7_copy_37 : decode cX7_copy 37 = .ok (.getfield 26, 3) := by decide +kernel
theorem dX7_copy_40 : decode cX7_copy 40 = .ok (.iload_n 2, 1) := by decide +kernel
theorem dX7_copy_41 : decode cX7_copy 41 = .ok (.aload_n 0, 1) := by decide +kernel
theorem dX7_copy_42 : decode cX7_copy 42 = .ok (.getfield 26, 3) := by decide +kernel
theorem dX7_copy_45 : decode cX7_copy 45 = .ok (.iload_n 1, 1) := by decide +kernel
theorem dX7_copy_46 : decode cX7_copy 46 = .ok (.iaload, 1) := by decide +kernel
theorem dX7_copy_47 : decode cX7_copy 47 = .ok (.iastore, 1) := by decide +kernel
theorem dX7_copy_48 : decode cX7_copy 48 = .ok (.aload_n 0, 1) := by decide +kernel
theorem dX7_copy_49 : decode cX7_copy 49 = .ok (.getfield 29, 3) := by decide +kernel
theorem dX7_copy_52 : decode cX7_copy 52 = .ok (.iload_n 2, 1) := by decide +kernel
theorem dX7_copy_53 : decode cX7_copy 53 = .ok (.aload_n 0, 1) := by decide +kernel
theorem dX7_copy_54 : decode cX7_copy 54 = .ok (.getfield 29, 3) := by decide +kernel
theorem dX7_copy_57 : decode cX7_copy 57 = .ok (.iload_n 1, 1) := by decide +kernel
theorem dX7_copy_58 : decode cX7_copy 58 = .ok (.iaload, 1) := by decide +kernel
theorem dX7_copy_59 : decode cX7_copy 59 = .ok (.iastore, 1) := by decide +kernel
theorem dX7_copy_60 : decode cX7_copy 60 = .ok (.iconst 0, 1) := by decide +kernel
theorem dX7_copy_61 : decode cX7_copy 61 = .ok (.istore_n 3, 1) := by decide +kernel
theorem dX7_copy_62 : decode cX7_copy 62 = .ok (.iload_n 3, 1) := by decide +kernel
theorem dX7_copy_63 : decode cX7_copy 63 = .ok (.bipush 8, 2) := by decide +kernel
theorem dX7_copy_65 : decode cX7_copy 65 = .ok (.if_icmp .ge 31, 3) := by decide +kernel
theorem dX7_copy_68 : decode cX7_copy 68 = .ok (.aload_n 0, 1) := by decide +kernel
theorem dX7_copy_69 : decode cX7_copy 69 = .ok (.getfield 20, 3) := by decide +kernel
theorem dX7_copy_72 : decode cX7_copy 72 = .ok (.bipush 8, 2) := by decide +kernel
theorem dX7_copy_74 : decode cX7_copy 74 = .ok (.iload_n 2, 1) := by decide +kernel
theorem dX7_copy_75 : decode cX7_copy 75 = .ok (.imul, 1) := by decide +kernel
theorem dX7_copy_76 : decode cX7_copy 76 = .ok (.iload_n 3, 1) := by decide +kernel
theorem dX7_copy_77 : decode cX7_copy 77 = .ok (.iadd, 1) := by decide +kernel
theorem dX7_copy_78 : decode cX7_copy 78 = .ok (.aload_n 0, 1) := by decide +kernel
theorem dX7_copy_79 : decode cX7_copy 79 = .ok (.getfield 20, 3) := by decide +kernel
theorem dX7_copy_82 : decode cX7_copy 82 = .ok (.bipush 8, 2) := by decide +kernel
theorem dX7_copy_84 : decode cX7_copy 84 = .ok (.iload_n 1, 1) := by decide +kernel
theorem dX7_copy_85 : decode cX7_copy 85 = .ok (.imul, 1) := by decide +kernel
theorem dX7_copy_86 : decode cX7_copy 86 = .ok (.iload_n 3, 1) := by decide +kernel
theorem dX7_copy_87 : decode cX7_copy 87 = .ok (.iadd, 1) := by decide +kernel
theorem dX7_copy_88 : decode cX7_copy 88 = .ok (.iaload, 1) := by decide +kernel
theorem dX7_copy_89 : decode cX7_copy 89 = .ok (.iastore, 1) := by decide +kernel
theorem dX7_copy_90 : decode cX7_copy 90 = .ok (.iinc 3 1, 3) := by decide +kernel
theorem dX7_copy_93 : decode cX7_copy 93 = .ok (.goto (-31), 3) := by decide +kernel
theorem dX7_copy_96 : decode cX7_copy 96 = .ok (.iconst 0, 1) := by decide +kernel
theorem dX7_copy_97 : decode cX7_copy 97 = .ok (.istore_n 3, 1) := by decide +kernel
theorem dX7_copy_98 : decode cX7_copy 98 = .ok (.iload_n 3, 1) := by decide +kernel
theorem dX7_copy_99 : decode cX7_copy 99 = .ok (.iconst 4, 1) := by decide +kernel
theorem dX7_copy_100 : decode cX7_copy 100 = .ok (.if_icmp .ge 29, 3) := by decide +kernel
theorem dX7_copy_103 : decode cX7_copy 103 = .ok (.aload_n 0, 1) := by decide +kernel
theorem dX7_copy_104 : decode cX7_copy 104 = .ok (.getfield 32, 3) := by decide +kernel
theorem dX7_copy_107 : decode cX7_copy 107 = .ok (.iconst 4, 1) := by decide +kernel
theorem dX7_copy_108 : decode cX7_copy 108 = .ok (.iload_n 2, 1) := by decide +kernel
theorem dX7_copy_109 : decode cX7_copy 109 = .ok (.imul, 1) := by decide +kernel
theorem dX7_copy_110 : decode cX7_copy 110 = .ok (.iload_n 3, 1) := by decide +kernel
theorem dX7_copy_111 : decode cX7_copy 111 = .ok (.iadd, 1) := by decide +kernel
theorem dX7_copy_112 : decode cX7_copy 112 = .ok (.aload_n 0, 1) := by decide +kernel
theorem dX7_copy_113 : decode cX7_copy 113 = .ok (.getfield 32, 3) := by decide +kernel
theorem dX7_copy_116 : decode cX7_copy 116 = .ok (.iconst 4, 1) := by decide +kernel
theorem dX7_copy_117 : decode cX7_copy 117 = .ok (.iload_n 1, 1) := by decide +kernel
theorem dX7_copy_118 : decode cX7_copy 118 = .ok (.imul, 1) := by decide +kernel
theorem dX7_copy_119 : decode cX7_copy 119 = .ok (.iload_n 3, 1) := by decide +kernel
theorem dX7_copy_120 : decode cX7_copy 120 = .ok (.iadd, 1) := by decide +kernel
theorem dX7_copy_121 : decode cX7_copy 121 = .ok (.iaload, 1) := by decide +kernel
theorem dX7_copy_122 : decode cX7_copy 122 = .ok (.iastore, 1) := by decide +kernel
theorem dX7_copy_123 : decode cX7_copy 123 = .ok (.iinc 3 1, 3) := by decide +kernel
theorem dX7_copy_126 : decode cX7_copy 126 = .ok (.goto (-28), 3) := by decide +kernel
theorem dX7_copy_129 : decode cX7_copy 129 = .ok (.return_, 1) := by decide +kernel
theorem dX7_drop_0 : decode cX7_drop 0 = .ok (.aload_n 0, 1) := by decide +kernel
theorem dX7_drop_1 : decode cX7_drop 1 = .ok (.iload_n 1, 1) := by decide +kernel
theorem dX7_drop_2 : decode cX7_drop 2 = .ok (.invokevirtual 116, 3) := by decide +kernel
theorem dX7_drop_5 : decode cX7_drop 5 = .ok (.ifCond .ne 7, 3) := by decide +kernel
theorem dX7_drop_8 : decode cX7_drop 8 = .ok (.sipush (-1001), 3) := by decide +kernel
theorem dX7_drop_11 : decode cX7_drop 11 = .ok (.ireturn, 1) := by decide +kernel
theorem dX7_drop_12 : decode cX7_drop 12 = .ok (.aload_n 0, 1) := by decide +kernel
theorem dX7_drop_13 : decode cX7_drop 13 = .ok (.getfield 106, 3) := by decide +kernel
theorem dX7_drop_16 : decode cX7_drop 16 = .ok (.ifCond .eq 7, 3) := by decide +kernel
theorem dX7_drop_19 : decode cX7_drop 19 = .ok (.sipush (-1003), 3) := by decide +kernel
theorem dX7_drop_22 : decode cX7_drop 22 = .ok (.ireturn, 1) := by decide +kernel
theorem dX7_drop_23 : decode cX7_drop 23 = .ok (.aload_n 0, 1) := by decide +kernel
theorem dX7_drop_24 : decode cX7_drop 24 = .ok (.dup, 1) := by decide +kernel
theorem dX7_drop_25 : decode cX7_drop 25 = .ok (.getfield 109, 3) := by decide +kernel
theorem dX7_drop_28 : decode cX7_drop 28 = .ok (.iconst 1, 1) := by decide +kernel
theorem dX7_drop_29 : decode cX7_drop 29 = .ok (.isub, 1) := by decide +kernel
theorem dX7_drop_30 : decode cX7_drop 30 = .ok (.putfield 109, 3) := by decide +kernel
theorem dX7_drop_33 : decode cX7_drop 33 = .ok (.iload_n 1, 1) := by decide +kernel
theorem dX7_drop_34 : decode cX7_drop 34 = .ok (.istore_n 2, 1) := by decide +kernel
theorem dX7_drop_35 : decode cX7_drop 35 = .ok (.iload_n 2, 1) := by decide +kernel
theorem dX7_drop_36 : decode cX7_drop 36 = .ok (.aload_n 0, 1) := by decide +kernel
theorem dX7_drop_37 : decode cX7_drop 37 = .ok (.getfield 109, 3) := by decide +kernel
theorem dX7_drop_40 : decode cX7_drop 40 = .ok (.if_icmp .ge 17, 3) := by decide +kernel
theorem dX7_drop_43 : decode cX7_drop 43 = .ok (.aload_n 0, 1) := by decide +kernel
theorem dX7_drop_44 : decode cX7_drop 44 = .ok (.iload_n 2, 1) := by decide +kernel
theorem dX7_drop_45 : decode cX7_drop 45 = .ok (.iconst 1, 1) := by decide +kernel
theorem dX7_drop_46 : decode cX7_drop 46 = .ok (.iadd, 1) := by decide +kernel
theorem dX7_drop_47 : decode cX7_drop 47 = .ok (.iload_n 2, 1) := by decide +kernel
theorem dX7_drop_48 : decode cX7_drop 48 = .ok (.invokevirtual 119, 3) := by decide +kernel
theorem dX7_drop_51 : decode cX7_drop 51 = .ok (.iinc 2 1, 3) := by decide +kernel
theorem dX7_drop_54 : decode cX7_drop 54 = .ok (.goto (-19), 3) := by decide +kernel
theorem dX7_drop_57 : decode cX7_drop 57 = .ok (.aload_n 0, 1) := by decide +kernel
theorem dX7_drop_58 : decode cX7_drop 58 = .ok (.getfield 109, 3) := by decide +kernel
theorem dX7_drop_61 : decode cX7_drop 61 = .ok (.ireturn, 1) := by decide +kernel
theorem dX7_letsOf_0 : decode cX7_letsOf 0 = .ok (.iload_n 2, 1) := by decide +kernel
theorem dX7_letsOf_1 : decode cX7_letsOf 1 = .ok (.aload_n 0, 1) := by decide +kernel
theorem dX7_letsOf_2 : decode cX7_letsOf 2 = .ok (.getfield 13, 3) := by decide +kernel
theorem dX7_letsOf_5 : decode cX7_letsOf 5 = .ok (.iload_n 1, 1) := by decide +kernel
theorem dX7_letsOf_6 : decode cX7_letsOf 6 = .ok (.iaload, 1) := by decide +kernel
theorem dX7_letsOf_7 : decode cX7_letsOf 7 = .ok (.if_icmp .ge 17, 3) := by decide +kernel
theorem dX7_letsOf_10 : decode cX7_letsOf 10 = .ok (.aload_n 0, 1) := by decide +kernel
theorem dX7_letsOf_11 : decode cX7_letsOf 11 = .ok (.getfield 20, 3) := by decide +kernel
theorem dX7_letsOf_14 : decode cX7_letsOf 14 = .ok (.bipush 8, 2) := by decide +kernel
theorem dX7_letsOf_16 : decode cX7_letsOf 16 = .ok (.iload_n 1, 1) := by decide +kernel
theorem dX7_letsOf_17 : decode cX7_letsOf 17 = .ok (.imul, 1) := by decide +kernel
theorem dX7_letsOf_18 : decode cX7_letsOf 18 = .ok (.iload_n 2, 1) := by decide +kernel
theorem dX7_letsOf_19 : decode cX7_letsOf 19 = .ok (.iadd, 1) := by decide +kernel
theorem dX7_letsOf_20 : decode cX7_letsOf 20 = .ok (.iaload, 1) := by decide +kernel
theorem dX7_letsOf_21 : decode cX7_letsOf 21 = .ok (.goto 19, 3) := by decide +kernel
theorem dX7_letsOf_24 : decode cX7_letsOf 24 = .ok (.aload_n 0, 1) := by decide +kernel
theorem dX7_letsOf_25 : decode cX7_letsOf 25 = .ok (.getfield 16, 3) := by decide +kernel
theorem dX7_letsOf_28 : decode cX7_letsOf 28 = .ok (.iload_n 1, 1) := by decide +kernel
theorem dX7_letsOf_29 : decode cX7_letsOf 29 = .ok (.baload, 1) := by decide +kernel
theorem dX7_letsOf_30 : decode cX7_letsOf 30 = .ok (.ifCond .eq 9, 3) := by decide +kernel
theorem dX7_letsOf_33 : decode cX7_letsOf 33 = .ok (.sipush 1023, 3) := by decide +kernel
theorem dX7_letsOf_36 : decode cX7_letsOf 36 = .ok (.goto 4, 3) := by decide +kernel
theorem dX7_letsOf_39 : decode cX7_letsOf 39 = .ok (.iconst 0, 1) := by decide +kernel
theorem dX7_letsOf_40 : decode cX7_letsOf 40 = .ok (.ireturn, 1) := by decide +kernel
theorem dX7_aheadNumber_0 : decode cX7_aheadNumber 0 = .ok (.iconst 0, 1) := by decide +kernel
theorem dX7_aheadNumber_1 : decode cX7_aheadNumber 1 = .ok (.istore_n 2, 1) := by decide +kernel
theorem dX7_aheadNumber_2 : decode cX7_aheadNumber 2 = .ok (.iconst 0, 1) := by decide +kernel
theorem dX7_aheadNumber_3 : decode cX7_aheadNumber 3 = .ok (.istore_n 3, 1) := by decide +kernel
theorem dX7_aheadNumber_4 : decode cX7_aheadNumber 4 = .ok (.iload_n 3, 1) := by decide +kernel
theorem dX7_aheadNumber_5 : decode cX7_aheadNumber 5 = .ok (.aload_n 0, 1) := by decide +kernel
theorem dX7_aheadNumber_6 : decode cX7_aheadNumber 6 = .ok (.getfield 29, 3) := by decide +kernel
theorem dX7_aheadNumber_9 : decode cX7_aheadNumber 9 = .ok (.iload_n 1, 1) := by decide +kernel
theorem dX7_aheadNumber_10 : decode cX7_aheadNumber 10 = .ok (.iaload, 1) := by decide +kernel
theorem dX7_aheadNumber_11 : decode cX7_aheadNumber 11 = .ok (.if_icmp .ge 25, 3) := by decide +kernel
theorem dX7_aheadNumber_14 : decode cX7_aheadNumber 14 = .ok (.bipush 10, 2) := by decide +kernel
theorem dX7_aheadNumber_16 : decode cX7_aheadNumber 16 = .ok (.iload_n 2, 1) := by decide +kernel
theorem dX7_aheadNumber_17 : decode cX7_aheadNumber 17 = .ok (.imul, 1) := by decide +kernel
theorem dX7_aheadNumber_18 : decode cX7_aheadNumber 18 = .ok (.aload_n 0, 1) := by decide +kernel
theorem dX7_aheadNumber_19 : decode cX7_aheadNumber 19 = .ok (.getfield 32, 3) := by decide +kernel
theorem dX7_aheadNumber_22 : decode cX7_aheadNumber 22 = .ok (.iconst 4, 1) := by decide +kernel
theorem dX7_aheadNumber_23 : decode cX7_aheadNumber 23 = .ok (.iload_n 1, 1) := by decide +kernel
theorem dX7_aheadNumber_24 : decode cX7_aheadNumber 24 = .ok (.imul, 1) := by decide +kernel
theorem dX7_aheadNumber_25 : decode cX7_aheadNumber 25 = .ok (.iload_n 3, 1) := by decide +kernel
theorem dX7_aheadNumber_26 : decode cX7_aheadNumber 26 = .ok (.iadd, 1) := by decide +kernel
theorem dX7_aheadNumber_27 : decode cX7_aheadNumber 27 = .ok (.iaload, 1) := by decide +kernel
theorem dX7_aheadNumber_28 : decode cX7_aheadNumber 28 = .ok (.iadd, 1) := by decide +kernel
theorem dX7_aheadNumber_29 : decode cX7_aheadNumber 29 = .ok (.istore_n 2, 1) := by decide +kernel
theorem dX7_aheadNumber_30 : decode cX7_aheadNumber 30 = .ok (.iinc 3 1, 3) := by decide +kernel
theorem dX7_aheadNumber_33 : decode cX7_aheadNumber 33 = .ok (.goto (-29), 3) := by decide +kernel
theorem dX7_aheadNumber_36 : decode cX7_aheadNumber 36 = .ok (.iload_n 2, 1) := by decide +kernel
theorem dX7_aheadNumber_37 : decode cX7_aheadNumber 37 = .ok (.ireturn, 1) := by decide +kernel
theorem dX7_patternNow_0 : decode cX7_patternNow 0 = .ok (.iload_n 2, 1) := by decide +kernel
theorem dX7_patternNow_1 : decode cX7_patternNow 1 = .ok (.tableswitch 78 0 4 #[35, 42, 57, 64, 71], 35) := by decide +kernel
theorem dX7_patternNow_36 : decode cX7_patternNow 36 = .ok (.aload_n 0, 1) := by decide +kernel
theorem dX7_patternNow_37 : decode cX7_patternNow 37 = .ok (.getfield 13, 3) := by decide +kernel
theorem dX7_patternNow_40 : decode cX7_patternNow 40 = .ok (.iload_n 1, 1) := by decide +kernel
theorem dX7_patternNow_41 : decode cX7_patternNow 41 = .ok (.iaload, 1) := by decide +kernel
theorem dX7_patternNow_42 : decode cX7_patternNow 42 = .ok (.ireturn, 1) := by decide +kernel
theorem dX7_patternNow_43 : decode cX7_patternNow 43 = .ok (.aload_n 0, 1) := by decide +kernel
theorem dX7_patternNow_44 : decode cX7_patternNow 44 = .ok (.getfield 16, 3) := by decide +kernel
theorem dX7_patternNow_47 : decode cX7_patternNow 47 = .ok (.iload_n 1, 1) := by decide +kernel
theorem dX7_patternNow_48 : decode cX7_patternNow 48 = .ok (.baload, 1) := by decide +kernel
theorem dX7_patternNow_49 : decode cX7_patternNow 49 = .ok (.ifCond .eq 7, 3) := by decide +kernel
theorem dX7_patternNow_52 : decode cX7_patternNow 52 = .ok (.iconst 1, 1) := by decide +kernel
theorem dX7_patternNow_53 : decode cX7_patternNow 53 = .ok (.goto 4, 3) := by decide +kernel
theorem dX7_patternNow_56 : decode cX7_patternNow 56 = .ok (.iconst 0, 1) := by decide +kernel
theorem dX7_patternNow_57 : decode cX7_patternNow 57 = .ok (.ireturn, 1) := by decide +kernel
theorem dX7_patternNow_58 : decode cX7_patternNow 58 = .ok (.aload_n 0, 1) := by decide +kernel
theorem dX7_patternNow_59 : decode cX7_patternNow 59 = .ok (.getfield 23, 3) := by decide +kernel
theorem dX7_patternNow_62 : decode cX7_patternNow 62 = .ok (.iload_n 1, 1) := by decide +kernel
theorem dX7_patternNow_63 : decode cX7_patternNow 63 = .ok (.iaload, 1) := by decide +kernel
theorem dX7_patternNow_64 : decode cX7_patternNow 64 = .ok (.ireturn, 1) := by decide +kernel
theorem dX7_patternNow_65 : decode cX7_patternNow 65 = .ok (.aload_n 0, 1) := by decide +kernel
theorem dX7_patternNow_66 : decode cX7_patternNow 66 = .ok (.getfield 26, 3) := by decide +kernel
theorem dX7_patternNow_69 : decode cX7_patternNow 69 = .ok (.iload_n 1, 1) := by decide +kernel
theorem dX7_patternNow_70 : decode cX7_patternNow 70 = .ok (.iaload, 1) := by decide +kernel
theorem dX7_patternNow_71 : decode cX7_patternNow 71 = .ok (.ireturn, 1) := by decide +kernel
theorem dX7_patternNow_72 : decode cX7_patternNow 72 = .ok (.aload_n 0, 1) := by decide +kernel
theorem dX7_patternNow_73 : decode cX7_patternNow 73 = .ok (.getfield 29, 3) := by decide +kernel
theorem dX7_patternNow_76 : decode cX7_patternNow 76 = .ok (.iload_n 1, 1) := by decide +kernel
theorem dX7_patternNow_77 : decode cX7_patternNow 77 = .ok (.iaload, 1) := by decide +kernel
theorem dX7_patternNow_78 : decode cX7_patternNow 78 = .ok (.ireturn, 1) := by decide +kernel
theorem dX7_patternNow_79 : decode cX7_patternNow 79 = .ok (.aload_n 0, 1) := by decide +kernel
theorem dX7_patternNow_80 : decode cX7_patternNow 80 = .ok (.iload_n 1, 1) := by decide +kernel
theorem dX7_patternNow_81 : decode cX7_patternNow 81 = .ok (.invokevirtual 123, 3) := by decide +kernel
theorem dX7_patternNow_84 : decode cX7_patternNow 84 = .ok (.ireturn, 1) := by decide +kernel
theorem dX7_pattern_0 : decode cX7_pattern 0 = .ok (.aload_n 0, 1) := by decide +kernel
theorem dX7_pattern_1 : decode cX7_pattern 1 = .ok (.iload_n 1, 1) := by decide +kernel
theorem dX7_pattern_2 : decode cX7_pattern 2 = .ok (.invokevirtual 116, 3) := by decide +kernel
theorem dX7_pattern_5 : decode cX7_pattern 5 = .ok (.ifCond .ne 7, 3) := by decide +kernel
theorem dX7_pattern_8 : decode cX7_pattern 8 = .ok (.sipush (-1001), 3) := by decide +kernel
theorem dX7_pattern_11 : decode cX7_pattern 11 = .ok (.ireturn, 1) := by decide +kernel
theorem dX7_pattern_12 : decode cX7_pattern 12 = .ok (.iload_n 2, 1) := by decide +kernel
theorem dX7_pattern_13 : decode cX7_pattern 13 = .ok (.iconst 0, 1) := by decide +kernel
theorem dX7_pattern_14 : decode cX7_pattern 14 = .ok (.iconst 5, 1) := by decide +kernel
theorem dX7_pattern_15 : decode cX7_pattern 15 = .ok (.invokestatic 50, 3) := by decide +kernel
theorem dX7_pattern_18 : decode cX7_pattern 18 = .ok (.ifCond .eq 12, 3) := by decide +kernel
theorem dX7_pattern_21 : decode cX7_pattern 21 = .ok (.aload_n 0, 1) := by decide +kernel
theorem dX7_pattern_22 : decode cX7_pattern 22 = .ok (.iload_n 1, 1) := by decide +kernel
theorem dX7_pattern_23 : decode cX7_pattern 23 = .ok (.iload_n 2, 1) := by decide +kernel
theorem dX7_pattern_24 : decode cX7_pattern 24 = .ok (.invokevirtual 127, 3) := by decide +kernel
theorem dX7_pattern_27 : decode cX7_pattern 27 = .ok (.goto 6, 3) := by decide +kernel
theorem dX7_pattern_30 : decode cX7_pattern 30 = .ok (.sipush (-1002), 3) := by decide +kernel
theorem dX7_pattern_33 : decode cX7_pattern 33 = .ok (.ireturn, 1) := by decide +kernel
theorem dX7_lets_0 : decode cX7_lets 0 = .ok (.aload_n 0, 1) := by decide +kernel
theorem dX7_lets_1 : decode cX7_lets 1 = .ok (.iload_n 1, 1) := by decide +kernel
theorem dX7_lets_2 : decode cX7_lets 2 = .ok (.invokevirtual 116, 3) := by decide +kernel
theorem dX7_lets_5 : decode cX7_lets 5 = .ok (.ifCond .ne 7, 3) := by decide +kernel
theorem dX7_lets_8 : decode cX7_lets 8 = .ok (.sipush (-1001), 3) := by decide +kernel
theorem dX7_lets_11 : decode cX7_lets 11 = .ok (.ireturn, 1) := by decide +kernel
theorem dX7_lets_12 : decode cX7_lets 12 = .ok (.iload_n 2, 1) := by decide +kernel
theorem dX7_lets_13 : decode cX7_lets 13 = .ok (.iconst 0, 1) := by decide +kernel
theorem dX7_lets_14 : decode cX7_lets 14 = .ok (.bipush 9, 2) := by decide +kernel
theorem dX7_lets_16 : decode cX7_lets 16 = .ok (.invokestatic 50, 3) := by decide +kernel
theorem dX7_lets_19 : decode cX7_lets 19 = .ok (.ifCond .eq 12, 3) := by decide +kernel
theorem dX7_lets_22 : decode cX7_lets 22 = .ok (.aload_n 0, 1) := by decide +kernel
theorem dX7_lets_23 : decode cX7_lets 23 = .ok (.iload_n 1, 1) := by decide +kernel
theorem dX7_lets_24 : decode cX7_lets 24 = .ok (.iload_n 2, 1) := by decide +kernel
theorem dX7_lets_25 : decode cX7_lets 25 = .ok (.invokevirtual 131, 3) := by decide +kernel
theorem dX7_lets_28 : decode cX7_lets 28 = .ok (.goto 6, 3) := by decide +kernel
theorem dX7_lets_31 : decode cX7_lets 31 = .ok (.sipush (-1002), 3) := by decide +kernel
theorem dX7_lets_34 : decode cX7_lets 34 = .ok (.ireturn, 1) := by decide +kernel
theorem dX7_wide_0 : decode cX7_wide 0 = .ok (.iload_n 2, 1) := by decide +kernel
theorem dX7_wide_1 : decode cX7_wide 1 = .ok (.aload_n 0, 1) := by decide +kernel
theorem dX7_wide_2 : decode cX7_wide 2 = .ok (.getfield 13, 3) := by decide +kernel
theorem dX7_wide_5 : decode cX7_wide 5 = .ok (.iload_n 1, 1) := by decide +kernel
theorem dX7_wide_6 : decode cX7_wide 6 = .ok (.iaload, 1) := by decide +kernel
theorem dX7_wide_7 : decode cX7_wide 7 = .ok (.if_icmp .ge 20, 3) := by decide +kernel
theorem dX7_wide_10 : decode cX7_wide 10 = .ok (.aload_n 0, 1) := by decide +kernel
theorem dX7_wide_11 : decode cX7_wide 11 = .ok (.getfield 20, 3) := by decide +kernel
theorem dX7_wide_14 : decode cX7_wide 14 = .ok (.bipush 8, 2) := by decide +kernel
theorem dX7_wide_16 : decode cX7_wide 16 = .ok (.iload_n 1, 1) := by decide +kernel
theorem dX7_wide_17 : decode cX7_wide 17 = .ok (.imul, 1) := by decide +kernel
theorem dX7_wide_18 : decode cX7_wide 18 = .ok (.iload_n 2, 1) := by decide +kernel
theorem dX7_wide_19 : decode cX7_wide 19 = .ok (.iadd, 1) := by decide +kernel
theorem dX7_wide_20 : decode cX7_wide 20 = .ok (.iaload, 1) := by decide +kernel
theorem dX7_wide_21 : decode cX7_wide 21 = .ok (.invokestatic 134, 3) := by decide +kernel
theorem dX7_wide_24 : decode cX7_wide 24 = .ok (.goto 18, 3) := by decide +kernel
theorem dX7_wide_27 : decode cX7_wide 27 = .ok (.aload_n 0, 1) := by decide +kernel
theorem dX7_wide_28 : decode cX7_wide 28 = .ok (.getfield 16, 3) := by decide +kernel
theorem dX7_wide_31 : decode cX7_wide 31 = .ok (.iload_n 1, 1) := by decide +kernel
theorem dX7_wide_32 : decode cX7_wide 32 = .ok (.baload, 1) := by decide +kernel
theorem dX7_wide_33 : decode cX7_wide 33 = .ok (.ifCond .eq 8, 3) := by decide +kernel
theorem dX7_wide_36 : decode cX7_wide 36 = .ok (.bipush 11, 2) := by decide +kernel
theorem dX7_wide_38 : decode cX7_wide 38 = .ok (.goto 4, 3) := by decide +kernel
theorem dX7_wide_41 : decode cX7_wide 41 = .ok (.iconst 0, 1) := by decide +kernel
theorem dX7_wide_42 : decode cX7_wide 42 = .ok (.ireturn, 1) := by decide +kernel
theorem dX7_compare_0 : decode cX7_compare 0 = .ok (.iconst 0, 1) := by decide +kernel
theorem dX7_compare_1 : decode cX7_compare 1 = .ok (.istore_n 3, 1) := by decide +kernel
theorem dX7_compare_2 : decode cX7_compare 2 = .ok (.iconst 0, 1) := by decide +kernel
theorem dX7_compare_3 : decode cX7_compare 3 = .ok (.istore 4, 2) := by decide +kernel
theorem dX7_compare_5 : decode cX7_compare 5 = .ok (.iload 4, 2) := by decide +kernel
theorem dX7_compare_7 : decode cX7_compare 7 = .ok (.bipush 10, 2) := by decide +kernel
theorem dX7_compare_9 : decode cX7_compare 9 = .ok (.if_icmp .ge 29, 3) := by decide +kernel
theorem dX7_compare_12 : decode cX7_compare 12 = .ok (.iload_n 3, 1) := by decide +kernel
theorem dX7_compare_13 : decode cX7_compare 13 = .ok (.ifCond .ne 25, 3) := by decide +kernel
theorem dX7_compare_16 : decode cX7_compare 16 = .ok (.aload_n 0, 1) := by decide +kernel
theorem dX7_compare_17 : decode cX7_compare 17 = .ok (.iload_n 1, 1) := by decide +kernel
theorem dX7_compare_18 : decode cX7_compare 18 = .ok (.iload 4, 2) := by decide +kernel
theorem dX7_compare_20 : decode cX7_compare 20 = .ok (.invokevirtual 137, 3) := by decide +kernel
theorem dX7_compare_23 : decode cX7_compare 23 = .ok (.aload_n 0, 1) := by decide +kernel
theorem dX7_compare_24 : decode cX7_compare 24 = .ok (.iload_n 2, 1) := by decide +kernel
theorem dX7_compare_25 : decode cX7_compare 25 = .ok (.iload 4, 2) := by decide +kernel
theorem dX7_compare_27 : decode cX7_compare 27 = .ok (.invokevirtual 137, 3) := by decide +kernel
theorem dX7_compare_30 : decode cX7_compare 30 = .ok (.isub, 1) := by decide +kernel
theorem dX7_compare_31 : decode cX7_compare 31 = .ok (.istore_n 3, 1) := by decide +kernel
theorem dX7_compare_32 : decode cX7_compare 32 = .ok (.iinc 4 1, 3) := by decide +kernel
theorem dX7_compare_35 : decode cX7_compare 35 = .ok (.goto (-30), 3) := by decide +kernel
theorem dX7_compare_38 : decode cX7_compare 38 = .ok (.iload_n 3, 1) := by decide +kernel
theorem dX7_compare_39 : decode cX7_compare 39 = .ok (.ireturn, 1) := by decide +kernel
theorem dX7_narrower_0 : decode cX7_narrower 0 = .ok (.aload_n 0, 1) := by decide +kernel
theorem dX7_narrower_1 : decode cX7_narrower 1 = .ok (.iload_n 1, 1) := by decide +kernel
theorem dX7_narrower_2 : decode cX7_narrower 2 = .ok (.invokevirtual 116, 3) := by decide +kernel
theorem dX7_narrower_5 : decode cX7_narrower 5 = .ok (.ifCond .eq 11, 3) := by decide +kernel
theorem dX7_narrower_8 : decode cX7_narrower 8 = .ok (.aload_n 0, 1) := by decide +kernel
theorem dX7_narrower_9 : decode cX7_narrower 9 = .ok (.iload_n 2, 1) := by decide +kernel
theorem dX7_narrower_10 : decode cX7_narrower 10 = .ok (.invokevirtual 116, 3) := by decide +kernel
theorem dX7_narrower_13 : decode cX7_narrower 13 = .ok (.ifCond .ne 7, 3) := by decide +kernel
theorem dX7_narrower_16 : decode cX7_narrower 16 = .ok (.sipush (-1001), 3) := by decide +kernel
theorem dX7_narrower_19 : decode cX7_narrower 19 = .ok (.ireturn, 1) := by decide +kernel
theorem dX7_narrower_20 : decode cX7_narrower 20 = .ok (.aload_n 0, 1) := by decide +kernel
theorem dX7_narrower_21 : decode cX7_narrower 21 = .ok (.iload_n 1, 1) := by decide +kernel
theorem dX7_narrower_22 : decode cX7_narrower 22 = .ok (.iload_n 2, 1) := by decide +kernel
theorem dX7_narrower_23 : decode cX7_narrower 23 = .ok (.invokevirtual 140, 3) := by decide +kernel
theorem dX7_narrower_26 : decode cX7_narrower 26 = .ok (.istore_n 3, 1) := by decide +kernel
theorem dX7_narrower_27 : decode cX7_narrower 27 = .ok (.iload_n 3, 1) := by decide +kernel
theorem dX7_narrower_28 : decode cX7_narrower 28 = .ok (.ifCond .ge 7, 3) := by decide +kernel
theorem dX7_narrower_31 : decode cX7_narrower 31 = .ok (.iconst 0, 1) := by decide +kernel
theorem dX7_narrower_32 : decode cX7_narrower 32 = .ok (.goto 12, 3) := by decide +kernel
theorem dX7_narrower_35 : decode cX7_narrower 35 = .ok (.iload_n 3, 1) := by decide +kernel
theorem dX7_narrower_36 : decode cX7_narrower 36 = .ok (.ifCond .le 7, 3) := by decide +kernel
theorem dX7_narrower_39 : decode cX7_narrower 39 = .ok (.iconst 1, 1) := by decide +kernel
theorem dX7_narrower_40 : decode cX7_narrower 40 = .ok (.goto 4, 3) := by decide +kernel
theorem dX7_narrower_43 : decode cX7_narrower 43 = .ok (.iconst 2, 1) := by decide +kernel
theorem dX7_narrower_44 : decode cX7_narrower 44 = .ok (.ireturn, 1) := by decide +kernel
theorem dX7_areLike_0 : decode cX7_areLike 0 = .ok (.aload_n 0, 1) := by decide +kernel
theorem dX7_areLike_1 : decode cX7_areLike 1 = .ok (.getfield 23, 3) := by decide +kernel
theorem dX7_areLike_4 : decode cX7_areLike 4 = .ok (.iload_n 1, 1) := by decide +kernel
theorem dX7_areLike_5 : decode cX7_areLike 5 = .ok (.iaload, 1) := by decide +kernel
theorem dX7_areLike_6 : decode cX7_areLike 6 = .ok (.aload_n 0, 1) := by decide +kernel
theorem dX7_areLike_7 : decode cX7_areLike 7 = .ok (.getfield 23, 3) := by decide +kernel
theorem dX7_areLike_10 : decode cX7_areLike 10 = .ok (.iload_n 2, 1) := by decide +kernel
theorem dX7_areLike_11 : decode cX7_areLike 11 = .ok (.iaload, 1) := by decide +kernel
theorem dX7_areLike_12 : decode cX7_areLike 12 = .ok (.if_icmp .ne 37, 3) := by decide +kernel
theorem dX7_areLike_15 : decode cX7_areLike 15 = .ok (.aload_n 0, 1) := by decide +kernel
theorem dX7_areLike_16 : decode cX7_areLike 16 = .ok (.getfield 26, 3) := by decide +kernel
theorem dX7_areLike_19 : decode cX7_areLike 19 = .ok (.iload_n 1, 1) := by decide +kernel
theorem dX7_areLike_20 : decode cX7_areLike 20 = .ok (.iaload, 1) := by decide +kernel
theorem dX7_areLike_21 : decode cX7_areLike 21 = .ok (.aload_n 0, 1) := by decide +kernel
theorem dX7_areLike_22 : decode cX7_areLike 22 = .ok (.getfield 26, 3) := by decide +kernel
theorem dX7_areLike_25 : decode cX7_areLike 25 = .ok (.iload_n 2, 1) := by decide +kernel
theorem dX7_areLike_26 : decode cX7_areLike 26 = .ok (.iaload, 1) := by decide +kernel
theorem dX7_areLike_27 : decode cX7_areLike 27 = .ok (.if_icmp .ne 22, 3) := by decide +kernel
theorem dX7_areLike_30 : decode cX7_areLike 30 = .ok (.aload_n 0, 1) := by decide +kernel
theorem dX7_areLike_31 : decode cX7_areLike 31 = .ok (.getfield 29, 3) := by decide +kernel
theorem dX7_areLike_34 : decode cX7_areLike 34 = .ok (.iload_n 1, 1) := by decide +kernel
theorem dX7_areLike_35 : decode cX7_areLike 35 = .ok (.iaload, 1) := by decide +kernel
theorem dX7_areLike_36 : decode cX7_areLike 36 = .ok (.aload_n 0, 1) := by decide +kernel
theorem dX7_areLike_37 : decode cX7_areLike 37 = .ok (.getfield 29, 3) := by decide +kernel
theorem dX7_areLike_40 : decode cX7_areLike 40 = .ok (.iload_n 2, 1) := by decide +kernel
theorem dX7_areLike_41 : decode cX7_areLike 41 = .ok (.iaload, 1) := by decide +kernel
theorem dX7_areLike_42 : decode cX7_areLike 42 = .ok (.if_icmp .ne 7, 3) := by decide +kernel
theorem dX7_areLike_45 : decode cX7_areLike 45 = .ok (.iconst 1, 1) := by decide +kernel
theorem dX7_areLike_46 : decode cX7_areLike 46 = .ok (.goto 4, 3) := by decide +kernel
theorem dX7_areLike_49 : decode cX7_areLike 49 = .ok (.iconst 0, 1) := by decide +kernel
theorem dX7_areLike_50 : decode cX7_areLike 50 = .ok (.istore_n 3, 1) := by decide +kernel
theorem dX7_areLike_51 : decode cX7_areLike 51 = .ok (.iload_n 3, 1) := by decide +kernel
theorem dX7_areLike_52 : decode cX7_areLike 52 = .ok (.ifCond .eq 20, 3) := by decide +kernel
theorem dX7_areLike_55 : decode cX7_areLike 55 = .ok (.aload_n 0, 1) := by decide +kernel
theorem dX7_areLike_56 : decode cX7_areLike 56 = .ok (.iload_n 1, 1) := by decide +kernel
theorem dX7_areLike_57 : decode cX7_areLike 57 = .ok (.invokevirtual 123, 3) := by decide +kernel
theorem dX7_areLike_60 : decode cX7_areLike 60 = .ok (.aload_n 0, 1) := by decide +kernel
theorem dX7_areLike_61 : decode cX7_areLike 61 = .ok (.iload_n 2, 1) := by decide +kernel
theorem dX7_areLike_62 : decode cX7_areLike 62 = .ok (.invokevirtual 123, 3) := by decide +kernel
theorem dX7_areLike_65 : decode cX7_areLike 65 = .ok (.if_icmp .ne 7, 3) := by decide +kernel
theorem dX7_areLike_68 : decode cX7_areLike 68 = .ok (.iconst 1, 1) := by decide +kernel
theorem dX7_areLike_69 : decode cX7_areLike 69 = .ok (.goto 4, 3) := by decide +kernel
theorem dX7_areLike_72 : decode cX7_areLike 72 = .ok (.iconst 0, 1) := by decide +kernel
theorem dX7_areLike_73 : decode cX7_areLike 73 = .ok (.ireturn, 1) := by decide +kernel
theorem dX7_isClash_0 : decode cX7_isClash 0 = .ok (.aload_n 0, 1) := by decide +kernel
theorem dX7_isClash_1 : decode cX7_isClash 1 = .ok (.iload_n 1, 1) := by decide +kernel
theorem dX7_isClash_2 : decode cX7_isClash 2 = .ok (.iload_n 2, 1) := by decide +kernel
theorem dX7_isClash_3 : decode cX7_isClash 3 = .ok (.invokevirtual 140, 3) := by decide +kernel
theorem dX7_isClash_6 : decode cX7_isClash 6 = .ok (.ifCond .ne 16, 3) := by decide +kernel
theorem dX7_isClash_9 : decode cX7_isClash 9 = .ok (.aload_n 0, 1) := by decide +kernel
theorem dX7_isClash_10 : decode cX7_isClash 10 = .ok (.iload_n 1, 1) := by decide +kernel
theorem dX7_isClash_11 : decode cX7_isClash 11 = .ok (.iload_n 2, 1) := by decide +kernel
theorem dX7_isClash_12 : decode cX7_isClash 12 = .ok (.invokevirtual 143, 3) := by decide +kernel
theorem dX7_isClash_15 : decode cX7_isClash 15 = .ok (.ifCond .ne 7, 3) := by decide +kernel
theorem dX7_isClash_18 : decode cX7_isClash 18 = .ok (.iconst 1, 1) := by decide +kernel
theorem dX7_isClash_19 : decode cX7_isClash 19 = .ok (.goto 4, 3) := by decide +kernel
theorem dX7_isClash_22 : decode cX7_isClash 22 = .ok (.iconst 0, 1) := by decide +kernel
theorem dX7_isClash_23 : decode cX7_isClash 23 = .ok (.istore_n 3, 1) := by decide +kernel
theorem dX7_isClash_24 : decode cX7_isClash 24 = .ok (.iconst 0, 1) := by decide +kernel
theorem dX7_isClash_25 : decode cX7_isClash 25 = .ok (.istore 4, 2) := by decide +kernel
theorem dX7_isClash_27 : decode cX7_isClash 27 = .ok (.iload 4, 2) := by decide +kernel
theorem dX7_isClash_29 : decode cX7_isClash 29 = .ok (.aload_n 0, 1) := by decide +kernel
theorem dX7_isClash_30 : decode cX7_isClash 30 = .ok (.getfield 13, 3) := by decide +kernel
theorem dX7_isClash_33 : decode cX7_isClash 33 = .ok (.iload_n 1, 1) := by decide +kernel
theorem dX7_isClash_34 : decode cX7_isClash 34 = .ok (.iaload, 1) := by decide +kernel
theorem dX7_isClash_35 : decode cX7_isClash 35 = .ok (.if_icmp .ge 37, 3) := by decide +kernel
theorem dX7_isClash_38 : decode cX7_isClash 38 = .ok (.iload_n 3, 1) := by decide +kernel
theorem dX7_isClash_39 : decode cX7_isClash 39 = .ok (.ifCond .eq 33, 3) := by decide +kernel
theorem dX7_isClash_42 : decode cX7_isClash 42 = .ok (.aload_n 0, 1) := by decide +kernel
theorem dX7_isClash_43 : decode cX7_isClash 43 = .ok (.iload_n 1, 1) := by decide +kernel
theorem dX7_isClash_44 : decode cX7_isClash 44 = .ok (.iload 4, 2) := by decide +kernel
theorem dX7_isClash_46 : decode cX7_isClash 46 = .ok (.invokevirtual 131, 3) := by decide +kernel
theorem dX7_isClash_49 : decode cX7_isClash 49 = .ok (.aload_n 0, 1) := by decide +kernel
theorem dX7_isClash_50 : decode cX7_isClash 50 = .ok (.iload_n 2, 1) := by decide +kernel
theorem dX7_isClash_51 : decode cX7_isClash 51 = .ok (.iload 4, 2) := by decide +kernel
theorem dX7_isClash_53 : decode cX7_isClash 53 = .ok (.invokevirtual 131, 3) := by decide +kernel
theorem dX7_isClash_56 : decode cX7_isClash 56 = .ok (.iand, 1) := by decide +kernel
theorem dX7_isClash_57 : decode cX7_isClash 57 = .ok (.ifCond .eq 7, 3) := by decide +kernel
theorem dX7_isClash_60 : decode cX7_isClash 60 = .ok (.iconst 1, 1) := by decide +kernel
theorem dX7_isClash_61 : decode cX7_isClash 61 = .ok (.goto 4, 3) := by decide +kernel
theorem dX7_isClash_64 : decode cX7_isClash 64 = .ok (.iconst 0, 1) := by decide +kernel
theorem dX7_isClash_65 : decode cX7_isClash 65 = .ok (.istore_n 3, 1) := by decide +kernel
theorem dX7_isClash_66 : decode cX7_isClash 66 = .ok (.iinc 4 1, 3) := by decide +kernel
theorem dX7_isClash_69 : decode cX7_isClash 69 = .ok (.goto (-42), 3) := by decide +kernel
theorem dX7_isClash_72 : decode cX7_isClash 72 = .ok (.iload_n 3, 1) := by decide +kernel
theorem dX7_isClash_73 : decode cX7_isClash 73 = .ok (.ireturn, 1) := by decide +kernel
theorem dX7_clashAt_0 : decode cX7_clashAt 0 = .ok (.iload_n 1, 1) := by decide +kernel
theorem dX7_clashAt_1 : decode cX7_clashAt 1 = .ok (.istore_n 2, 1) := by decide +kernel
theorem dX7_clashAt_2 : decode cX7_clashAt 2 = .ok (.iconst 0, 1) := by decide +kernel
theorem dX7_clashAt_3 : decode cX7_clashAt 3 = .ok (.istore_n 3, 1) := by decide +kernel
theorem dX7_clashAt_4 : decode cX7_clashAt 4 = .ok (.iload_n 3, 1) := by decide +kernel
theorem dX7_clashAt_5 : decode cX7_clashAt 5 = .ok (.aload_n 0, 1) := by decide +kernel
theorem dX7_clashAt_6 : decode cX7_clashAt 6 = .ok (.getfield 109, 3) := by decide +kernel
theorem dX7_clashAt_9 : decode cX7_clashAt 9 = .ok (.if_icmp .ge 58, 3) := by decide +kernel
theorem dX7_clashAt_12 : decode cX7_clashAt 12 = .ok (.iload_n 2, 1) := by decide +kernel
theorem dX7_clashAt_13 : decode cX7_clashAt 13 = .ok (.ifCond .lt 54, 3) := by decide +kernel
theorem dX7_clashAt_16 : decode cX7_clashAt 16 = .ok (.iload_n 3, 1) := by decide +kernel
theorem dX7_clashAt_17 : decode cX7_clashAt 17 = .ok (.iconst 1, 1) := by decide +kernel
theorem dX7_clashAt_18 : decode cX7_clashAt 18 = .ok (.iadd, 1) := by decide +kernel
theorem dX7_clashAt_19 : decode cX7_clashAt 19 = .ok (.istore 4, 2) := by decide +kernel
theorem dX7_clashAt_21 : decode cX7_clashAt 21 = .ok (.iload 4, 2) := by decide +kernel
theorem dX7_clashAt_23 : decode cX7_clashAt 23 = .ok (.aload_n 0, 1) := by decide +kernel
theorem dX7_clashAt_24 : decode cX7_clashAt 24 = .ok (.getfield 109, 3) := by decide +kernel
theorem dX7_clashAt_27 : decode cX7_clashAt 27 = .ok (.if_icmp .ge 34, 3) := by decide +kernel
theorem dX7_clashAt_30 : decode cX7_clashAt 30 = .ok (.aload_n 0, 1) := by decide +kernel
theorem dX7_clashAt_31 : decode cX7_clashAt 31 = .ok (.iload_n 3, 1) := by decide +kernel
theorem dX7_clashAt_32 : decode cX7_clashAt 32 = .ok (.iload 4, 2) := by decide +kernel
theorem dX7_clashAt_34 : decode cX7_clashAt 34 = .ok (.invokevirtual 147, 3) := by decide +kernel
theorem dX7_clashAt_37 : decode cX7_clashAt 37 = .ok (.ifCond .eq 18, 3) := by decide +kernel
theorem dX7_clashAt_40 : decode cX7_clashAt 40 = .ok (.iload_n 2, 1) := by decide +kernel
theorem dX7_clashAt_41 : decode cX7_clashAt 41 = .ok (.ifCond .ne 11, 3) := by decide +kernel
theorem dX7_clashAt_44 : decode cX7_clashAt 44 = .ok (.bipush 16, 2) := by decide +kernel
theorem dX7_clashAt_46 : decode cX7_clashAt 46 = .ok (.iload_n 3, 1) := by decide +kernel
theorem dX7_clashAt_47 : decode cX7_clashAt 47 = .ok (.imul, 1) := by decide +kernel
theorem dX7_clashAt_48 : decode cX7_clashAt 48 = .ok (.iload 4, 2) := by decide +kernel
theorem dX7_clashAt_50 : decode cX7_clashAt 50 = .ok (.iadd, 1) := by decide +kernel
theorem dX7_clashAt_51 : decode cX7_clashAt 51 = .ok (.ireturn, 1) := by decide +kernel
theorem dX7_clashAt_52 : decode cX7_clashAt 52 = .ok (.iinc 2 (-1), 3) := by decide +kernel
theorem dX7_clashAt_55 : decode cX7_clashAt 55 = .ok (.iinc 4 1, 3) := by decide +kernel
theorem dX7_clashAt_58 : decode cX7_clashAt 58 = .ok (.goto (-37), 3) := by decide +kernel
theorem dX7_clashAt_61 : decode cX7_clashAt 61 = .ok (.iinc 3 1, 3) := by decide +kernel
theorem dX7_clashAt_64 : decode cX7_clashAt 64 = .ok (.goto (-60), 3) := by decide +kernel
theorem dX7_clashAt_67 : decode cX7_clashAt 67 = .ok (.iconst (-1), 1) := by decide +kernel
theorem dX7_clashAt_68 : decode cX7_clashAt 68 = .ok (.ireturn, 1) := by decide +kernel
theorem dX7_clash_0 : decode cX7_clash 0 = .ok (.aload_n 0, 1) := by decide +kernel
theorem dX7_clash_1 : decode cX7_clash 1 = .ok (.iload_n 1, 1) := by decide +kernel
theorem dX7_clash_2 : decode cX7_clash 2 = .ok (.invokevirtual 150, 3) := by decide +kernel
theorem dX7_clash_5 : decode cX7_clash 5 = .ok (.istore_n 2, 1) := by decide +kernel
theorem dX7_clash_6 : decode cX7_clash 6 = .ok (.iload_n 2, 1) := by decide +kernel
theorem dX7_clash_7 : decode cX7_clash 7 = .ok (.iconst (-1), 1) := by decide +kernel
theorem dX7_clash_8 : decode cX7_clash 8 = .ok (.if_icmp .ne 9, 3) := by decide +kernel
theorem dX7_clash_11 : decode cX7_clash 11 = .ok (.sipush (-1001), 3) := by decide +kernel
theorem dX7_clash_14 : decode cX7_clash 14 = .ok (.goto 4, 3) := by decide +kernel
theorem dX7_clash_17 : decode cX7_clash 17 = .ok (.iload_n 2, 1) := by decide +kernel
theorem dX7_clash_18 : decode cX7_clash 18 = .ok (.ireturn, 1) := by decide +kernel
theorem dX7_clashes_0 : decode cX7_clashes 0 = .ok (.iconst 0, 1) := by decide +kernel
theorem dX7_clashes_1 : decode cX7_clashes 1 = .ok (.istore_n 1, 1) := by decide +kernel
theorem dX7_clashes_2 : decode cX7_clashes 2 = .ok (.iconst 0, 1) := by decide +kernel
theorem dX7_clashes_3 : decode cX7_clashes 3 = .ok (.istore_n 2, 1) := by decide +kernel
theorem dX7_clashes_4 : decode cX7_clashes 4 = .ok (.iload_n 2, 1) := by decide +kernel
theorem dX7_clashes_5 : decode cX7_clashes 5 = .ok (.aload_n 0, 1) := by decide +kernel
theorem dX7_clashes_6 : decode cX7_clashes 6 = .ok (.getfield 109, 3) := by decide +kernel
theorem dX7_clashes_9 : decode cX7_clashes 9 = .ok (.if_icmp .ge 44, 3) := by decide +kernel
theorem dX7_clashes_12 : decode cX7_clashes 12 = .ok (.iload_n 2, 1) := by decide +kernel
theorem dX7_clashes_13 : decode cX7_clashes 13 = .ok (.iconst 1, 1) := by decide +kernel
theorem dX7_clashes_14 : decode cX7_clashes 14 = .ok (.iadd, 1) := by decide +kernel
theorem dX7_clashes_15 : decode cX7_clashes 15 = .ok (.istore_n 3, 1) := by decide +kernel
theorem dX7_clashes_16 : decode cX7_clashes 16 = .ok (.iload_n 3, 1) := by decide +kernel
theorem dX7_clashes_17 : decode cX7_clashes 17 = .ok (.aload_n 0, 1) := by decide +kernel
theorem dX7_clashes_18 : decode cX7_clashes 18 = .ok (.getfield 109, 3) := by decide +kernel
theorem dX7_clashes_21 : decode cX7_clashes 21 = .ok (.if_icmp .ge 26, 3) := by decide +kernel
theorem dX7_clashes_24 : decode cX7_clashes 24 = .ok (.iload_n 1, 1) := by decide +kernel
theorem dX7_clashes_25 : decode cX7_clashes 25 = .ok (.aload_n 0, 1) := by decide +kernel
theorem dX7_clashes_26 : decode cX7_clashes 26 = .ok (.iload_n 2, 1) := by decide +kernel
theorem dX7_clashes_27 : decode cX7_clashes 27 = .ok (.iload_n 3, 1) := by decide +kernel
theorem dX7_clashes_28 : decode cX7_clashes 28 = .ok (.invokevirtual 147, 3) := by decide +kernel
theorem dX7_clashes_31 : decode cX7_clashes 31 = .ok (.ifCond .eq 7, 3) := by decide +kernel
theorem dX7_clashes_34 : decode cX7_clashes 34 = .ok (.iconst 1, 1) := by decide +kernel
theorem dX7_clashes_35 : decode cX7_clashes 35 = .ok (.goto 4, 3) := by decide +kernel
theorem dX7_clashes_38 : decode cX7_clashes 38 = .ok (.iconst 0, 1) := by decide +kernel
theorem dX7_clashes_39 : decode cX7_clashes 39 = .ok (.iadd, 1) := by decide +kernel
theorem dX7_clashes_40 : decode cX7_clashes 40 = .ok (.istore_n 1, 1) := by decide +kernel
theorem dX7_clashes_41 : decode cX7_clashes 41 = .ok (.iinc 3 1, 3) := by decide +kernel
theorem dX7_clashes_44 : decode cX7_clashes 44 = .ok (.goto (-28), 3) := by decide +kernel
theorem dX7_clashes_47 : decode cX7_clashes 47 = .ok (.iinc 2 1, 3) := by decide +kernel
theorem dX7_clashes_50 : decode cX7_clashes 50 = .ok (.goto (-46), 3) := by decide +kernel
theorem dX7_clashes_53 : decode cX7_clashes 53 = .ok (.iload_n 1, 1) := by decide +kernel
theorem dX7_clashes_54 : decode cX7_clashes 54 = .ok (.ireturn, 1) := by decide +kernel
theorem dX7_begins_0 : decode cX7_begins 0 = .ok (.iconst 1, 1) := by decide +kernel
theorem dX7_begins_1 : decode cX7_begins 1 = .ok (.istore_n 3, 1) := by decide +kernel
theorem dX7_begins_2 : decode cX7_begins 2 = .ok (.iconst 0, 1) := by decide +kernel
theorem dX7_begins_3 : decode cX7_begins 3 = .ok (.istore 4, 2) := by decide +kernel
theorem dX7_begins_5 : decode cX7_begins 5 = .ok (.iload 4, 2) := by decide +kernel
theorem dX7_begins_7 : decode cX7_begins 7 = .ok (.iload_n 2, 1) := by decide +kernel
theorem dX7_begins_8 : decode cX7_begins 8 = .ok (.if_icmp .ge 40, 3) := by decide +kernel
theorem dX7_begins_11 : decode cX7_begins 11 = .ok (.iload_n 3, 1) := by decide +kernel
theorem dX7_begins_12 : decode cX7_begins 12 = .ok (.ifCond .eq 28, 3) := by decide +kernel
theorem dX7_begins_15 : decode cX7_begins 15 = .ok (.aload_n 0, 1) := by decide +kernel
theorem dX7_begins_16 : decode cX7_begins 16 = .ok (.iload_n 1, 1) := by decide +kernel
theorem dX7_begins_17 : decode cX7_begins 17 = .ok (.iload 4, 2) := by decide +kernel
theorem dX7_begins_19 : decode cX7_begins 19 = .ok (.invokevirtual 131, 3) := by decide +kernel
theorem dX7_begins_22 : decode cX7_begins 22 = .ok (.aload_n 0, 1) := by decide +kernel
theorem dX7_begins_23 : decode cX7_begins 23 = .ok (.getfield 44, 3) := by decide +kernel
theorem dX7_begins_26 : decode cX7_begins 26 = .ok (.iload 4, 2) := by decide +kernel
theorem dX7_begins_28 : decode cX7_begins 28 = .ok (.iaload, 1) := by decide +kernel
theorem dX7_begins_29 : decode cX7_begins 29 = .ok (.ishr, 1) := by decide +kernel
theorem dX7_begins_30 : decode cX7_begins 30 = .ok (.iconst 1, 1) := by decide +kernel
theorem dX7_begins_31 : decode cX7_begins 31 = .ok (.iand, 1) := by decide +kernel
theorem dX7_begins_32 : decode cX7_begins 32 = .ok (.iconst 1, 1) := by decide +kernel
theorem dX7_begins_33 : decode cX7_begins 33 = .ok (.if_icmp .ne 7, 3) := by decide +kernel
theorem dX7_begins_36 : decode cX7_begins 36 = .ok (.iconst 1, 1) := by decide +kernel
theorem dX7_begins_37 : decode cX7_begins 37 = .ok (.goto 4, 3) := by decide +kernel
theorem dX7_begins_40 : decode cX7_begins 40 = .ok (.iconst 0, 1) := by decide +kernel
theorem dX7_begins_41 : decode cX7_begins 41 = .ok (.istore_n 3, 1) := by decide +kernel
theorem dX7_begins_42 : decode cX7_begins 42 = .ok (.iinc 4 1, 3) := by decide +kernel
theorem dX7_begins_45 : decode cX7_begins 45 = .ok (.goto (-40), 3) := by decide +kernel
theorem dX7_begins_48 : decode cX7_begins 48 = .ok (.iload_n 3, 1) := by decide +kernel
theorem dX7_begins_49 : decode cX7_begins 49 = .ok (.ireturn, 1) := by decide +kernel
theorem dX7_fits_0 : decode cX7_fits 0 = .ok (.aload_n 0, 1) := by decide +kernel
theorem dX7_fits_1 : decode cX7_fits 1 = .ok (.getfield 16, 3) := by decide +kernel
theorem dX7_fits_4 : decode cX7_fits 4 = .ok (.iload_n 1, 1) := by decide +kernel
theorem dX7_fits_5 : decode cX7_fits 5 = .ok (.baload, 1) := by decide +kernel
theorem dX7_fits_6 : decode cX7_fits 6 = .ok (.ifCond .eq 16, 3) := by decide +kernel
theorem dX7_fits_9 : decode cX7_fits 9 = .ok (.iload_n 2, 1) := by decide +kernel
theorem dX7_fits_10 : decode cX7_fits 10 = .ok (.aload_n 0, 1) := by decide +kernel
theorem dX7_fits_11 : decode cX7_fits 11 = .ok (.getfield 13, 3) := by decide +kernel
theorem dX7_fits_14 : decode cX7_fits 14 = .ok (.iload_n 1, 1) := by decide +kernel
theorem dX7_fits_15 : decode cX7_fits 15 = .ok (.iaload, 1) := by decide +kernel
theorem dX7_fits_16 : decode cX7_fits 16 = .ok (.if_icmp .lt 29, 3) := by decide +kernel
theorem dX7_fits_19 : decode cX7_fits 19 = .ok (.goto 13, 3) := by decide +kernel
theorem dX7_fits_22 : decode cX7_fits 22 = .ok (.iload_n 2, 1) := by decide +kernel
theorem dX7_fits_23 : decode cX7_fits 23 = .ok (.aload_n 0, 1) := by decide +kernel
theorem dX7_fits_24 : decode cX7_fits 24 = .ok (.getfield 13, 3) := by decide +kernel
theorem dX7_fits_27 : decode cX7_fits 27 = .ok (.iload_n 1, 1) := by decide +kernel
theorem dX7_fits_28 : decode cX7_fits 28 = .ok (.iaload, 1) := by decide +kernel
theorem dX7_fits_29 : decode cX7_fits 29 = .ok (.if_icmp .ne 16, 3) := by decide +kernel
theorem dX7_fits_32 : decode cX7_fits 32 = .ok (.aload_n 0, 1) := by decide +kernel
theorem dX7_fits_33 : decode cX7_fits 33 = .ok (.iload_n 1, 1) := by decide +kernel
theorem dX7_fits_34 : decode cX7_fits 34 = .ok (.iload_n 2, 1) := by decide +kernel
theorem dX7_fits_35 : decode cX7_fits 35 = .ok (.invokevirtual 153, 3) := by decide +kernel
theorem dX7_fits_38 : decode cX7_fits 38 = .ok (.ifCond .eq 7, 3) := by decide +kernel
theorem dX7_fits_41 : decode cX7_fits 41 = .ok (.iconst 1, 1) := by decide +kernel
theorem dX7_fits_42 : decode cX7_fits 42 = .ok (.goto 4, 3) := by decide +kernel
theorem dX7_fits_45 : decode cX7_fits 45 = .ok (.iconst 0, 1) := by decide +kernel
theorem dX7_fits_46 : decode cX7_fits 46 = .ok (.ireturn, 1) := by decide +kernel
theorem dX7_leads_0 : decode cX7_leads 0 = .ok (.aload_n 0, 1) := by decide +kernel
theorem dX7_leads_1 : decode cX7_leads 1 = .ok (.getfield 16, 3) := by decide +kernel
theorem dX7_leads_4 : decode cX7_leads 4 = .ok (.iload_n 1, 1) := by decide +kernel
theorem dX7_leads_5 : decode cX7_leads 5 = .ok (.baload, 1) := by decide +kernel
theorem dX7_leads_6 : decode cX7_leads 6 = .ok (.ifCond .eq 12, 3) := by decide +kernel
theorem dX7_leads_9 : decode cX7_leads 9 = .ok (.iload_n 2, 1) := by decide +kernel
theorem dX7_leads_10 : decode cX7_leads 10 = .ok (.bipush 10, 2) := by decide +kernel
theorem dX7_leads_12 : decode cX7_leads 12 = .ok (.if_icmp .ge 29, 3) := by decide +kernel
theorem dX7_leads_15 : decode cX7_leads 15 = .ok (.goto 13, 3) := by decide +kernel
theorem dX7_leads_18 : decode cX7_leads 18 = .ok (.iload_n 2, 1) := by decide +kernel
theorem dX7_leads_19 : decode cX7_leads 19 = .ok (.aload_n 0, 1) := by decide +kernel
theorem dX7_leads_20 : decode cX7_leads 20 = .ok (.getfield 13, 3) := by decide +kernel
theorem dX7_leads_23 : decode cX7_leads 23 = .ok (.iload_n 1, 1) := by decide +kernel
theorem dX7_leads_24 : decode cX7_leads 24 = .ok (.iaload, 1) := by decide +kernel
theorem dX7_leads_25 : decode cX7_leads 25 = .ok (.if_icmp .ge 16, 3) := by decide +kernel
theorem dX7_leads_28 : decode cX7_leads 28 = .ok (.aload_n 0, 1) := by decide +kernel
theorem dX7_leads_29 : decode cX7_leads 29 = .ok (.iload_n 1, 1) := by decide +kernel
theorem dX7_leads_30 : decode cX7_leads 30 = .ok (.iload_n 2, 1) := by decide +kernel
theorem dX7_leads_31 : decode cX7_leads 31 = .ok (.invokevirtual 153, 3) := by decide +kernel
theorem dX7_leads_34 : decode cX7_leads 34 = .ok (.ifCond .eq 7, 3) := by decide +kernel
theorem dX7_leads_37 : decode cX7_leads 37 = .ok (.iconst 1, 1) := by decide +kernel
theorem dX7_leads_38 : decode cX7_leads 38 = .ok (.goto 4, 3) := by decide +kernel
theorem dX7_leads_41 : decode cX7_leads 41 = .ok (.iconst 0, 1) := by decide +kernel
theorem dX7_leads_42 : decode cX7_leads 42 = .ok (.ireturn, 1) := by decide +kernel
theorem dX7_fitting_0 : decode cX7_fitting 0 = .ok (.iconst 0, 1) := by decide +kernel
theorem dX7_fitting_1 : decode cX7_fitting 1 = .ok (.istore_n 2, 1) := by decide +kernel
theorem dX7_fitting_2 : decode cX7_fitting 2 = .ok (.iconst 0, 1) := by decide +kernel
theorem dX7_fitting_3 : decode cX7_fitting 3 = .ok (.istore_n 3, 1) := by decide +kernel
theorem dX7_fitting_4 : decode cX7_fitting 4 = .ok (.iload_n 3, 1) := by decide +kernel
theorem dX7_fitting_5 : decode cX7_fitting 5 = .ok (.aload_n 0, 1) := by decide +kernel
theorem dX7_fitting_6 : decode cX7_fitting 6 = .ok (.getfield 109, 3) := by decide +kernel
theorem dX7_fitting_9 : decode cX7_fitting 9 = .ok (.if_icmp .ge 28, 3) := by decide +kernel
theorem dX7_fitting_12 : decode cX7_fitting 12 = .ok (.iload_n 2, 1) := by decide +kernel
theorem dX7_fitting_13 : decode cX7_fitting 13 = .ok (.aload_n 0, 1) := by decide +kernel
theorem dX7_fitting_14 : decode cX7_fitting 14 = .ok (.iload_n 3, 1) := by decide +kernel
theorem dX7_fitting_15 : decode cX7_fitting 15 = .ok (.iload_n 1, 1) := by decide +kernel
theorem dX7_fitting_16 : decode cX7_fitting 16 = .ok (.invokevirtual 156, 3) := by decide +kernel
theorem dX7_fitting_19 : decode cX7_fitting 19 = .ok (.ifCond .eq 9, 3) := by decide +kernel
theorem dX7_fitting_22 : decode cX7_fitting 22 = .ok (.iconst 1, 1) := by decide +kernel
theorem dX7_fitting_23 : decode cX7_fitting 23 = .ok (.iload_n 3, 1) := by decide +kernel
theorem dX7_fitting_24 : decode cX7_fitting 24 = .ok (.ishl, 1) := by decide +kernel
theorem dX7_fitting_25 : decode cX7_fitting 25 = .ok (.goto 4, 3) := by decide +kernel
theorem dX7_fitting_28 : decode cX7_fitting 28 = .ok (.iconst 0, 1) := by decide +kernel
theorem dX7_fitting_29 : decode cX7_fitting 29 = .ok (.ior, 1) := by decide +kernel
theorem dX7_fitting_30 : decode cX7_fitting 30 = .ok (.istore_n 2, 1) := by decide +kernel
theorem dX7_fitting_31 : decode cX7_fitting 31 = .ok (.iinc 3 1, 3) := by decide +kernel
theorem dX7_fitting_34 : decode cX7_fitting 34 = .ok (.goto (-30), 3) := by decide +kernel
theorem dX7_fitting_37 : decode cX7_fitting 37 = .ok (.iload_n 2, 1) := by decide +kernel
theorem dX7_fitting_38 : decode cX7_fitting 38 = .ok (.ireturn, 1) := by decide +kernel
theorem dX7_leading_0 : decode cX7_leading 0 = .ok (.iconst 0, 1) := by decide +kernel
theorem dX7_leading_1 : decode cX7_leading 1 = .ok (.istore_n 2, 1) := by decide +kernel
theorem dX7_leading_2 : decode cX7_leading 2 = .ok (.iconst 0, 1) := by decide +kernel
theorem dX7_leading_3 : decode cX7_leading 3 = .ok (.istore_n 3, 1) := by decide +kernel
theorem dX7_leading_4 : decode cX7_leading 4 = .ok (.iload_n 3, 1) := by decide +kernel
theorem dX7_leading_5 : decode cX7_leading 5 = .ok (.aload_n 0, 1) := by decide +kernel
theorem dX7_leading_6 : decode cX7_leading 6 = .ok (.getfield 109, 3) := by decide +kernel
theorem dX7_leading_9 : decode cX7_leading 9 = .ok (.if_icmp .ge 28, 3) := by decide +kernel
theorem dX7_leading_12 : decode cX7_leading 12 = .ok (.iload_n 2, 1) := by decide +kernel
theorem dX7_leading_13 : decode cX7_leading 13 = .ok (.aload_n 0, 1) := by decide +kernel
theorem dX7_leading_14 : decode cX7_leading 14 = .ok (.iload_n 3, 1) := by decide +kernel
theorem dX7_leading_15 : decode cX7_leading 15 = .ok (.iload_n 1, 1) := by decide +kernel
theorem dX7_leading_16 : decode cX7_leading 16 = .ok (.invokevirtual 159, 3) := by decide +kernel
theorem dX7_leading_19 : decode cX7_leading 19 = .ok (.ifCond .eq 9, 3) := by decide +kernel
theorem dX7_leading_22 : decode cX7_leading 22 = .ok (.iconst 1, 1) := by decide +kernel
theorem dX7_leading_23 : decode cX7_leading 23 = .ok (.iload_n 3, 1) := by decide +kernel
theorem dX7_leading_24 : decode cX7_leading 24 = .ok (.ishl, 1) := by decide +kernel
theorem dX7_leading_25 : decode cX7_leading 25 = .ok (.goto 4, 3) := by decide +kernel
theorem dX7_leading_28 : decode cX7_leading 28 = .ok (.iconst 0, 1) := by decide +kernel
theorem dX7_leading_29 : decode cX7_leading 29 = .ok (.ior, 1) := by decide +kernel
theorem dX7_leading_30 : decode cX7_leading 30 = .ok (.istore_n 2, 1) := by decide +kernel
theorem dX7_leading_31 : decode cX7_leading 31 = .ok (.iinc 3 1, 3) := by decide +kernel
theorem dX7_leading_34 : decode cX7_leading 34 = .ok (.goto (-30), 3) := by decide +kernel
theorem dX7_leading_37 : decode cX7_leading 37 = .ok (.iload_n 2, 1) := by decide +kernel
theorem dX7_leading_38 : decode cX7_leading 38 = .ok (.ireturn, 1) := by decide +kernel
theorem dX7_winner_0 : decode cX7_winner 0 = .ok (.iconst (-1), 1) := by decide +kernel
theorem dX7_winner_1 : decode cX7_winner 1 = .ok (.istore_n 2, 1) := by decide +kernel
theorem dX7_winner_2 : decode cX7_winner 2 = .ok (.iconst 0, 1) := by decide +kernel
theorem dX7_winner_3 : decode cX7_winner 3 = .ok (.istore_n 3, 1) := by decide +kernel
theorem dX7_winner_4 : decode cX7_winner 4 = .ok (.iload_n 3, 1) := by decide +kernel
theorem dX7_winner_5 : decode cX7_winner 5 = .ok (.aload_n 0, 1) := by decide +kernel
theorem dX7_winner_6 : decode cX7_winner 6 = .ok (.getfield 109, 3) := by decide +kernel
theorem dX7_winner_9 : decode cX7_winner 9 = .ok (.if_icmp .ge 50, 3) := by decide +kernel
theorem dX7_winner_12 : decode cX7_winner 12 = .ok (.iload_n 1, 1) := by decide +kernel
theorem dX7_winner_13 : decode cX7_winner 13 = .ok (.iload_n 3, 1) := by decide +kernel
theorem dX7_winner_14 : decode cX7_winner 14 = .ok (.ishr, 1) := by decide +kernel
theorem dX7_winner_15 : decode cX7_winner 15 = .ok (.iconst 1, 1) := by decide +kernel
theorem dX7_winner_16 : decode cX7_winner 16 = .ok (.iand, 1) := by decide +kernel
theorem dX7_winner_17 : decode cX7_winner 17 = .ok (.iconst 1, 1) := by decide +kernel
theorem dX7_winner_18 : decode cX7_winner 18 = .ok (.if_icmp .ne 7, 3) := by decide +kernel
theorem dX7_winner_21 : decode cX7_winner 21 = .ok (.iconst 1, 1) := by decide +kernel
theorem dX7_winner_22 : decode cX7_winner 22 = .ok (.goto 4, 3) := by decide +kernel
theorem dX7_winner_25 : decode cX7_winner 25 = .ok (.iconst 0, 1) := by decide +kernel
theorem dX7_winner_26 : decode cX7_winner 26 = .ok (.istore 4, 2) := by decide +kernel
theorem dX7_winner_28 : decode cX7_winner 28 = .ok (.iload 4, 2) := by decide +kernel
theorem dX7_winner_30 : decode cX7_winner 30 = .ok (.ifCond .eq 21, 3) := by decide +kernel
theorem dX7_winner_33 : decode cX7_winner 33 = .ok (.iload_n 2, 1) := by decide +kernel
theorem dX7_winner_34 : decode cX7_winner 34 = .ok (.iconst (-1), 1) := by decide +kernel
theorem dX7_winner_35 : decode cX7_winner 35 = .ok (.if_icmp .eq 12, 3) := by decide +kernel
theorem dX7_winner_38 : decode cX7_winner 38 = .ok (.aload_n 0, 1) := by decide +kernel
theorem dX7_winner_39 : decode cX7_winner 39 = .ok (.iload_n 3, 1) := by decide +kernel
theorem dX7_winner_40 : decode cX7_winner 40 = .ok (.iload_n 2, 1) := by decide +kernel
theorem dX7_winner_41 : decode cX7_winner 41 = .ok (.invokevirtual 140, 3) := by decide +kernel
theorem dX7_winner_44 : decode cX7_winner 44 = .ok (.ifCond .ge 7, 3) := by decide +kernel
theorem dX7_winner_47 : decode cX7_winner 47 = .ok (.iload_n 3, 1) := by decide +kernel
theorem dX7_winner_48 : decode cX7_winner 48 = .ok (.goto 4, 3) := by decide +kernel
theorem dX7_winner_51 : decode cX7_winner 51 = .ok (.iload_n 2, 1) := by decide +kernel
theorem dX7_winner_52 : decode cX7_winner 52 = .ok (.istore_n 2, 1) := by decide +kernel
theorem dX7_winner_53 : decode cX7_winner 53 = .ok (.iinc 3 1, 3) := by decide +kernel
theorem dX7_winner_56 : decode cX7_winner 56 = .ok (.goto (-52), 3) := by decide +kernel
theorem dX7_winner_59 : decode cX7_winner 59 = .ok (.iload_n 2, 1) := by decide +kernel
theorem dX7_winner_60 : decode cX7_winner 60 = .ok (.ireturn, 1) := by decide +kernel
theorem dX7_rewrite_0 : decode cX7_rewrite 0 = .ok (.aload_n 0, 1) := by decide +kernel
theorem dX7_rewrite_1 : decode cX7_rewrite 1 = .ok (.getfield 29, 3) := by decide +kernel
theorem dX7_rewrite_4 : decode cX7_rewrite 4 = .ok (.iload_n 1, 1) := by decide +kernel
theorem dX7_rewrite_5 : decode cX7_rewrite 5 = .ok (.iaload, 1) := by decide +kernel
theorem dX7_rewrite_6 : decode cX7_rewrite 6 = .ok (.istore_n 2, 1) := by decide +kernel
theorem dX7_rewrite_7 : decode cX7_rewrite 7 = .ok (.iload_n 2, 1) := by decide +kernel
theorem dX7_rewrite_8 : decode cX7_rewrite 8 = .ok (.aload_n 0, 1) := by decide +kernel
theorem dX7_rewrite_9 : decode cX7_rewrite 9 = .ok (.getfield 26, 3) := by decide +kernel
theorem dX7_rewrite_12 : decode cX7_rewrite 12 = .ok (.iload_n 1, 1) := by decide +kernel
theorem dX7_rewrite_13 : decode cX7_rewrite 13 = .ok (.iaload, 1) := by decide +kernel
theorem dX7_rewrite_14 : decode cX7_rewrite 14 = .ok (.isub, 1) := by decide +kernel
theorem dX7_rewrite_15 : decode cX7_rewrite 15 = .ok (.istore_n 3, 1) := by decide +kernel
theorem dX7_rewrite_16 : decode cX7_rewrite 16 = .ok (.aload_n 0, 1) := by decide +kernel
theorem dX7_rewrite_17 : decode cX7_rewrite 17 = .ok (.getfield 162, 3) := by decide +kernel
theorem dX7_rewrite_20 : decode cX7_rewrite 20 = .ok (.iload_n 3, 1) := by decide +kernel
theorem dX7_rewrite_21 : decode cX7_rewrite 21 = .ok (.iadd, 1) := by decide +kernel
theorem dX7_rewrite_22 : decode cX7_rewrite 22 = .ok (.istore 4, 2) := by decide +kernel
theorem dX7_rewrite_24 : decode cX7_rewrite 24 = .ok (.iconst 0, 1) := by decide +kernel
theorem dX7_rewrite_25 : decode cX7_rewrite 25 = .ok (.istore 5, 2) := by decide +kernel
theorem dX7_rewrite_27 : decode cX7_rewrite 27 = .ok (.iload 5, 2) := by decide +kernel
theorem dX7_rewrite_29 : decode cX7_rewrite 29 = .ok (.iload 4, 2) := by decide +kernel
theorem dX7_rewrite_31 : decode cX7_rewrite 31 = .ok (.iload_n 2, 1) := by decide +kernel
theorem dX7_rewrite_32 : decode cX7_rewrite 32 = .ok (.isub, 1) := by decide +kernel
theorem dX7_rewrite_33 : decode cX7_rewrite 33 = .ok (.if_icmp .ge 45, 3) := by decide +kernel
theorem dX7_rewrite_36 : decode cX7_rewrite 36 = .ok (.iload_n 3, 1) := by decide +kernel
theorem dX7_rewrite_37 : decode cX7_rewrite 37 = .ok (.ifCond .le 13, 3) := by decide +kernel
theorem dX7_rewrite_40 : decode cX7_rewrite 40 = .ok (.iload 4, 2) := by decide +kernel
theorem dX7_rewrite_42 : decode cX7_rewrite 42 = .ok (.iconst 1, 1) := by decide +kernel
theorem dX7_rewrite_43 : decode cX7_rewrite 43 = .ok (.isub, 1) := by decide +kernel
theorem dX7_rewrite_44 : decode cX7_rewrite 44 = .ok (.iload 5, 2) := by decide +kernel
theorem dX7_rewrite_46 : decode cX7_rewrite 46 = .ok (.isub, 1) := by decide +kernel
theorem dX7_rewrite_47 : decode cX7_rewrite 47 = .ok (.goto 7, 3) := by decide +kernel
theorem dX7_rewrite_50 : decode cX7_rewrite 50 = .ok (.iload_n 2, 1) := by decide +kernel
theorem dX7_rewrite_51 : decode cX7_rewrite 51 = .ok (.iload 5, 2) := by decide +kernel
theorem dX7_rewrite_53 : decode cX7_rewrite 53 = .ok (.iadd, 1) := by decide +kernel
theorem dX7_rewrite_54 : decode cX7_rewrite 54 = .ok (.istore 6, 2) := by decide +kernel
theorem dX7_rewrite_56 : decode cX7_rewrite 56 = .ok (.aload_n 0, 1) := by decide +kernel
theorem dX7_rewrite_57 : decode cX7_rewrite 57 = .ok (.getfield 44, 3) := by decide +kernel
theorem dX7_rewrite_60 : decode cX7_rewrite 60 = .ok (.iload 6, 2) := by decide +kernel
theorem dX7_rewrite_62 : decode cX7_rewrite 62 = .ok (.aload_n 0, 1) := by decide +kernel
theorem dX7_rewrite_63 : decode cX7_rewrite 63 = .ok (.getfield 44, 3) := by decide +kernel
theorem dX7_rewrite_66 : decode cX7_rewrite 66 = .ok (.iload 6, 2) := by decide +kernel
theorem dX7_rewrite_68 : decode cX7_rewrite 68 = .ok (.iload_n 3, 1) := by decide +kernel
theorem dX7_rewrite_69 : decode cX7_rewrite 69 = .ok (.isub, 1) := by decide +kernel
theorem dX7_rewrite_70 : decode cX7_rewrite 70 = .ok (.iaload, 1) := by decide +kernel
theorem dX7_rewrite_71 : decode cX7_rewrite 71 = .ok (.iastore, 1) := by decide +kernel
theorem dX7_rewrite_72 : decode cX7_rewrite 72 = .ok (.iinc 5 1, 3) := by decide +kernel
theorem dX7_rewrite_75 : decode cX7_rewrite 75 = .ok (.goto (-48), 3) := by decide +kernel
theorem dX7_rewrite_78 : decode cX7_rewrite 78 = .ok (.iconst 0, 1) := by decide +kernel
theorem dX7_rewrite_79 : decode cX7_rewrite 79 = .ok (.istore 5, 2) := by decide +kernel
theorem dX7_rewrite_81 : decode cX7_rewrite 81 = .ok (.iload 5, 2) := by decide +kernel
theorem dX7_rewrite_83 : decode cX7_rewrite 83 = .ok (.iload_n 2, 1) := by decide +kernel
theorem dX7_rewrite_84 : decode cX7_rewrite 84 = .ok (.if_icmp .ge 27, 3) := by decide +kernel
theorem dX7_rewrite_87 : decode cX7_rewrite 87 = .ok (.aload_n 0, 1) := by decide +kernel
theorem dX7_rewrite_88 : decode cX7_rewrite 88 = .ok (.getfield 44, 3) := by decide +kernel
theorem dX7_rewrite_91 : decode cX7_rewrite 91 = .ok (.iload 5, 2) := by decide +kernel
theorem dX7_rewrite_93 : decode cX7_rewrite 93 = .ok (.aload_n 0, 1) := by decide +kernel
theorem dX7_rewrite_94 : decode cX7_rewrite 94 = .ok (.getfield 32, 3) := by decide +kernel
theorem dX7_rewrite_97 : decode cX7_rewrite 97 = .ok (.iconst 4, 1) := by decide +kernel
theorem dX7_rewrite_98 : decode cX7_rewrite 98 = .ok (.iload_n 1, 1) := by decide +kernel
theorem dX7_rewrite_99 : decode cX7_rewrite 99 = .ok (.imul, 1) := by decide +kernel
theorem dX7_rewrite_100 : decode cX7_rewrite 100 = .ok (.iload 5, 2) := by decide +kernel
theorem dX7_rewrite_102 : decode cX7_rewrite 102 = .ok (.iadd, 1) := by decide +kernel
theorem dX7_rewrite_103 : decode cX7_rewrite 103 = .ok (.iaload, 1) := by decide +kernel
theorem dX7_rewrite_104 : decode cX7_rewrite 104 = .ok (.iastore, 1) := by decide +kernel
theorem dX7_rewrite_105 : decode cX7_rewrite 105 = .ok (.iinc 5 1, 3) := by decide +kernel
theorem dX7_rewrite_108 : decode cX7_rewrite 108 = .ok (.goto (-27), 3) := by decide +kernel
theorem dX7_rewrite_111 : decode cX7_rewrite 111 = .ok (.aload_n 0, 1) := by decide +kernel
theorem dX7_rewrite_112 : decode cX7_rewrite 112 = .ok (.iload 4, 2) := by decide +kernel
theorem dX7_rewrite_114 : decode cX7_rewrite 114 = .ok (.putfield 162, 3) := by decide +kernel
theorem dX7_rewrite_117 : decode cX7_rewrite 117 = .ok (.return_, 1) := by decide +kernel
theorem dX7_read_0 : decode cX7_read 0 = .ok (.aload_n 0, 1) := by decide +kernel
theorem dX7_read_1 : decode cX7_read 1 = .ok (.iconst 0, 1) := by decide +kernel
theorem dX7_read_2 : decode cX7_read 2 = .ok (.putfield 165, 3) := by decide +kernel
theorem dX7_read_5 : decode cX7_read 5 = .ok (.iconst 1, 1) := by decide +kernel
theorem dX7_read_6 : decode cX7_read 6 = .ok (.istore_n 1, 1) := by decide +kernel
theorem dX7_read_7 : decode cX7_read 7 = .ok (.iload_n 1, 1) := by decide +kernel
theorem dX7_read_8 : decode cX7_read 8 = .ok (.ifCond .eq 93, 3) := by decide +kernel
theorem dX7_read_11 : decode cX7_read 11 = .ok (.aload_n 0, 1) := by decide +kernel
theorem dX7_read_12 : decode cX7_read 12 = .ok (.getfield 165, 3) := by decide +kernel
theorem dX7_read_15 : decode cX7_read 15 = .ok (.bipush 6, 2) := by decide +kernel
theorem dX7_read_17 : decode cX7_read 17 = .ok (.if_icmp .ge 84, 3) := by decide +kernel
theorem dX7_read_20 : decode cX7_read 20 = .ok (.aload_n 0, 1) := by decide +kernel
theorem dX7_read_21 : decode cX7_read 21 = .ok (.dup, 1) := by decide +kernel
theorem dX7_read_22 : decode cX7_read 22 = .ok (.getfield 165, 3) := by decide +kernel
theorem dX7_read_25 : decode cX7_read 25 = .ok (.iconst 1, 1) := by decide +kernel
theorem dX7_read_26 : decode cX7_read 26 = .ok (.iadd, 1) := by decide +kernel
theorem dX7_read_27 : decode cX7_read 27 = .ok (.putfield 165, 3) := by decide +kernel
theorem dX7_read_30 : decode cX7_read 30 = .ok (.aload_n 0, 1) := by decide +kernel
theorem dX7_read_31 : decode cX7_read 31 = .ok (.aload_n 0, 1) := by decide +kernel
theorem dX7_read_32 : decode cX7_read 32 = .ok (.aload_n 0, 1) := by decide +kernel
theorem dX7_read_33 : decode cX7_read 33 = .ok (.getfield 162, 3) := by decide +kernel
theorem dX7_read_36 : decode cX7_read 36 = .ok (.invokevirtual 168, 3) := by decide +kernel
theorem dX7_read_39 : decode cX7_read 39 = .ok (.invokevirtual 171, 3) := by decide +kernel
theorem dX7_read_42 : decode cX7_read 42 = .ok (.istore_n 2, 1) := by decide +kernel
theorem dX7_read_43 : decode cX7_read 43 = .ok (.iload_n 2, 1) := by decide +kernel
theorem dX7_read_44 : decode cX7_read 44 = .ok (.iconst (-1), 1) := by decide +kernel
theorem dX7_read_45 : decode cX7_read 45 = .ok (.if_icmp .ne 5, 3) := by decide +kernel
theorem dX7_read_48 : decode cX7_read 48 = .ok (.iconst (-1), 1) := by decide +kernel
theorem dX7_read_49 : decode cX7_read 49 = .ok (.ireturn, 1) := by decide +kernel
theorem dX7_read_50 : decode cX7_read 50 = .ok (.aload_n 0, 1) := by decide +kernel
theorem dX7_read_51 : decode cX7_read 51 = .ok (.iload_n 2, 1) := by decide +kernel
theorem dX7_read_52 : decode cX7_read 52 = .ok (.invokevirtual 174, 3) := by decide +kernel
theorem dX7_read_55 : decode cX7_read 55 = .ok (.aload_n 0, 1) := by decide +kernel
theorem dX7_read_56 : decode cX7_read 56 = .ok (.getfield 162, 3) := by decide +kernel
theorem dX7_read_59 : decode cX7_read 59 = .ok (.iconst 1, 1) := by decide +kernel
theorem dX7_read_60 : decode cX7_read 60 = .ok (.bipush 10, 2) := by decide +kernel
theorem dX7_read_62 : decode cX7_read 62 = .ok (.invokestatic 50, 3) := by decide +kernel
theorem dX7_read_65 : decode cX7_read 65 = .ok (.ifCond .ne 5, 3) := by decide +kernel
theorem dX7_read_68 : decode cX7_read 68 = .ok (.iconst (-1), 1) := by decide +kernel
theorem dX7_read_69 : decode cX7_read 69 = .ok (.ireturn, 1) := by decide +kernel
theorem dX7_read_70 : decode cX7_read 70 = .ok (.aload_n 0, 1) := by decide +kernel
theorem dX7_read_71 : decode cX7_read 71 = .ok (.getfield 23, 3) := by decide +kernel
theorem dX7_read_74 : decode cX7_read 74 = .ok (.iload_n 2, 1) := by decide +kernel
theorem dX7_read_75 : decode cX7_read 75 = .ok (.iaload, 1) := by decide +kernel
theorem dX7_read_76 : decode cX7_read 76 = .ok (.bipush 10, 2) := by decide +kernel
theorem dX7_read_78 : decode cX7_read 78 = .ok (.if_icmp .ne 7, 3) := by decide +kernel
theorem dX7_read_81 : decode cX7_read 81 = .ok (.iconst 1, 1) := by decide +kernel
theorem dX7_read_82 : decode cX7_read 82 = .ok (.goto 4, 3) := by decide +kernel
theorem dX7_read_85 : decode cX7_read 85 = .ok (.iconst 0, 1) := by decide +kernel
theorem dX7_read_86 : decode cX7_read 86 = .ok (.istore_n 1, 1) := by decide +kernel
theorem dX7_read_87 : decode cX7_read 87 = .ok (.iload_n 1, 1) := by decide +kernel
theorem dX7_read_88 : decode cX7_read 88 = .ok (.ifCond .ne 10, 3) := by decide +kernel
theorem dX7_read_91 : decode cX7_read 91 = .ok (.aload_n 0, 1) := by decide +kernel
theorem dX7_read_92 : decode cX7_read 92 = .ok (.getfield 23, 3) := by decide +kernel
theorem dX7_read_95 : decode cX7_read 95 = .ok (.iload_n 2, 1) := by decide +kernel
theorem dX7_read_96 : decode cX7_read 96 = .ok (.iaload, 1) := by decide +kernel
theorem dX7_read_97 : decode cX7_read 97 = .ok (.ireturn, 1) := by decide +kernel
theorem dX7_read_98 : decode cX7_read 98 = .ok (.goto (-91), 3) := by decide +kernel
theorem dX7_read_101 : decode cX7_read 101 = .ok (.iconst (-1), 1) := by decide +kernel
theorem dX7_read_102 : decode cX7_read 102 = .ok (.ireturn, 1) := by decide +kernel
theorem dX7_isRow_0 : decode cX7_isRow 0 = .ok (.aload_n 0, 1) := by decide +kernel
theorem dX7_isRow_1 : decode cX7_isRow 1 = .ok (.getfield 54, 3) := by decide +kernel
theorem dX7_isRow_4 : decode cX7_isRow 4 = .ok (.iconst 1, 1) := by decide +kernel
theorem dX7_isRow_5 : decode cX7_isRow 5 = .ok (.bipush 10, 2) := by decide +kernel
theorem dX7_isRow_7 : decode cX7_isRow 7 = .ok (.invokestatic 50, 3) := by decide +kernel
theorem dX7_isRow_10 : decode cX7_isRow 10 = .ok (.istore_n 1, 1) := by decide +kernel
theorem dX7_isRow_11 : decode cX7_isRow 11 = .ok (.iconst 0, 1) := by decide +kernel
theorem dX7_isRow_12 : decode cX7_isRow 12 = .ok (.istore_n 2, 1) := by decide +kernel
theorem dX7_isRow_13 : decode cX7_isRow 13 = .ok (.iload_n 2, 1) := by decide +kernel
theorem dX7_isRow_14 : decode cX7_isRow 14 = .ok (.aload_n 0, 1) := by decide +kernel
theorem dX7_isRow_15 : decode cX7_isRow 15 = .ok (.getfield 54, 3) := by decide +kernel
theorem dX7_isRow_18 : decode cX7_isRow 18 = .ok (.if_icmp .ge 35, 3) := by decide +kernel
theorem dX7_isRow_21 : decode cX7_isRow 21 = .ok (.iload_n 1, 1) := by decide +kernel
theorem dX7_isRow_22 : decode cX7_isRow 22 = .ok (.ifCond .eq 23, 3) := by decide +kernel
theorem dX7_isRow_25 : decode cX7_isRow 25 = .ok (.aload_n 0, 1) := by decide +kernel
theorem dX7_isRow_26 : decode cX7_isRow 26 = .ok (.getfield 7, 3) := by decide +kernel
theorem dX7_isRow_29 : decode cX7_isRow 29 = .ok (.iload_n 2, 1) := by decide +kernel
theorem dX7_isRow_30 : decode cX7_isRow 30 = .ok (.iaload, 1) := by decide +kernel
theorem dX7_isRow_31 : decode cX7_isRow 31 = .ok (.bipush 48, 2) := by decide +kernel
theorem dX7_isRow_33 : decode cX7_isRow 33 = .ok (.bipush 57, 2) := by decide +kernel
theorem dX7_isRow_35 : decode cX7_isRow 35 = .ok (.invokestatic 50, 3) := by decide +kernel
theorem dX7_isRow_38 : decode cX7_isRow 38 = .ok (.ifCond .eq 7, 3) := by decide +kernel
theorem dX7_isRow_41 : decode cX7_isRow 41 = .ok (.iconst 1, 1) := by decide +kernel
theorem dX7_isRow_42 : decode cX7_isRow 42 = .ok (.goto 4, 3) := by decide +kernel
theorem dX7_isRow_45 : decode cX7_isRow 45 = .ok (.iconst 0, 1) := by decide +kernel
theorem dX7_isRow_46 : decode cX7_isRow 46 = .ok (.istore_n 1, 1) := by decide +kernel
theorem dX7_isRow_47 : decode cX7_isRow 47 = .ok (.iinc 2 1, 3) := by decide +kernel
theorem dX7_isRow_50 : decode cX7_isRow 50 = .ok (.goto (-37), 3) := by decide +kernel
theorem dX7_isRow_53 : decode cX7_isRow 53 = .ok (.iload_n 1, 1) := by decide +kernel
theorem dX7_isRow_54 : decode cX7_isRow 54 = .ok (.ireturn, 1) := by decide +kernel
theorem dX7_rowNow_0 : decode cX7_rowNow 0 = .ok (.aload_n 0, 1) := by decide +kernel
theorem dX7_rowNow_1 : decode cX7_rowNow 1 = .ok (.aload_n 0, 1) := by decide +kernel
theorem dX7_rowNow_2 : decode cX7_rowNow 2 = .ok (.getfield 54, 3) := by decide +kernel
theorem dX7_rowNow_5 : decode cX7_rowNow 5 = .ok (.putfield 162, 3) := by decide +kernel
theorem dX7_rowNow_8 : decode cX7_rowNow 8 = .ok (.iconst 0, 1) := by decide +kernel
theorem dX7_rowNow_9 : decode cX7_rowNow 9 = .ok (.istore_n 2, 1) := by decide +kernel
theorem dX7_rowNow_10 : decode cX7_rowNow 10 = .ok (.iload_n 2, 1) := by decide +kernel
theorem dX7_rowNow_11 : decode cX7_rowNow 11 = .ok (.aload_n 0, 1) := by decide +kernel
theorem dX7_rowNow_12 : decode cX7_rowNow 12 = .ok (.getfield 162, 3) := by decide +kernel
theorem dX7_rowNow_15 : decode cX7_rowNow 15 = .ok (.if_icmp .ge 24, 3) := by decide +kernel
theorem dX7_rowNow_18 : decode cX7_rowNow 18 = .ok (.aload_n 0, 1) := by decide +kernel
theorem dX7_rowNow_19 : decode cX7_rowNow 19 = .ok (.getfield 44, 3) := by decide +kernel
theorem dX7_rowNow_22 : decode cX7_rowNow 22 = .ok (.iload_n 2, 1) := by decide +kernel
theorem dX7_rowNow_23 : decode cX7_rowNow 23 = .ok (.aload_n 0, 1) := by decide +kernel
theorem dX7_rowNow_24 : decode cX7_rowNow 24 = .ok (.getfield 7, 3) := by decide +kernel
theorem dX7_rowNow_27 : decode cX7_rowNow 27 = .ok (.iload_n 2, 1) := by decide +kernel
theorem dX7_rowNow_28 : decode cX7_rowNow 28 = .ok (.iaload, 1) := by decide +kernel
theorem dX7_rowNow_29 : decode cX7_rowNow 29 = .ok (.bipush 48, 2) := by decide +kernel
theorem dX7_rowNow_31 : decode cX7_rowNow 31 = .ok (.isub, 1) := by decide +kernel
theorem dX7_rowNow_32 : decode cX7_rowNow 32 = .ok (.iastore, 1) := by decide +kernel
theorem dX7_rowNow_33 : decode cX7_rowNow 33 = .ok (.iinc 2 1, 3) := by decide +kernel
theorem dX7_rowNow_36 : decode cX7_rowNow 36 = .ok (.goto (-26), 3) := by decide +kernel
theorem dX7_rowNow_39 : decode cX7_rowNow 39 = .ok (.iload_n 1, 1) := by decide +kernel
theorem dX7_rowNow_40 : decode cX7_rowNow 40 = .ok (.iconst 3, 1) := by decide +kernel
theorem dX7_rowNow_41 : decode cX7_rowNow 41 = .ok (.if_icmp .ge 47, 3) := by decide +kernel
theorem dX7_rowNow_44 : decode cX7_rowNow 44 = .ok (.iload_n 1, 1) := by decide +kernel
theorem dX7_rowNow_45 : decode cX7_rowNow 45 = .ok (.ifCond .ne 18, 3) := by decide +kernel
theorem dX7_rowNow_48 : decode cX7_rowNow 48 = .ok (.aload_n 0, 1) := by decide +kernel
theorem dX7_rowNow_49 : decode cX7_rowNow 49 = .ok (.aload_n 0, 1) := by decide +kernel
theorem dX7_rowNow_50 : decode cX7_rowNow 50 = .ok (.aload_n 0, 1) := by decide +kernel
theorem dX7_rowNow_51 : decode cX7_rowNow 51 = .ok (.getfield 162, 3) := by decide +kernel
theorem dX7_rowNow_54 : decode cX7_rowNow 54 = .ok (.invokevirtual 168, 3) := by decide +kernel
theorem dX7_rowNow_57 : decode cX7_rowNow 57 = .ok (.invokevirtual 171, 3) := by decide +kernel
theorem dX7_rowNow_60 : decode cX7_rowNow 60 = .ok (.goto 27, 3) := by decide +kernel
theorem dX7_rowNow_63 : decode cX7_rowNow 63 = .ok (.iload_n 1, 1) := by decide +kernel
theorem dX7_rowNow_64 : decode cX7_rowNow 64 = .ok (.iconst 1, 1) := by decide +kernel
theorem dX7_rowNow_65 : decode cX7_rowNow 65 = .ok (.if_icmp .ne 14, 3) := by decide +kernel
theorem dX7_rowNow_68 : decode cX7_rowNow 68 = .ok (.aload_n 0, 1) := by decide +kernel
theorem dX7_rowNow_69 : decode cX7_rowNow 69 = .ok (.aload_n 0, 1) := by decide +kernel
theorem dX7_rowNow_70 : decode cX7_rowNow 70 = .ok (.getfield 162, 3) := by decide +kernel
theorem dX7_rowNow_73 : decode cX7_rowNow 73 = .ok (.invokevirtual 168, 3) := by decide +kernel
theorem dX7_rowNow_76 : decode cX7_rowNow 76 = .ok (.goto 11, 3) := by decide +kernel
theorem dX7_rowNow_79 : decode cX7_rowNow 79 = .ok (.aload_n 0, 1) := by decide +kernel
theorem dX7_rowNow_80 : decode cX7_rowNow 80 = .ok (.aload_n 0, 1) := by decide +kernel
theorem dX7_rowNow_81 : decode cX7_rowNow 81 = .ok (.getfield 162, 3) := by decide +kernel
theorem dX7_rowNow_84 : decode cX7_rowNow 84 = .ok (.invokevirtual 177, 3) := by decide +kernel
theorem dX7_rowNow_87 : decode cX7_rowNow 87 = .ok (.ireturn, 1) := by decide +kernel
theorem dX7_rowNow_88 : decode cX7_rowNow 88 = .ok (.aload_n 0, 1) := by decide +kernel
theorem dX7_rowNow_89 : decode cX7_rowNow 89 = .ok (.invokevirtual 180, 3) := by decide +kernel
theorem dX7_rowNow_92 : decode cX7_rowNow 92 = .ok (.istore_n 2, 1) := by decide +kernel
theorem dX7_rowNow_93 : decode cX7_rowNow 93 = .ok (.iload_n 1, 1) := by decide +kernel
theorem dX7_rowNow_94 : decode cX7_rowNow 94 = .ok (.iconst 5, 1) := by decide +kernel
theorem dX7_rowNow_95 : decode cX7_rowNow 95 = .ok (.if_icmp .ge 17, 3) := by decide +kernel
theorem dX7_rowNow_98 : decode cX7_rowNow 98 = .ok (.iload_n 1, 1) := by decide +kernel
theorem dX7_rowNow_99 : decode cX7_rowNow 99 = .ok (.iconst 3, 1) := by decide +kernel
theorem dX7_rowNow_100 : decode cX7_rowNow 100 = .ok (.if_icmp .ne 7, 3) := by decide +kernel
theorem dX7_rowNow_103 : decode cX7_rowNow 103 = .ok (.iload_n 2, 1) := by decide +kernel
theorem dX7_rowNow_104 : decode cX7_rowNow 104 = .ok (.goto 7, 3) := by decide +kernel
theorem dX7_rowNow_107 : decode cX7_rowNow 107 = .ok (.aload_n 0, 1) := by decide +kernel
theorem dX7_rowNow_108 : decode cX7_rowNow 108 = .ok (.getfield 165, 3) := by decide +kernel
theorem dX7_rowNow_111 : decode cX7_rowNow 111 = .ok (.ireturn, 1) := by decide +kernel
theorem dX7_rowNow_112 : decode cX7_rowNow 112 = .ok (.iload_n 2, 1) := by decide +kernel
theorem dX7_rowNow_113 : decode cX7_rowNow 113 = .ok (.iconst (-1), 1) := by decide +kernel
theorem dX7_rowNow_114 : decode cX7_rowNow 114 = .ok (.if_icmp .ne 7, 3) := by decide +kernel
theorem dX7_rowNow_117 : decode cX7_rowNow 117 = .ok (.iconst 0, 1) := by decide +kernel
theorem dX7_rowNow_118 : decode cX7_rowNow 118 = .ok (.goto 7, 3) := by decide +kernel
theorem dX7_rowNow_121 : decode cX7_rowNow 121 = .ok (.aload_n 0, 1) := by decide +kernel
theorem dX7_rowNow_122 : decode cX7_rowNow 122 = .ok (.getfield 162, 3) := by decide +kernel
theorem dX7_rowNow_125 : decode cX7_rowNow 125 = .ok (.istore_n 3, 1) := by decide +kernel
theorem dX7_rowNow_126 : decode cX7_rowNow 126 = .ok (.iload_n 1, 1) := by decide +kernel
theorem dX7_rowNow_127 : decode cX7_rowNow 127 = .ok (.iconst 5, 1) := by decide +kernel
theorem dX7_rowNow_128 : decode cX7_rowNow 128 = .ok (.if_icmp .ne 7, 3) := by decide +kernel
theorem dX7_rowNow_131 : decode cX7_rowNow 131 = .ok (.iload_n 3, 1) := by decide +kernel
theorem dX7_rowNow_132 : decode cX7_rowNow 132 = .ok (.goto 24, 3) := by decide +kernel
theorem dX7_rowNow_135 : decode cX7_rowNow 135 = .ok (.iload_n 1, 1) := by decide +kernel
theorem dX7_rowNow_136 : decode cX7_rowNow 136 = .ok (.bipush 10, 2) := by decide +kernel
theorem dX7_rowNow_138 : decode cX7_rowNow 138 = .ok (.isub, 1) := by decide +kernel
theorem dX7_rowNow_139 : decode cX7_rowNow 139 = .ok (.iload_n 3, 1) := by decide +kernel
theorem dX7_rowNow_140 : decode cX7_rowNow 140 = .ok (.if_icmp .ge 15, 3) := by decide +kernel
theorem dX7_rowNow_143 : decode cX7_rowNow 143 = .ok (.aload_n 0, 1) := by decide +kernel
theorem dX7_rowNow_144 : decode cX7_rowNow 144 = .ok (.getfield 44, 3) := by decide +kernel
theorem dX7_rowNow_147 : decode cX7_rowNow 147 = .ok (.iload_n 1, 1) := by decide +kernel
theorem dX7_rowNow_148 : decode cX7_rowNow 148 = .ok (.bipush 10, 2) := by decide +kernel
theorem dX7_rowNow_150 : decode cX7_rowNow 150 = .ok (.isub, 1) := by decide +kernel
theorem dX7_rowNow_151 : decode cX7_rowNow 151 = .ok (.iaload, 1) := by decide +kernel
theorem dX7_rowNow_152 : decode cX7_rowNow 152 = .ok (.goto 4, 3) := by decide +kernel
theorem dX7_rowNow_155 : decode cX7_rowNow 155 = .ok (.iconst (-1), 1) := by decide +kernel
theorem dX7_rowNow_156 : decode cX7_rowNow 156 = .ok (.ireturn, 1) := by decide +kernel
theorem dX7_row_0 : decode cX7_row 0 = .ok (.iload_n 1, 1) := by decide +kernel
theorem dX7_row_1 : decode cX7_row 1 = .ok (.iconst 0, 1) := by decide +kernel
theorem dX7_row_2 : decode cX7_row 2 = .ok (.iconst 5, 1) := by decide +kernel
theorem dX7_row_3 : decode cX7_row 3 = .ok (.invokestatic 50, 3) := by decide +kernel
theorem dX7_row_6 : decode cX7_row 6 = .ok (.ifCond .ne 18, 3) := by decide +kernel
theorem dX7_row_9 : decode cX7_row 9 = .ok (.iload_n 1, 1) := by decide +kernel
theorem dX7_row_10 : decode cX7_row 10 = .ok (.bipush 10, 2) := by decide +kernel
theorem dX7_row_12 : decode cX7_row 12 = .ok (.bipush 19, 2) := by decide +kernel
theorem dX7_row_14 : decode cX7_row 14 = .ok (.invokestatic 50, 3) := by decide +kernel
theorem dX7_row_17 : decode cX7_row 17 = .ok (.ifCond .ne 7, 3) := by decide +kernel
theorem dX7_row_20 : decode cX7_row 20 = .ok (.sipush (-1002), 3) := by decide +kernel
theorem dX7_row_23 : decode cX7_row 23 = .ok (.ireturn, 1) := by decide +kernel
theorem dX7_row_24 : decode cX7_row 24 = .ok (.aload_n 0, 1) := by decide +kernel
theorem dX7_row_25 : decode cX7_row 25 = .ok (.invokevirtual 183, 3) := by decide +kernel
theorem dX7_row_28 : decode cX7_row 28 = .ok (.ifCond .eq 11, 3) := by decide +kernel
theorem dX7_row_31 : decode cX7_row 31 = .ok (.aload_n 0, 1) := by decide +kernel
theorem dX7_row_32 : decode cX7_row 32 = .ok (.iload_n 1, 1) := by decide +kernel
theorem dX7_row_33 : decode cX7_row 33 = .ok (.invokevirtual 187, 3) := by decide +kernel
theorem dX7_row_36 : decode cX7_row 36 = .ok (.goto 6, 3) := by decide +kernel
theorem dX7_row_39 : decode cX7_row 39 = .ok (.sipush (-1003), 3) := by decide +kernel
theorem dX7_row_42 : decode cX7_row 42 = .ok (.ireturn, 1) := by decide +kernel
theorem dX7_stage_0 : decode cX7_stage 0 = .ok (.iload_n 1, 1) := by decide +kernel
theorem dX7_stage_1 : decode cX7_stage 1 = .ok (.iconst 0, 1) := by decide +kernel
end
section
theorem dX7_stage_2 : decode cX7_stage 2 = .ok (.iconst 2, 1) := by decide +kernel
theorem dX7_stage_3 : decode cX7_stage 3 = .ok (.invokestatic 50, 3) := by decide +kernel
theorem dX7_stage_6 : decode cX7_stage 6 = .ok (.ifCond .eq 13, 3) := by decide +kernel
theorem dX7_stage_9 : decode cX7_stage 9 = .ok (.iload_n 2, 1) := by decide +kernel
theorem dX7_stage_10 : decode cX7_stage 10 = .ok (.iconst 1, 1) := by decide +kernel
theorem dX7_stage_11 : decode cX7_stage 11 = .ok (.bipush 99, 2) := by decide +kernel
theorem dX7_stage_13 : decode cX7_stage 13 = .ok (.invokestatic 50, 3) := by decide +kernel
theorem dX7_stage_16 : decode cX7_stage 16 = .ok (.ifCond .ne 7, 3) := by decide +kernel
theorem dX7_stage_19 : decode cX7_stage 19 = .ok (.sipush (-1002), 3) := by decide +kernel
theorem dX7_stage_22 : decode cX7_stage 22 = .ok (.ireturn, 1) := by decide +kernel
theorem dX7_stage_23 : decode cX7_stage 23 = .ok (.aload_n 0, 1) := by decide +kernel
theorem dX7_stage_24 : decode cX7_stage 24 = .ok (.getfield 35, 3) := by decide +kernel
theorem dX7_stage_27 : decode cX7_stage 27 = .ok (.iload_n 1, 1) := by decide +kernel
theorem dX7_stage_28 : decode cX7_stage 28 = .ok (.iaload, 1) := by decide +kernel
theorem dX7_stage_29 : decode cX7_stage 29 = .ok (.istore_n 3, 1) := by decide +kernel
theorem dX7_stage_30 : decode cX7_stage 30 = .ok (.aload_n 0, 1) := by decide +kernel
theorem dX7_stage_31 : decode cX7_stage 31 = .ok (.getfield 35, 3) := by decide +kernel
theorem dX7_stage_34 : decode cX7_stage 34 = .ok (.iload_n 1, 1) := by decide +kernel
theorem dX7_stage_35 : decode cX7_stage 35 = .ok (.iload_n 2, 1) := by decide +kernel
theorem dX7_stage_36 : decode cX7_stage 36 = .ok (.iastore, 1) := by decide +kernel
theorem dX7_stage_37 : decode cX7_stage 37 = .ok (.iload_n 3, 1) := by decide +kernel
theorem dX7_stage_38 : decode cX7_stage 38 = .ok (.ireturn, 1) := by decide +kernel
theorem dX7_layPressed_0 : decode cX7_layPressed 0 = .ok (.aload_n 0, 1) := by decide +kernel
theorem dX7_layPressed_1 : decode cX7_layPressed 1 = .ok (.aload_n 0, 1) := by decide +kernel
theorem dX7_layPressed_2 : decode cX7_layPressed 2 = .ok (.getfield 190, 3) := by decide +kernel
theorem dX7_layPressed_5 : decode cX7_layPressed 5 = .ok (.putfield 162, 3) := by decide +kernel
theorem dX7_layPressed_8 : decode cX7_layPressed 8 = .ok (.iconst 0, 1) := by decide +kernel
theorem dX7_layPressed_9 : decode cX7_layPressed 9 = .ok (.istore_n 1, 1) := by decide +kernel
theorem dX7_layPressed_10 : decode cX7_layPressed 10 = .ok (.iload_n 1, 1) := by decide +kernel
theorem dX7_layPressed_11 : decode cX7_layPressed 11 = .ok (.aload_n 0, 1) := by decide +kernel
theorem dX7_layPressed_12 : decode cX7_layPressed 12 = .ok (.getfield 190, 3) := by decide +kernel
theorem dX7_layPressed_15 : decode cX7_layPressed 15 = .ok (.if_icmp .ge 21, 3) := by decide +kernel
theorem dX7_layPressed_18 : decode cX7_layPressed 18 = .ok (.aload_n 0, 1) := by decide +kernel
theorem dX7_layPressed_19 : decode cX7_layPressed 19 = .ok (.getfield 44, 3) := by decide +kernel
theorem dX7_layPressed_22 : decode cX7_layPressed 22 = .ok (.iload_n 1, 1) := by decide +kernel
theorem dX7_layPressed_23 : decode cX7_layPressed 23 = .ok (.aload_n 0, 1) := by decide +kernel
theorem dX7_layPressed_24 : decode cX7_layPressed 24 = .ok (.getfield 47, 3) := by decide +kernel
theorem dX7_layPressed_27 : decode cX7_layPressed 27 = .ok (.iload_n 1, 1) := by decide +kernel
theorem dX7_layPressed_28 : decode cX7_layPressed 28 = .ok (.iaload, 1) := by decide +kernel
theorem dX7_layPressed_29 : decode cX7_layPressed 29 = .ok (.iastore, 1) := by decide +kernel
theorem dX7_layPressed_30 : decode cX7_layPressed 30 = .ok (.iinc 1 1, 3) := by decide +kernel
theorem dX7_layPressed_33 : decode cX7_layPressed 33 = .ok (.goto (-23), 3) := by decide +kernel
theorem dX7_layPressed_36 : decode cX7_layPressed 36 = .ok (.return_, 1) := by decide +kernel
theorem dX7_lift_0 : decode cX7_lift 0 = .ok (.aload_n 0, 1) := by decide +kernel
theorem dX7_lift_1 : decode cX7_lift 1 = .ok (.getfield 106, 3) := by decide +kernel
theorem dX7_lift_4 : decode cX7_lift 4 = .ok (.ifCond .eq 7, 3) := by decide +kernel
theorem dX7_lift_7 : decode cX7_lift 7 = .ok (.sipush (-1003), 3) := by decide +kernel
theorem dX7_lift_10 : decode cX7_lift 10 = .ok (.ireturn, 1) := by decide +kernel
theorem dX7_lift_11 : decode cX7_lift 11 = .ok (.aload_n 0, 1) := by decide +kernel
theorem dX7_lift_12 : decode cX7_lift 12 = .ok (.iconst 1, 1) := by decide +kernel
theorem dX7_lift_13 : decode cX7_lift 13 = .ok (.putfield 106, 3) := by decide +kernel
theorem dX7_lift_16 : decode cX7_lift 16 = .ok (.aload_n 0, 1) := by decide +kernel
theorem dX7_lift_17 : decode cX7_lift 17 = .ok (.iconst 0, 1) := by decide +kernel
theorem dX7_lift_18 : decode cX7_lift 18 = .ok (.putfield 190, 3) := by decide +kernel
theorem dX7_lift_21 : decode cX7_lift 21 = .ok (.aload_n 0, 1) := by decide +kernel
theorem dX7_lift_22 : decode cX7_lift 22 = .ok (.iconst 0, 1) := by decide +kernel
theorem dX7_lift_23 : decode cX7_lift 23 = .ok (.putfield 193, 3) := by decide +kernel
theorem dX7_lift_26 : decode cX7_lift 26 = .ok (.aload_n 0, 1) := by decide +kernel
theorem dX7_lift_27 : decode cX7_lift 27 = .ok (.aload_n 0, 1) := by decide +kernel
theorem dX7_lift_28 : decode cX7_lift 28 = .ok (.getfield 35, 3) := by decide +kernel
theorem dX7_lift_31 : decode cX7_lift 31 = .ok (.iconst 0, 1) := by decide +kernel
theorem dX7_lift_32 : decode cX7_lift 32 = .ok (.iaload, 1) := by decide +kernel
theorem dX7_lift_33 : decode cX7_lift 33 = .ok (.putfield 196, 3) := by decide +kernel
theorem dX7_lift_36 : decode cX7_lift 36 = .ok (.aload_n 0, 1) := by decide +kernel
theorem dX7_lift_37 : decode cX7_lift 37 = .ok (.dup, 1) := by decide +kernel
theorem dX7_lift_38 : decode cX7_lift 38 = .ok (.getfield 199, 3) := by decide +kernel
theorem dX7_lift_41 : decode cX7_lift 41 = .ok (.iconst 1, 1) := by decide +kernel
theorem dX7_lift_42 : decode cX7_lift 42 = .ok (.iadd, 1) := by decide +kernel
theorem dX7_lift_43 : decode cX7_lift 43 = .ok (.putfield 199, 3) := by decide +kernel
theorem dX7_lift_46 : decode cX7_lift 46 = .ok (.aload_n 0, 1) := by decide +kernel
theorem dX7_lift_47 : decode cX7_lift 47 = .ok (.getfield 196, 3) := by decide +kernel
theorem dX7_lift_50 : decode cX7_lift 50 = .ok (.ireturn, 1) := by decide +kernel
theorem dX7_hang_0 : decode cX7_hang 0 = .ok (.aload_n 0, 1) := by decide +kernel
theorem dX7_hang_1 : decode cX7_hang 1 = .ok (.getfield 106, 3) := by decide +kernel
theorem dX7_hang_4 : decode cX7_hang 4 = .ok (.ifCond .ne 7, 3) := by decide +kernel
theorem dX7_hang_7 : decode cX7_hang 7 = .ok (.sipush (-1003), 3) := by decide +kernel
theorem dX7_hang_10 : decode cX7_hang 10 = .ok (.ireturn, 1) := by decide +kernel
theorem dX7_hang_11 : decode cX7_hang 11 = .ok (.aload_n 0, 1) := by decide +kernel
theorem dX7_hang_12 : decode cX7_hang 12 = .ok (.getfield 190, 3) := by decide +kernel
theorem dX7_hang_15 : decode cX7_hang 15 = .ok (.istore_n 1, 1) := by decide +kernel
theorem dX7_hang_16 : decode cX7_hang 16 = .ok (.aload_n 0, 1) := by decide +kernel
theorem dX7_hang_17 : decode cX7_hang 17 = .ok (.iconst 0, 1) := by decide +kernel
theorem dX7_hang_18 : decode cX7_hang 18 = .ok (.putfield 106, 3) := by decide +kernel
theorem dX7_hang_21 : decode cX7_hang 21 = .ok (.aload_n 0, 1) := by decide +kernel
theorem dX7_hang_22 : decode cX7_hang 22 = .ok (.iconst 0, 1) := by decide +kernel
theorem dX7_hang_23 : decode cX7_hang 23 = .ok (.putfield 190, 3) := by decide +kernel
theorem dX7_hang_26 : decode cX7_hang 26 = .ok (.aload_n 0, 1) := by decide +kernel
theorem dX7_hang_27 : decode cX7_hang 27 = .ok (.iconst 0, 1) := by decide +kernel
theorem dX7_hang_28 : decode cX7_hang 28 = .ok (.putfield 193, 3) := by decide +kernel
theorem dX7_hang_31 : decode cX7_hang 31 = .ok (.iload_n 1, 1) := by decide +kernel
theorem dX7_hang_32 : decode cX7_hang 32 = .ok (.ireturn, 1) := by decide +kernel
theorem dX7_ends_0 : decode cX7_ends 0 = .ok (.aload_n 0, 1) := by decide +kernel
theorem dX7_ends_1 : decode cX7_ends 1 = .ok (.invokevirtual 202, 3) := by decide +kernel
theorem dX7_ends_4 : decode cX7_ends 4 = .ok (.aload_n 0, 1) := by decide +kernel
theorem dX7_ends_5 : decode cX7_ends 5 = .ok (.iload_n 1, 1) := by decide +kernel
theorem dX7_ends_6 : decode cX7_ends 6 = .ok (.putfield 193, 3) := by decide +kernel
theorem dX7_ends_9 : decode cX7_ends 9 = .ok (.aload_n 0, 1) := by decide +kernel
theorem dX7_ends_10 : decode cX7_ends 10 = .ok (.aload_n 0, 1) := by decide +kernel
theorem dX7_ends_11 : decode cX7_ends 11 = .ok (.aload_n 0, 1) := by decide +kernel
theorem dX7_ends_12 : decode cX7_ends 12 = .ok (.getfield 190, 3) := by decide +kernel
theorem dX7_ends_15 : decode cX7_ends 15 = .ok (.invokevirtual 168, 3) := by decide +kernel
theorem dX7_ends_18 : decode cX7_ends 18 = .ok (.ifCond .eq 7, 3) := by decide +kernel
theorem dX7_ends_21 : decode cX7_ends 21 = .ok (.iconst 2, 1) := by decide +kernel
theorem dX7_ends_22 : decode cX7_ends 22 = .ok (.goto 4, 3) := by decide +kernel
theorem dX7_ends_25 : decode cX7_ends 25 = .ok (.iconst 3, 1) := by decide +kernel
theorem dX7_ends_26 : decode cX7_ends 26 = .ok (.putfield 106, 3) := by decide +kernel
theorem dX7_ends_29 : decode cX7_ends 29 = .ok (.aload_n 0, 1) := by decide +kernel
theorem dX7_ends_30 : decode cX7_ends 30 = .ok (.dup, 1) := by decide +kernel
theorem dX7_ends_31 : decode cX7_ends 31 = .ok (.getfield 205, 3) := by decide +kernel
theorem dX7_ends_34 : decode cX7_ends 34 = .ok (.aload_n 0, 1) := by decide +kernel
theorem dX7_ends_35 : decode cX7_ends 35 = .ok (.getfield 106, 3) := by decide +kernel
theorem dX7_ends_38 : decode cX7_ends 38 = .ok (.iconst 2, 1) := by decide +kernel
theorem dX7_ends_39 : decode cX7_ends 39 = .ok (.if_icmp .ne 7, 3) := by decide +kernel
theorem dX7_ends_42 : decode cX7_ends 42 = .ok (.iconst 1, 1) := by decide +kernel
theorem dX7_ends_43 : decode cX7_ends 43 = .ok (.goto 4, 3) := by decide +kernel
theorem dX7_ends_46 : decode cX7_ends 46 = .ok (.iconst 0, 1) := by decide +kernel
theorem dX7_ends_47 : decode cX7_ends 47 = .ok (.iadd, 1) := by decide +kernel
theorem dX7_ends_48 : decode cX7_ends 48 = .ok (.putfield 205, 3) := by decide +kernel
theorem dX7_ends_51 : decode cX7_ends 51 = .ok (.aload_n 0, 1) := by decide +kernel
theorem dX7_ends_52 : decode cX7_ends 52 = .ok (.dup, 1) := by decide +kernel
theorem dX7_ends_53 : decode cX7_ends 53 = .ok (.getfield 208, 3) := by decide +kernel
theorem dX7_ends_56 : decode cX7_ends 56 = .ok (.aload_n 0, 1) := by decide +kernel
theorem dX7_ends_57 : decode cX7_ends 57 = .ok (.getfield 106, 3) := by decide +kernel
theorem dX7_ends_60 : decode cX7_ends 60 = .ok (.iconst 3, 1) := by decide +kernel
theorem dX7_ends_61 : decode cX7_ends 61 = .ok (.if_icmp .ne 7, 3) := by decide +kernel
theorem dX7_ends_64 : decode cX7_ends 64 = .ok (.iconst 1, 1) := by decide +kernel
theorem dX7_ends_65 : decode cX7_ends 65 = .ok (.goto 4, 3) := by decide +kernel
theorem dX7_ends_68 : decode cX7_ends 68 = .ok (.iconst 0, 1) := by decide +kernel
theorem dX7_ends_69 : decode cX7_ends 69 = .ok (.iadd, 1) := by decide +kernel
theorem dX7_ends_70 : decode cX7_ends 70 = .ok (.putfield 208, 3) := by decide +kernel
theorem dX7_ends_73 : decode cX7_ends 73 = .ok (.aload_n 0, 1) := by decide +kernel
theorem dX7_ends_74 : decode cX7_ends 74 = .ok (.getfield 106, 3) := by decide +kernel
theorem dX7_ends_77 : decode cX7_ends 77 = .ok (.ireturn, 1) := by decide +kernel
theorem dX7_helps_0 : decode cX7_helps 0 = .ok (.iconst 0, 1) := by decide +kernel
theorem dX7_helps_1 : decode cX7_helps 1 = .ok (.istore_n 2, 1) := by decide +kernel
theorem dX7_helps_2 : decode cX7_helps 2 = .ok (.iconst 0, 1) := by decide +kernel
theorem dX7_helps_3 : decode cX7_helps 3 = .ok (.istore_n 3, 1) := by decide +kernel
theorem dX7_helps_4 : decode cX7_helps 4 = .ok (.iload_n 3, 1) := by decide +kernel
theorem dX7_helps_5 : decode cX7_helps 5 = .ok (.aload_n 0, 1) := by decide +kernel
theorem dX7_helps_6 : decode cX7_helps 6 = .ok (.getfield 109, 3) := by decide +kernel
theorem dX7_helps_9 : decode cX7_helps 9 = .ok (.if_icmp .ge 39, 3) := by decide +kernel
theorem dX7_helps_12 : decode cX7_helps 12 = .ok (.iload_n 2, 1) := by decide +kernel
theorem dX7_helps_13 : decode cX7_helps 13 = .ok (.iload_n 1, 1) := by decide +kernel
theorem dX7_helps_14 : decode cX7_helps 14 = .ok (.iload_n 3, 1) := by decide +kernel
theorem dX7_helps_15 : decode cX7_helps 15 = .ok (.ishr, 1) := by decide +kernel
theorem dX7_helps_16 : decode cX7_helps 16 = .ok (.iconst 1, 1) := by decide +kernel
theorem dX7_helps_17 : decode cX7_helps 17 = .ok (.iand, 1) := by decide +kernel
theorem dX7_helps_18 : decode cX7_helps 18 = .ok (.iconst 1, 1) := by decide +kernel
theorem dX7_helps_19 : decode cX7_helps 19 = .ok (.if_icmp .ne 20, 3) := by decide +kernel
theorem dX7_helps_22 : decode cX7_helps 22 = .ok (.aload_n 0, 1) := by decide +kernel
theorem dX7_helps_23 : decode cX7_helps 23 = .ok (.getfield 23, 3) := by decide +kernel
theorem dX7_helps_26 : decode cX7_helps 26 = .ok (.iload_n 3, 1) := by decide +kernel
theorem dX7_helps_27 : decode cX7_helps 27 = .ok (.iaload, 1) := by decide +kernel
theorem dX7_helps_28 : decode cX7_helps 28 = .ok (.bipush 9, 2) := by decide +kernel
theorem dX7_helps_30 : decode cX7_helps 30 = .ok (.if_icmp .ne 9, 3) := by decide +kernel
theorem dX7_helps_33 : decode cX7_helps 33 = .ok (.iconst 1, 1) := by decide +kernel
theorem dX7_helps_34 : decode cX7_helps 34 = .ok (.iload_n 3, 1) := by decide +kernel
theorem dX7_helps_35 : decode cX7_helps 35 = .ok (.ishl, 1) := by decide +kernel
theorem dX7_helps_36 : decode cX7_helps 36 = .ok (.goto 4, 3) := by decide +kernel
theorem dX7_helps_39 : decode cX7_helps 39 = .ok (.iconst 0, 1) := by decide +kernel
theorem dX7_helps_40 : decode cX7_helps 40 = .ok (.ior, 1) := by decide +kernel
theorem dX7_helps_41 : decode cX7_helps 41 = .ok (.istore_n 2, 1) := by decide +kernel
theorem dX7_helps_42 : decode cX7_helps 42 = .ok (.iinc 3 1, 3) := by decide +kernel
theorem dX7_helps_45 : decode cX7_helps 45 = .ok (.goto (-41), 3) := by decide +kernel
theorem dX7_helps_48 : decode cX7_helps 48 = .ok (.iload_n 2, 1) := by decide +kernel
theorem dX7_helps_49 : decode cX7_helps 49 = .ok (.ireturn, 1) := by decide +kernel
theorem dX7_press_0 : decode cX7_press 0 = .ok (.iload_n 1, 1) := by decide +kernel
theorem dX7_press_1 : decode cX7_press 1 = .ok (.iconst 0, 1) := by decide +kernel
theorem dX7_press_2 : decode cX7_press 2 = .ok (.bipush 9, 2) := by decide +kernel
theorem dX7_press_4 : decode cX7_press 4 = .ok (.invokestatic 50, 3) := by decide +kernel
theorem dX7_press_7 : decode cX7_press 7 = .ok (.ifCond .ne 7, 3) := by decide +kernel
theorem dX7_press_10 : decode cX7_press 10 = .ok (.sipush (-1002), 3) := by decide +kernel
theorem dX7_press_13 : decode cX7_press 13 = .ok (.ireturn, 1) := by decide +kernel
theorem dX7_press_14 : decode cX7_press 14 = .ok (.aload_n 0, 1) := by decide +kernel
theorem dX7_press_15 : decode cX7_press 15 = .ok (.getfield 106, 3) := by decide +kernel
theorem dX7_press_18 : decode cX7_press 18 = .ok (.iconst 1, 1) := by decide +kernel
theorem dX7_press_19 : decode cX7_press 19 = .ok (.if_icmp .eq 7, 3) := by decide +kernel
theorem dX7_press_22 : decode cX7_press 22 = .ok (.sipush (-1003), 3) := by decide +kernel
theorem dX7_press_25 : decode cX7_press 25 = .ok (.ireturn, 1) := by decide +kernel
theorem dX7_press_26 : decode cX7_press 26 = .ok (.aload_n 0, 1) := by decide +kernel
theorem dX7_press_27 : decode cX7_press 27 = .ok (.getfield 47, 3) := by decide +kernel
theorem dX7_press_30 : decode cX7_press 30 = .ok (.aload_n 0, 1) := by decide +kernel
theorem dX7_press_31 : decode cX7_press 31 = .ok (.getfield 190, 3) := by decide +kernel
theorem dX7_press_34 : decode cX7_press 34 = .ok (.iload_n 1, 1) := by decide +kernel
theorem dX7_press_35 : decode cX7_press 35 = .ok (.iastore, 1) := by decide +kernel
theorem dX7_press_36 : decode cX7_press 36 = .ok (.aload_n 0, 1) := by decide +kernel
theorem dX7_press_37 : decode cX7_press 37 = .ok (.dup, 1) := by decide +kernel
theorem dX7_press_38 : decode cX7_press 38 = .ok (.getfield 190, 3) := by decide +kernel
theorem dX7_press_41 : decode cX7_press 41 = .ok (.iconst 1, 1) := by decide +kernel
theorem dX7_press_42 : decode cX7_press 42 = .ok (.iadd, 1) := by decide +kernel
theorem dX7_press_43 : decode cX7_press 43 = .ok (.putfield 190, 3) := by decide +kernel
theorem dX7_press_46 : decode cX7_press 46 = .ok (.aload_n 0, 1) := by decide +kernel
theorem dX7_press_47 : decode cX7_press 47 = .ok (.dup, 1) := by decide +kernel
theorem dX7_press_48 : decode cX7_press 48 = .ok (.getfield 211, 3) := by decide +kernel
theorem dX7_press_51 : decode cX7_press 51 = .ok (.iconst 1, 1) := by decide +kernel
theorem dX7_press_52 : decode cX7_press 52 = .ok (.iadd, 1) := by decide +kernel
theorem dX7_press_53 : decode cX7_press 53 = .ok (.putfield 211, 3) := by decide +kernel
theorem dX7_press_56 : decode cX7_press 56 = .ok (.aload_n 0, 1) := by decide +kernel
theorem dX7_press_57 : decode cX7_press 57 = .ok (.invokevirtual 202, 3) := by decide +kernel
theorem dX7_press_60 : decode cX7_press 60 = .ok (.aload_n 0, 1) := by decide +kernel
theorem dX7_press_61 : decode cX7_press 61 = .ok (.aload_n 0, 1) := by decide +kernel
theorem dX7_press_62 : decode cX7_press 62 = .ok (.getfield 190, 3) := by decide +kernel
theorem dX7_press_65 : decode cX7_press 65 = .ok (.invokevirtual 168, 3) := by decide +kernel
theorem dX7_press_68 : decode cX7_press 68 = .ok (.istore_n 2, 1) := by decide +kernel
theorem dX7_press_69 : decode cX7_press 69 = .ok (.aload_n 0, 1) := by decide +kernel
theorem dX7_press_70 : decode cX7_press 70 = .ok (.iload_n 2, 1) := by decide +kernel
theorem dX7_press_71 : decode cX7_press 71 = .ok (.invokevirtual 214, 3) := by decide +kernel
theorem dX7_press_74 : decode cX7_press 74 = .ok (.ifCond .eq 9, 3) := by decide +kernel
theorem dX7_press_77 : decode cX7_press 77 = .ok (.aload_n 0, 1) := by decide +kernel
theorem dX7_press_78 : decode cX7_press 78 = .ok (.iconst 4, 1) := by decide +kernel
theorem dX7_press_79 : decode cX7_press 79 = .ok (.invokevirtual 217, 3) := by decide +kernel
theorem dX7_press_82 : decode cX7_press 82 = .ok (.ireturn, 1) := by decide +kernel
theorem dX7_press_83 : decode cX7_press 83 = .ok (.aload_n 0, 1) := by decide +kernel
theorem dX7_press_84 : decode cX7_press 84 = .ok (.getfield 190, 3) := by decide +kernel
theorem dX7_press_87 : decode cX7_press 87 = .ok (.bipush 10, 2) := by decide +kernel
theorem dX7_press_89 : decode cX7_press 89 = .ok (.if_icmp .eq 14, 3) := by decide +kernel
theorem dX7_press_92 : decode cX7_press 92 = .ok (.aload_n 0, 1) := by decide +kernel
theorem dX7_press_93 : decode cX7_press 93 = .ok (.aload_n 0, 1) := by decide +kernel
theorem dX7_press_94 : decode cX7_press 94 = .ok (.getfield 190, 3) := by decide +kernel
theorem dX7_press_97 : decode cX7_press 97 = .ok (.invokevirtual 177, 3) := by decide +kernel
theorem dX7_press_100 : decode cX7_press 100 = .ok (.ifCond .ne 9, 3) := by decide +kernel
theorem dX7_press_103 : decode cX7_press 103 = .ok (.aload_n 0, 1) := by decide +kernel
theorem dX7_press_104 : decode cX7_press 104 = .ok (.iconst 1, 1) := by decide +kernel
theorem dX7_press_105 : decode cX7_press 105 = .ok (.invokevirtual 217, 3) := by decide +kernel
theorem dX7_press_108 : decode cX7_press 108 = .ok (.ireturn, 1) := by decide +kernel
theorem dX7_press_109 : decode cX7_press 109 = .ok (.aload_n 0, 1) := by decide +kernel
theorem dX7_press_110 : decode cX7_press 110 = .ok (.aload_n 0, 1) := by decide +kernel
theorem dX7_press_111 : decode cX7_press 111 = .ok (.getfield 35, 3) := by decide +kernel
theorem dX7_press_114 : decode cX7_press 114 = .ok (.iload_n 2, 1) := by decide +kernel
theorem dX7_press_115 : decode cX7_press 115 = .ok (.ifCond .ne 7, 3) := by decide +kernel
theorem dX7_press_118 : decode cX7_press 118 = .ok (.iconst 1, 1) := by decide +kernel
theorem dX7_press_119 : decode cX7_press 119 = .ok (.goto 4, 3) := by decide +kernel
theorem dX7_press_122 : decode cX7_press 122 = .ok (.iconst 2, 1) := by decide +kernel
theorem dX7_press_123 : decode cX7_press 123 = .ok (.iaload, 1) := by decide +kernel
theorem dX7_press_124 : decode cX7_press 124 = .ok (.putfield 196, 3) := by decide +kernel
theorem dX7_press_127 : decode cX7_press 127 = .ok (.iconst 1, 1) := by decide +kernel
theorem dX7_press_128 : decode cX7_press 128 = .ok (.ireturn, 1) := by decide +kernel
theorem dX7_pass_0 : decode cX7_pass 0 = .ok (.iload_n 1, 1) := by decide +kernel
theorem dX7_pass_1 : decode cX7_pass 1 = .ok (.iconst 1, 1) := by decide +kernel
theorem dX7_pass_2 : decode cX7_pass 2 = .ok (.bipush 99, 2) := by decide +kernel
theorem dX7_pass_4 : decode cX7_pass 4 = .ok (.invokestatic 50, 3) := by decide +kernel
theorem dX7_pass_7 : decode cX7_pass 7 = .ok (.ifCond .ne 7, 3) := by decide +kernel
theorem dX7_pass_10 : decode cX7_pass 10 = .ok (.sipush (-1002), 3) := by decide +kernel
theorem dX7_pass_13 : decode cX7_pass 13 = .ok (.ireturn, 1) := by decide +kernel
theorem dX7_pass_14 : decode cX7_pass 14 = .ok (.aload_n 0, 1) := by decide +kernel
theorem dX7_pass_15 : decode cX7_pass 15 = .ok (.getfield 106, 3) := by decide +kernel
theorem dX7_pass_18 : decode cX7_pass 18 = .ok (.iconst 1, 1) := by decide +kernel
theorem dX7_pass_19 : decode cX7_pass 19 = .ok (.if_icmp .eq 7, 3) := by decide +kernel
theorem dX7_pass_22 : decode cX7_pass 22 = .ok (.sipush (-1003), 3) := by decide +kernel
theorem dX7_pass_25 : decode cX7_pass 25 = .ok (.ireturn, 1) := by decide +kernel
theorem dX7_pass_26 : decode cX7_pass 26 = .ok (.aload_n 0, 1) := by decide +kernel
theorem dX7_pass_27 : decode cX7_pass 27 = .ok (.dup, 1) := by decide +kernel
theorem dX7_pass_28 : decode cX7_pass 28 = .ok (.getfield 196, 3) := by decide +kernel
theorem dX7_pass_31 : decode cX7_pass 31 = .ok (.iload_n 1, 1) := by decide +kernel
theorem dX7_pass_32 : decode cX7_pass 32 = .ok (.isub, 1) := by decide +kernel
theorem dX7_pass_33 : decode cX7_pass 33 = .ok (.putfield 196, 3) := by decide +kernel
theorem dX7_pass_36 : decode cX7_pass 36 = .ok (.aload_n 0, 1) := by decide +kernel
theorem dX7_pass_37 : decode cX7_pass 37 = .ok (.getfield 196, 3) := by decide +kernel
theorem dX7_pass_40 : decode cX7_pass 40 = .ok (.ifCond .gt 11, 3) := by decide +kernel
theorem dX7_pass_43 : decode cX7_pass 43 = .ok (.aload_n 0, 1) := by decide +kernel
theorem dX7_pass_44 : decode cX7_pass 44 = .ok (.iconst 2, 1) := by decide +kernel
theorem dX7_pass_45 : decode cX7_pass 45 = .ok (.invokevirtual 217, 3) := by decide +kernel
theorem dX7_pass_48 : decode cX7_pass 48 = .ok (.goto 4, 3) := by decide +kernel
theorem dX7_pass_51 : decode cX7_pass 51 = .ok (.iconst 1, 1) := by decide +kernel
theorem dX7_pass_52 : decode cX7_pass 52 = .ok (.ireturn, 1) := by decide +kernel
theorem dX7_end_0 : decode cX7_end 0 = .ok (.aload_n 0, 1) := by decide +kernel
theorem dX7_end_1 : decode cX7_end 1 = .ok (.getfield 106, 3) := by decide +kernel
theorem dX7_end_4 : decode cX7_end 4 = .ok (.iconst 1, 1) := by decide +kernel
theorem dX7_end_5 : decode cX7_end 5 = .ok (.if_icmp .ne 11, 3) := by decide +kernel
theorem dX7_end_8 : decode cX7_end 8 = .ok (.aload_n 0, 1) := by decide +kernel
theorem dX7_end_9 : decode cX7_end 9 = .ok (.iconst 3, 1) := by decide +kernel
theorem dX7_end_10 : decode cX7_end 10 = .ok (.invokevirtual 217, 3) := by decide +kernel
theorem dX7_end_13 : decode cX7_end 13 = .ok (.goto 6, 3) := by decide +kernel
theorem dX7_end_16 : decode cX7_end 16 = .ok (.sipush (-1003), 3) := by decide +kernel
theorem dX7_end_19 : decode cX7_end 19 = .ok (.ireturn, 1) := by decide +kernel
theorem dX7_stageNow_0 : decode cX7_stageNow 0 = .ok (.aload_n 0, 1) := by decide +kernel
theorem dX7_stageNow_1 : decode cX7_stageNow 1 = .ok (.invokevirtual 202, 3) := by decide +kernel
theorem dX7_stageNow_4 : decode cX7_stageNow 4 = .ok (.aload_n 0, 1) := by decide +kernel
theorem dX7_stageNow_5 : decode cX7_stageNow 5 = .ok (.getfield 190, 3) := by decide +kernel
theorem dX7_stageNow_8 : decode cX7_stageNow 8 = .ok (.ifCond .ne 7, 3) := by decide +kernel
theorem dX7_stageNow_11 : decode cX7_stageNow 11 = .ok (.iconst 0, 1) := by decide +kernel
theorem dX7_stageNow_12 : decode cX7_stageNow 12 = .ok (.goto 19, 3) := by decide +kernel
theorem dX7_stageNow_15 : decode cX7_stageNow 15 = .ok (.aload_n 0, 1) := by decide +kernel
theorem dX7_stageNow_16 : decode cX7_stageNow 16 = .ok (.aload_n 0, 1) := by decide +kernel
theorem dX7_stageNow_17 : decode cX7_stageNow 17 = .ok (.getfield 190, 3) := by decide +kernel
theorem dX7_stageNow_20 : decode cX7_stageNow 20 = .ok (.invokevirtual 168, 3) := by decide +kernel
theorem dX7_stageNow_23 : decode cX7_stageNow 23 = .ok (.ifCond .ne 7, 3) := by decide +kernel
theorem dX7_stageNow_26 : decode cX7_stageNow 26 = .ok (.iconst 1, 1) := by decide +kernel
theorem dX7_stageNow_27 : decode cX7_stageNow 27 = .ok (.goto 4, 3) := by decide +kernel
theorem dX7_stageNow_30 : decode cX7_stageNow 30 = .ok (.iconst 2, 1) := by decide +kernel
theorem dX7_stageNow_31 : decode cX7_stageNow 31 = .ok (.ireturn, 1) := by decide +kernel
theorem dX7_winsNow_0 : decode cX7_winsNow 0 = .ok (.aload_n 0, 1) := by decide +kernel
theorem dX7_winsNow_1 : decode cX7_winsNow 1 = .ok (.invokevirtual 202, 3) := by decide +kernel
theorem dX7_winsNow_4 : decode cX7_winsNow 4 = .ok (.aload_n 0, 1) := by decide +kernel
theorem dX7_winsNow_5 : decode cX7_winsNow 5 = .ok (.aload_n 0, 1) := by decide +kernel
theorem dX7_winsNow_6 : decode cX7_winsNow 6 = .ok (.getfield 193, 3) := by decide +kernel
theorem dX7_winsNow_9 : decode cX7_winsNow 9 = .ok (.iconst 4, 1) := by decide +kernel
theorem dX7_winsNow_10 : decode cX7_winsNow 10 = .ok (.if_icmp .ne 18, 3) := by decide +kernel
theorem dX7_winsNow_13 : decode cX7_winsNow 13 = .ok (.aload_n 0, 1) := by decide +kernel
theorem dX7_winsNow_14 : decode cX7_winsNow 14 = .ok (.aload_n 0, 1) := by decide +kernel
theorem dX7_winsNow_15 : decode cX7_winsNow 15 = .ok (.aload_n 0, 1) := by decide +kernel
theorem dX7_winsNow_16 : decode cX7_winsNow 16 = .ok (.getfield 190, 3) := by decide +kernel
theorem dX7_winsNow_19 : decode cX7_winsNow 19 = .ok (.invokevirtual 168, 3) := by decide +kernel
theorem dX7_winsNow_22 : decode cX7_winsNow 22 = .ok (.invokevirtual 214, 3) := by decide +kernel
theorem dX7_winsNow_25 : decode cX7_winsNow 25 = .ok (.goto 11, 3) := by decide +kernel
theorem dX7_winsNow_28 : decode cX7_winsNow 28 = .ok (.aload_n 0, 1) := by decide +kernel
theorem dX7_winsNow_29 : decode cX7_winsNow 29 = .ok (.aload_n 0, 1) := by decide +kernel
theorem dX7_winsNow_30 : decode cX7_winsNow 30 = .ok (.getfield 190, 3) := by decide +kernel
theorem dX7_winsNow_33 : decode cX7_winsNow 33 = .ok (.invokevirtual 168, 3) := by decide +kernel
theorem dX7_winsNow_36 : decode cX7_winsNow 36 = .ok (.invokevirtual 171, 3) := by decide +kernel
theorem dX7_winsNow_39 : decode cX7_winsNow 39 = .ok (.ireturn, 1) := by decide +kernel
theorem dX7_isSureBy_0 : decode cX7_isSureBy 0 = .ok (.aload_n 0, 1) := by decide +kernel
theorem dX7_isSureBy_1 : decode cX7_isSureBy 1 = .ok (.iload_n 1, 1) := by decide +kernel
theorem dX7_isSureBy_2 : decode cX7_isSureBy 2 = .ok (.invokevirtual 168, 3) := by decide +kernel
theorem dX7_isSureBy_5 : decode cX7_isSureBy 5 = .ok (.aload_n 0, 1) := by decide +kernel
theorem dX7_isSureBy_6 : decode cX7_isSureBy 6 = .ok (.iload_n 1, 1) := by decide +kernel
theorem dX7_isSureBy_7 : decode cX7_isSureBy 7 = .ok (.invokevirtual 177, 3) := by decide +kernel
theorem dX7_isSureBy_10 : decode cX7_isSureBy 10 = .ok (.ior, 1) := by decide +kernel
theorem dX7_isSureBy_11 : decode cX7_isSureBy 11 = .ok (.istore_n 2, 1) := by decide +kernel
theorem dX7_isSureBy_12 : decode cX7_isSureBy 12 = .ok (.iconst (-1), 1) := by decide +kernel
theorem dX7_isSureBy_13 : decode cX7_isSureBy 13 = .ok (.istore_n 3, 1) := by decide +kernel
theorem dX7_isSureBy_14 : decode cX7_isSureBy 14 = .ok (.iload_n 2, 1) := by decide +kernel
theorem dX7_isSureBy_15 : decode cX7_isSureBy 15 = .ok (.ifCond .eq 7, 3) := by decide +kernel
theorem dX7_isSureBy_18 : decode cX7_isSureBy 18 = .ok (.iconst 1, 1) := by decide +kernel
theorem dX7_isSureBy_19 : decode cX7_isSureBy 19 = .ok (.goto 4, 3) := by decide +kernel
theorem dX7_isSureBy_22 : decode cX7_isSureBy 22 = .ok (.iconst 0, 1) := by decide +kernel
theorem dX7_isSureBy_23 : decode cX7_isSureBy 23 = .ok (.istore 4, 2) := by decide +kernel
theorem dX7_isSureBy_25 : decode cX7_isSureBy 25 = .ok (.iconst 0, 1) := by decide +kernel
theorem dX7_isSureBy_26 : decode cX7_isSureBy 26 = .ok (.istore 5, 2) := by decide +kernel
theorem dX7_isSureBy_28 : decode cX7_isSureBy 28 = .ok (.iload 5, 2) := by decide +kernel
theorem dX7_isSureBy_30 : decode cX7_isSureBy 30 = .ok (.aload_n 0, 1) := by decide +kernel
theorem dX7_isSureBy_31 : decode cX7_isSureBy 31 = .ok (.getfield 109, 3) := by decide +kernel
theorem dX7_isSureBy_34 : decode cX7_isSureBy 34 = .ok (.if_icmp .ge 58, 3) := by decide +kernel
theorem dX7_isSureBy_37 : decode cX7_isSureBy 37 = .ok (.iload_n 2, 1) := by decide +kernel
theorem dX7_isSureBy_38 : decode cX7_isSureBy 38 = .ok (.iload 5, 2) := by decide +kernel
theorem dX7_isSureBy_40 : decode cX7_isSureBy 40 = .ok (.ishr, 1) := by decide +kernel
theorem dX7_isSureBy_41 : decode cX7_isSureBy 41 = .ok (.iconst 1, 1) := by decide +kernel
theorem dX7_isSureBy_42 : decode cX7_isSureBy 42 = .ok (.iand, 1) := by decide +kernel
theorem dX7_isSureBy_43 : decode cX7_isSureBy 43 = .ok (.iconst 1, 1) := by decide +kernel
theorem dX7_isSureBy_44 : decode cX7_isSureBy 44 = .ok (.if_icmp .ne 42, 3) := by decide +kernel
theorem dX7_isSureBy_47 : decode cX7_isSureBy 47 = .ok (.iload 4, 2) := by decide +kernel
theorem dX7_isSureBy_49 : decode cX7_isSureBy 49 = .ok (.ifCond .eq 22, 3) := by decide +kernel
theorem dX7_isSureBy_52 : decode cX7_isSureBy 52 = .ok (.iload_n 3, 1) := by decide +kernel
theorem dX7_isSureBy_53 : decode cX7_isSureBy 53 = .ok (.iconst (-1), 1) := by decide +kernel
theorem dX7_isSureBy_54 : decode cX7_isSureBy 54 = .ok (.if_icmp .eq 13, 3) := by decide +kernel
theorem dX7_isSureBy_57 : decode cX7_isSureBy 57 = .ok (.aload_n 0, 1) := by decide +kernel
theorem dX7_isSureBy_58 : decode cX7_isSureBy 58 = .ok (.iload_n 3, 1) := by decide +kernel
theorem dX7_isSureBy_59 : decode cX7_isSureBy 59 = .ok (.iload 5, 2) := by decide +kernel
theorem dX7_isSureBy_61 : decode cX7_isSureBy 61 = .ok (.invokevirtual 143, 3) := by decide +kernel
theorem dX7_isSureBy_64 : decode cX7_isSureBy 64 = .ok (.ifCond .eq 7, 3) := by decide +kernel
theorem dX7_isSureBy_67 : decode cX7_isSureBy 67 = .ok (.iconst 1, 1) := by decide +kernel
theorem dX7_isSureBy_68 : decode cX7_isSureBy 68 = .ok (.goto 4, 3) := by decide +kernel
theorem dX7_isSureBy_71 : decode cX7_isSureBy 71 = .ok (.iconst 0, 1) := by decide +kernel
theorem dX7_isSureBy_72 : decode cX7_isSureBy 72 = .ok (.istore 4, 2) := by decide +kernel
theorem dX7_isSureBy_74 : decode cX7_isSureBy 74 = .ok (.iload_n 3, 1) := by decide +kernel
theorem dX7_isSureBy_75 : decode cX7_isSureBy 75 = .ok (.iconst (-1), 1) := by decide +kernel
theorem dX7_isSureBy_76 : decode cX7_isSureBy 76 = .ok (.if_icmp .ne 8, 3) := by decide +kernel
theorem dX7_isSureBy_79 : decode cX7_isSureBy 79 = .ok (.iload 5, 2) := by decide +kernel
theorem dX7_isSureBy_81 : decode cX7_isSureBy 81 = .ok (.goto 4, 3) := by decide +kernel
theorem dX7_isSureBy_84 : decode cX7_isSureBy 84 = .ok (.iload_n 3, 1) := by decide +kernel
theorem dX7_isSureBy_85 : decode cX7_isSureBy 85 = .ok (.istore_n 3, 1) := by decide +kernel
theorem dX7_isSureBy_86 : decode cX7_isSureBy 86 = .ok (.iinc 5 1, 3) := by decide +kernel
theorem dX7_isSureBy_89 : decode cX7_isSureBy 89 = .ok (.goto (-61), 3) := by decide +kernel
theorem dX7_isSureBy_92 : decode cX7_isSureBy 92 = .ok (.iload 4, 2) := by decide +kernel
theorem dX7_isSureBy_94 : decode cX7_isSureBy 94 = .ok (.ireturn, 1) := by decide +kernel
theorem dX7_sureNow_0 : decode cX7_sureNow 0 = .ok (.aload_n 0, 1) := by decide +kernel
theorem dX7_sureNow_1 : decode cX7_sureNow 1 = .ok (.invokevirtual 202, 3) := by decide +kernel
theorem dX7_sureNow_4 : decode cX7_sureNow 4 = .ok (.iconst (-1), 1) := by decide +kernel
theorem dX7_sureNow_5 : decode cX7_sureNow 5 = .ok (.istore_n 1, 1) := by decide +kernel
theorem dX7_sureNow_6 : decode cX7_sureNow 6 = .ok (.aload_n 0, 1) := by decide +kernel
theorem dX7_sureNow_7 : decode cX7_sureNow 7 = .ok (.getfield 190, 3) := by decide +kernel
theorem dX7_sureNow_10 : decode cX7_sureNow 10 = .ok (.istore_n 2, 1) := by decide +kernel
theorem dX7_sureNow_11 : decode cX7_sureNow 11 = .ok (.iload_n 2, 1) := by decide +kernel
theorem dX7_sureNow_12 : decode cX7_sureNow 12 = .ok (.ifCond .lt 23, 3) := by decide +kernel
theorem dX7_sureNow_15 : decode cX7_sureNow 15 = .ok (.aload_n 0, 1) := by decide +kernel
theorem dX7_sureNow_16 : decode cX7_sureNow 16 = .ok (.iload_n 2, 1) := by decide +kernel
theorem dX7_sureNow_17 : decode cX7_sureNow 17 = .ok (.invokevirtual 220, 3) := by decide +kernel
theorem dX7_sureNow_20 : decode cX7_sureNow 20 = .ok (.ifCond .eq 7, 3) := by decide +kernel
theorem dX7_sureNow_23 : decode cX7_sureNow 23 = .ok (.iload_n 2, 1) := by decide +kernel
theorem dX7_sureNow_24 : decode cX7_sureNow 24 = .ok (.goto 4, 3) := by decide +kernel
theorem dX7_sureNow_27 : decode cX7_sureNow 27 = .ok (.iload_n 1, 1) := by decide +kernel
theorem dX7_sureNow_28 : decode cX7_sureNow 28 = .ok (.istore_n 1, 1) := by decide +kernel
theorem dX7_sureNow_29 : decode cX7_sureNow 29 = .ok (.iinc 2 (-1), 3) := by decide +kernel
theorem dX7_sureNow_32 : decode cX7_sureNow 32 = .ok (.goto (-21), 3) := by decide +kernel
theorem dX7_sureNow_35 : decode cX7_sureNow 35 = .ok (.iload_n 1, 1) := by decide +kernel
theorem dX7_sureNow_36 : decode cX7_sureNow 36 = .ok (.ireturn, 1) := by decide +kernel
theorem dX7_wayNow_0 : decode cX7_wayNow 0 = .ok (.aload_n 0, 1) := by decide +kernel
theorem dX7_wayNow_1 : decode cX7_wayNow 1 = .ok (.invokevirtual 202, 3) := by decide +kernel
theorem dX7_wayNow_4 : decode cX7_wayNow 4 = .ok (.aload_n 0, 1) := by decide +kernel
theorem dX7_wayNow_5 : decode cX7_wayNow 5 = .ok (.getfield 193, 3) := by decide +kernel
theorem dX7_wayNow_8 : decode cX7_wayNow 8 = .ok (.iconst 4, 1) := by decide +kernel
theorem dX7_wayNow_9 : decode cX7_wayNow 9 = .ok (.if_icmp .ne 8, 3) := by decide +kernel
theorem dX7_wayNow_12 : decode cX7_wayNow 12 = .ok (.bipush 9, 2) := by decide +kernel
theorem dX7_wayNow_14 : decode cX7_wayNow 14 = .ok (.goto 7, 3) := by decide +kernel
theorem dX7_wayNow_17 : decode cX7_wayNow 17 = .ok (.aload_n 0, 1) := by decide +kernel
theorem dX7_wayNow_18 : decode cX7_wayNow 18 = .ok (.invokevirtual 180, 3) := by decide +kernel
theorem dX7_wayNow_21 : decode cX7_wayNow 21 = .ok (.ireturn, 1) := by decide +kernel
theorem dX7_lineNow_0 : decode cX7_lineNow 0 = .ok (.iload_n 1, 1) := by decide +kernel
theorem dX7_lineNow_1 : decode cX7_lineNow 1 = .ok (.tableswitch 135 0 7 #[47, 52, 57, 74, 91, 108, 113, 118], 47) := by decide +kernel
theorem dX7_lineNow_48 : decode cX7_lineNow 48 = .ok (.aload_n 0, 1) := by decide +kernel
theorem dX7_lineNow_49 : decode cX7_lineNow 49 = .ok (.getfield 106, 3) := by decide +kernel
theorem dX7_lineNow_52 : decode cX7_lineNow 52 = .ok (.ireturn, 1) := by decide +kernel
theorem dX7_lineNow_53 : decode cX7_lineNow 53 = .ok (.aload_n 0, 1) := by decide +kernel
theorem dX7_lineNow_54 : decode cX7_lineNow 54 = .ok (.getfield 190, 3) := by decide +kernel
theorem dX7_lineNow_57 : decode cX7_lineNow 57 = .ok (.ireturn, 1) := by decide +kernel
theorem dX7_lineNow_58 : decode cX7_lineNow 58 = .ok (.aload_n 0, 1) := by decide +kernel
theorem dX7_lineNow_59 : decode cX7_lineNow 59 = .ok (.getfield 106, 3) := by decide +kernel
theorem dX7_lineNow_62 : decode cX7_lineNow 62 = .ok (.iconst 1, 1) := by decide +kernel
theorem dX7_lineNow_63 : decode cX7_lineNow 63 = .ok (.if_icmp .ne 10, 3) := by decide +kernel
theorem dX7_lineNow_66 : decode cX7_lineNow 66 = .ok (.aload_n 0, 1) := by decide +kernel
theorem dX7_lineNow_67 : decode cX7_lineNow 67 = .ok (.getfield 196, 3) := by decide +kernel
theorem dX7_lineNow_70 : decode cX7_lineNow 70 = .ok (.goto 4, 3) := by decide +kernel
theorem dX7_lineNow_73 : decode cX7_lineNow 73 = .ok (.iconst 0, 1) := by decide +kernel
theorem dX7_lineNow_74 : decode cX7_lineNow 74 = .ok (.ireturn, 1) := by decide +kernel
theorem dX7_lineNow_75 : decode cX7_lineNow 75 = .ok (.aload_n 0, 1) := by decide +kernel
theorem dX7_lineNow_76 : decode cX7_lineNow 76 = .ok (.getfield 106, 3) := by decide +kernel
theorem dX7_lineNow_79 : decode cX7_lineNow 79 = .ok (.iconst 1, 1) := by decide +kernel
theorem dX7_lineNow_80 : decode cX7_lineNow 80 = .ok (.if_icmp .ne 10, 3) := by decide +kernel
theorem dX7_lineNow_83 : decode cX7_lineNow 83 = .ok (.aload_n 0, 1) := by decide +kernel
theorem dX7_lineNow_84 : decode cX7_lineNow 84 = .ok (.invokevirtual 223, 3) := by decide +kernel
theorem dX7_lineNow_87 : decode cX7_lineNow 87 = .ok (.goto 4, 3) := by decide +kernel
theorem dX7_lineNow_90 : decode cX7_lineNow 90 = .ok (.iconst (-1), 1) := by decide +kernel
theorem dX7_lineNow_91 : decode cX7_lineNow 91 = .ok (.ireturn, 1) := by decide +kernel
theorem dX7_lineNow_92 : decode cX7_lineNow 92 = .ok (.aload_n 0, 1) := by decide +kernel
theorem dX7_lineNow_93 : decode cX7_lineNow 93 = .ok (.getfield 106, 3) := by decide +kernel
theorem dX7_lineNow_96 : decode cX7_lineNow 96 = .ok (.iconst 2, 1) := by decide +kernel
theorem dX7_lineNow_97 : decode cX7_lineNow 97 = .ok (.if_icmp .ne 10, 3) := by decide +kernel
theorem dX7_lineNow_100 : decode cX7_lineNow 100 = .ok (.aload_n 0, 1) := by decide +kernel
theorem dX7_lineNow_101 : decode cX7_lineNow 101 = .ok (.invokevirtual 226, 3) := by decide +kernel
theorem dX7_lineNow_104 : decode cX7_lineNow 104 = .ok (.goto 4, 3) := by decide +kernel
theorem dX7_lineNow_107 : decode cX7_lineNow 107 = .ok (.iconst (-1), 1) := by decide +kernel
theorem dX7_lineNow_108 : decode cX7_lineNow 108 = .ok (.ireturn, 1) := by decide +kernel
theorem dX7_lineNow_109 : decode cX7_lineNow 109 = .ok (.aload_n 0, 1) := by decide +kernel
theorem dX7_lineNow_110 : decode cX7_lineNow 110 = .ok (.invokevirtual 229, 3) := by decide +kernel
theorem dX7_lineNow_113 : decode cX7_lineNow 113 = .ok (.ireturn, 1) := by decide +kernel
theorem dX7_lineNow_114 : decode cX7_lineNow 114 = .ok (.aload_n 0, 1) := by decide +kernel
theorem dX7_lineNow_115 : decode cX7_lineNow 115 = .ok (.getfield 193, 3) := by decide +kernel
theorem dX7_lineNow_118 : decode cX7_lineNow 118 = .ok (.ireturn, 1) := by decide +kernel
theorem dX7_lineNow_119 : decode cX7_lineNow 119 = .ok (.aload_n 0, 1) := by decide +kernel
theorem dX7_lineNow_120 : decode cX7_lineNow 120 = .ok (.getfield 106, 3) := by decide +kernel
theorem dX7_lineNow_123 : decode cX7_lineNow 123 = .ok (.iconst 2, 1) := by decide +kernel
theorem dX7_lineNow_124 : decode cX7_lineNow 124 = .ok (.if_icmp .ne 10, 3) := by decide +kernel
theorem dX7_lineNow_127 : decode cX7_lineNow 127 = .ok (.aload_n 0, 1) := by decide +kernel
theorem dX7_lineNow_128 : decode cX7_lineNow 128 = .ok (.invokevirtual 232, 3) := by decide +kernel
theorem dX7_lineNow_131 : decode cX7_lineNow 131 = .ok (.goto 4, 3) := by decide +kernel
theorem dX7_lineNow_134 : decode cX7_lineNow 134 = .ok (.iconst (-1), 1) := by decide +kernel
theorem dX7_lineNow_135 : decode cX7_lineNow 135 = .ok (.ireturn, 1) := by decide +kernel
theorem dX7_lineNow_136 : decode cX7_lineNow 136 = .ok (.iload_n 1, 1) := by decide +kernel
theorem dX7_lineNow_137 : decode cX7_lineNow 137 = .ok (.bipush 10, 2) := by decide +kernel
theorem dX7_lineNow_139 : decode cX7_lineNow 139 = .ok (.isub, 1) := by decide +kernel
theorem dX7_lineNow_140 : decode cX7_lineNow 140 = .ok (.aload_n 0, 1) := by decide +kernel
theorem dX7_lineNow_141 : decode cX7_lineNow 141 = .ok (.getfield 190, 3) := by decide +kernel
theorem dX7_lineNow_144 : decode cX7_lineNow 144 = .ok (.if_icmp .ge 15, 3) := by decide +kernel
theorem dX7_lineNow_147 : decode cX7_lineNow 147 = .ok (.aload_n 0, 1) := by decide +kernel
theorem dX7_lineNow_148 : decode cX7_lineNow 148 = .ok (.getfield 47, 3) := by decide +kernel
theorem dX7_lineNow_151 : decode cX7_lineNow 151 = .ok (.iload_n 1, 1) := by decide +kernel
theorem dX7_lineNow_152 : decode cX7_lineNow 152 = .ok (.bipush 10, 2) := by decide +kernel
theorem dX7_lineNow_154 : decode cX7_lineNow 154 = .ok (.isub, 1) := by decide +kernel
theorem dX7_lineNow_155 : decode cX7_lineNow 155 = .ok (.iaload, 1) := by decide +kernel
theorem dX7_lineNow_156 : decode cX7_lineNow 156 = .ok (.goto 4, 3) := by decide +kernel
theorem dX7_lineNow_159 : decode cX7_lineNow 159 = .ok (.iconst (-1), 1) := by decide +kernel
theorem dX7_lineNow_160 : decode cX7_lineNow 160 = .ok (.ireturn, 1) := by decide +kernel
theorem dX7_line_0 : decode cX7_line 0 = .ok (.iload_n 1, 1) := by decide +kernel
theorem dX7_line_1 : decode cX7_line 1 = .ok (.iconst 0, 1) := by decide +kernel
theorem dX7_line_2 : decode cX7_line 2 = .ok (.bipush 7, 2) := by decide +kernel
theorem dX7_line_4 : decode cX7_line 4 = .ok (.invokestatic 50, 3) := by decide +kernel
theorem dX7_line_7 : decode cX7_line 7 = .ok (.ifCond .ne 14, 3) := by decide +kernel
theorem dX7_line_10 : decode cX7_line 10 = .ok (.iload_n 1, 1) := by decide +kernel
theorem dX7_line_11 : decode cX7_line 11 = .ok (.bipush 10, 2) := by decide +kernel
theorem dX7_line_13 : decode cX7_line 13 = .ok (.bipush 19, 2) := by decide +kernel
theorem dX7_line_15 : decode cX7_line 15 = .ok (.invokestatic 50, 3) := by decide +kernel
theorem dX7_line_18 : decode cX7_line 18 = .ok (.ifCond .eq 11, 3) := by decide +kernel
theorem dX7_line_21 : decode cX7_line 21 = .ok (.aload_n 0, 1) := by decide +kernel
theorem dX7_line_22 : decode cX7_line 22 = .ok (.iload_n 1, 1) := by decide +kernel
theorem dX7_line_23 : decode cX7_line 23 = .ok (.invokevirtual 235, 3) := by decide +kernel
theorem dX7_line_26 : decode cX7_line 26 = .ok (.goto 6, 3) := by decide +kernel
theorem dX7_line_29 : decode cX7_line 29 = .ok (.sipush (-1002), 3) := by decide +kernel
theorem dX7_line_32 : decode cX7_line 32 = .ok (.ireturn, 1) := by decide +kernel
theorem dX7_howMany_0 : decode cX7_howMany 0 = .ok (.iload_n 1, 1) := by decide +kernel
theorem dX7_howMany_1 : decode cX7_howMany 1 = .ok (.tableswitch 99 0 9 #[55, 60, 65, 70, 70, 70, 79, 84, 89, 94], 55) := by decide +kernel
theorem dX7_howMany_56 : decode cX7_howMany 56 = .ok (.aload_n 0, 1) := by decide +kernel
theorem dX7_howMany_57 : decode cX7_howMany 57 = .ok (.getfield 109, 3) := by decide +kernel
theorem dX7_howMany_60 : decode cX7_howMany 60 = .ok (.ireturn, 1) := by decide +kernel
theorem dX7_howMany_61 : decode cX7_howMany 61 = .ok (.aload_n 0, 1) := by decide +kernel
theorem dX7_howMany_62 : decode cX7_howMany 62 = .ok (.getfield 54, 3) := by decide +kernel
theorem dX7_howMany_65 : decode cX7_howMany 65 = .ok (.ireturn, 1) := by decide +kernel
theorem dX7_howMany_66 : decode cX7_howMany 66 = .ok (.aload_n 0, 1) := by decide +kernel
theorem dX7_howMany_67 : decode cX7_howMany 67 = .ok (.invokevirtual 238, 3) := by decide +kernel
theorem dX7_howMany_70 : decode cX7_howMany 70 = .ok (.ireturn, 1) := by decide +kernel
theorem dX7_howMany_71 : decode cX7_howMany 71 = .ok (.aload_n 0, 1) := by decide +kernel
theorem dX7_howMany_72 : decode cX7_howMany 72 = .ok (.getfield 35, 3) := by decide +kernel
theorem dX7_howMany_75 : decode cX7_howMany 75 = .ok (.iload_n 1, 1) := by decide +kernel
theorem dX7_howMany_76 : decode cX7_howMany 76 = .ok (.iconst 3, 1) := by decide +kernel
theorem dX7_howMany_77 : decode cX7_howMany 77 = .ok (.isub, 1) := by decide +kernel
theorem dX7_howMany_78 : decode cX7_howMany 78 = .ok (.iaload, 1) := by decide +kernel
theorem dX7_howMany_79 : decode cX7_howMany 79 = .ok (.ireturn, 1) := by decide +kernel
theorem dX7_howMany_80 : decode cX7_howMany 80 = .ok (.aload_n 0, 1) := by decide +kernel
theorem dX7_howMany_81 : decode cX7_howMany 81 = .ok (.getfield 199, 3) := by decide +kernel
theorem dX7_howMany_84 : decode cX7_howMany 84 = .ok (.ireturn, 1) := by decide +kernel
theorem dX7_howMany_85 : decode cX7_howMany 85 = .ok (.aload_n 0, 1) := by decide +kernel
theorem dX7_howMany_86 : decode cX7_howMany 86 = .ok (.getfield 205, 3) := by decide +kernel
theorem dX7_howMany_89 : decode cX7_howMany 89 = .ok (.ireturn, 1) := by decide +kernel
theorem dX7_howMany_90 : decode cX7_howMany 90 = .ok (.aload_n 0, 1) := by decide +kernel
theorem dX7_howMany_91 : decode cX7_howMany 91 = .ok (.getfield 208, 3) := by decide +kernel
theorem dX7_howMany_94 : decode cX7_howMany 94 = .ok (.ireturn, 1) := by decide +kernel
theorem dX7_howMany_95 : decode cX7_howMany 95 = .ok (.aload_n 0, 1) := by decide +kernel
theorem dX7_howMany_96 : decode cX7_howMany 96 = .ok (.getfield 211, 3) := by decide +kernel
theorem dX7_howMany_99 : decode cX7_howMany 99 = .ok (.ireturn, 1) := by decide +kernel
theorem dX7_howMany_100 : decode cX7_howMany 100 = .ok (.sipush (-1002), 3) := by decide +kernel
theorem dX7_howMany_103 : decode cX7_howMany 103 = .ok (.ireturn, 1) := by decide +kernel
theorem dX7_count_0 : decode cX7_count 0 = .ok (.aload_n 0, 1) := by decide +kernel
theorem dX7_count_1 : decode cX7_count 1 = .ok (.iload_n 1, 1) := by decide +kernel
theorem dX7_count_2 : decode cX7_count 2 = .ok (.invokevirtual 241, 3) := by decide +kernel
theorem dX7_count_5 : decode cX7_count 5 = .ok (.ireturn, 1) := by decide +kernel
theorem dX7_mix_0 : decode cX7_mix 0 = .ok (.aload_n 0, 1) := by decide +kernel
theorem dX7_mix_1 : decode cX7_mix 1 = .ok (.ldc2_w 244, 3) := by decide +kernel
theorem dX7_mix_4 : decode cX7_mix 4 = .ok (.aload_n 0, 1) := by decide +kernel
theorem dX7_mix_5 : decode cX7_mix 5 = .ok (.getfield 246, 3) := by decide +kernel
theorem dX7_mix_8 : decode cX7_mix 8 = .ok (.lmul, 1) := by decide +kernel
theorem dX7_mix_9 : decode cX7_mix 9 = .ok (.lload_n 1, 1) := by decide +kernel
theorem dX7_mix_10 : decode cX7_mix 10 = .ok (.ladd, 1) := by decide +kernel
theorem dX7_mix_11 : decode cX7_mix 11 = .ok (.putfield 246, 3) := by decide +kernel
theorem dX7_mix_14 : decode cX7_mix 14 = .ok (.return_, 1) := by decide +kernel
theorem dX7_digest_0 : decode cX7_digest 0 = .ok (.aload_n 0, 1) := by decide +kernel
theorem dX7_digest_1 : decode cX7_digest 1 = .ok (.ldc2_w 250, 3) := by decide +kernel
theorem dX7_digest_4 : decode cX7_digest 4 = .ok (.putfield 246, 3) := by decide +kernel
theorem dX7_digest_7 : decode cX7_digest 7 = .ok (.iconst 0, 1) := by decide +kernel
theorem dX7_digest_8 : decode cX7_digest 8 = .ok (.istore_n 1, 1) := by decide +kernel
theorem dX7_digest_9 : decode cX7_digest 9 = .ok (.iload_n 1, 1) := by decide +kernel
theorem dX7_digest_10 : decode cX7_digest 10 = .ok (.aload_n 0, 1) := by decide +kernel
theorem dX7_digest_11 : decode cX7_digest 11 = .ok (.getfield 109, 3) := by decide +kernel
theorem dX7_digest_14 : decode cX7_digest 14 = .ok (.if_icmp .ge 59, 3) := by decide +kernel
theorem dX7_digest_17 : decode cX7_digest 17 = .ok (.iconst 0, 1) := by decide +kernel
theorem dX7_digest_18 : decode cX7_digest 18 = .ok (.istore_n 2, 1) := by decide +kernel
theorem dX7_digest_19 : decode cX7_digest 19 = .ok (.iload_n 2, 1) := by decide +kernel
theorem dX7_digest_20 : decode cX7_digest 20 = .ok (.bipush 6, 2) := by decide +kernel
theorem dX7_digest_22 : decode cX7_digest 22 = .ok (.if_icmp .ge 20, 3) := by decide +kernel
theorem dX7_digest_25 : decode cX7_digest 25 = .ok (.aload_n 0, 1) := by decide +kernel
theorem dX7_digest_26 : decode cX7_digest 26 = .ok (.aload_n 0, 1) := by decide +kernel
theorem dX7_digest_27 : decode cX7_digest 27 = .ok (.iload_n 1, 1) := by decide +kernel
theorem dX7_digest_28 : decode cX7_digest 28 = .ok (.iload_n 2, 1) := by decide +kernel
theorem dX7_digest_29 : decode cX7_digest 29 = .ok (.invokevirtual 127, 3) := by decide +kernel
theorem dX7_digest_32 : decode cX7_digest 32 = .ok (.i2l, 1) := by decide +kernel
theorem dX7_digest_33 : decode cX7_digest 33 = .ok (.invokevirtual 252, 3) := by decide +kernel
theorem dX7_digest_36 : decode cX7_digest 36 = .ok (.iinc 2 1, 3) := by decide +kernel
theorem dX7_digest_39 : decode cX7_digest 39 = .ok (.goto (-20), 3) := by decide +kernel
theorem dX7_digest_42 : decode cX7_digest 42 = .ok (.iconst 0, 1) := by decide +kernel
theorem dX7_digest_43 : decode cX7_digest 43 = .ok (.istore_n 2, 1) := by decide +kernel
theorem dX7_digest_44 : decode cX7_digest 44 = .ok (.iload_n 2, 1) := by decide +kernel
theorem dX7_digest_45 : decode cX7_digest 45 = .ok (.bipush 10, 2) := by decide +kernel
theorem dX7_digest_47 : decode cX7_digest 47 = .ok (.if_icmp .ge 20, 3) := by decide +kernel
theorem dX7_digest_50 : decode cX7_digest 50 = .ok (.aload_n 0, 1) := by decide +kernel
theorem dX7_digest_51 : decode cX7_digest 51 = .ok (.aload_n 0, 1) := by decide +kernel
theorem dX7_digest_52 : decode cX7_digest 52 = .ok (.iload_n 1, 1) := by decide +kernel
theorem dX7_digest_53 : decode cX7_digest 53 = .ok (.iload_n 2, 1) := by decide +kernel
theorem dX7_digest_54 : decode cX7_digest 54 = .ok (.invokevirtual 131, 3) := by decide +kernel
theorem dX7_digest_57 : decode cX7_digest 57 = .ok (.i2l, 1) := by decide +kernel
theorem dX7_digest_58 : decode cX7_digest 58 = .ok (.invokevirtual 252, 3) := by decide +kernel
theorem dX7_digest_61 : decode cX7_digest 61 = .ok (.iinc 2 1, 3) := by decide +kernel
theorem dX7_digest_64 : decode cX7_digest 64 = .ok (.goto (-20), 3) := by decide +kernel
theorem dX7_digest_67 : decode cX7_digest 67 = .ok (.iinc 1 1, 3) := by decide +kernel
theorem dX7_digest_70 : decode cX7_digest 70 = .ok (.goto (-61), 3) := by decide +kernel
theorem dX7_digest_73 : decode cX7_digest 73 = .ok (.iconst 0, 1) := by decide +kernel
theorem dX7_digest_74 : decode cX7_digest 74 = .ok (.istore_n 1, 1) := by decide +kernel
theorem dX7_digest_75 : decode cX7_digest 75 = .ok (.aload_n 0, 1) := by decide +kernel
theorem dX7_digest_76 : decode cX7_digest 76 = .ok (.iload_n 1, 1) := by decide +kernel
theorem dX7_digest_77 : decode cX7_digest 77 = .ok (.invokevirtual 150, 3) := by decide +kernel
theorem dX7_digest_80 : decode cX7_digest 80 = .ok (.iconst (-1), 1) := by decide +kernel
theorem dX7_digest_81 : decode cX7_digest 81 = .ok (.if_icmp .eq 19, 3) := by decide +kernel
theorem dX7_digest_84 : decode cX7_digest 84 = .ok (.aload_n 0, 1) := by decide +kernel
theorem dX7_digest_85 : decode cX7_digest 85 = .ok (.aload_n 0, 1) := by decide +kernel
theorem dX7_digest_86 : decode cX7_digest 86 = .ok (.iload_n 1, 1) := by decide +kernel
theorem dX7_digest_87 : decode cX7_digest 87 = .ok (.invokevirtual 150, 3) := by decide +kernel
theorem dX7_digest_90 : decode cX7_digest 90 = .ok (.i2l, 1) := by decide +kernel
theorem dX7_digest_91 : decode cX7_digest 91 = .ok (.invokevirtual 252, 3) := by decide +kernel
theorem dX7_digest_94 : decode cX7_digest 94 = .ok (.iinc 1 1, 3) := by decide +kernel
theorem dX7_digest_97 : decode cX7_digest 97 = .ok (.goto (-22), 3) := by decide +kernel
theorem dX7_digest_100 : decode cX7_digest 100 = .ok (.iconst 0, 1) := by decide +kernel
theorem dX7_digest_101 : decode cX7_digest 101 = .ok (.istore_n 1, 1) := by decide +kernel
theorem dX7_digest_102 : decode cX7_digest 102 = .ok (.iload_n 1, 1) := by decide +kernel
theorem dX7_digest_103 : decode cX7_digest 103 = .ok (.bipush 8, 2) := by decide +kernel
theorem dX7_digest_105 : decode cX7_digest 105 = .ok (.if_icmp .ge 19, 3) := by decide +kernel
theorem dX7_digest_108 : decode cX7_digest 108 = .ok (.aload_n 0, 1) := by decide +kernel
theorem dX7_digest_109 : decode cX7_digest 109 = .ok (.aload_n 0, 1) := by decide +kernel
theorem dX7_digest_110 : decode cX7_digest 110 = .ok (.iload_n 1, 1) := by decide +kernel
theorem dX7_digest_111 : decode cX7_digest 111 = .ok (.invokevirtual 235, 3) := by decide +kernel
theorem dX7_digest_114 : decode cX7_digest 114 = .ok (.i2l, 1) := by decide +kernel
theorem dX7_digest_115 : decode cX7_digest 115 = .ok (.invokevirtual 252, 3) := by decide +kernel
theorem dX7_digest_118 : decode cX7_digest 118 = .ok (.iinc 1 1, 3) := by decide +kernel
theorem dX7_digest_121 : decode cX7_digest 121 = .ok (.goto (-19), 3) := by decide +kernel
theorem dX7_digest_124 : decode cX7_digest 124 = .ok (.bipush 10, 2) := by decide +kernel
theorem dX7_digest_126 : decode cX7_digest 126 = .ok (.istore_n 1, 1) := by decide +kernel
theorem dX7_digest_127 : decode cX7_digest 127 = .ok (.iload_n 1, 1) := by decide +kernel
theorem dX7_digest_128 : decode cX7_digest 128 = .ok (.bipush 20, 2) := by decide +kernel
theorem dX7_digest_130 : decode cX7_digest 130 = .ok (.if_icmp .ge 19, 3) := by decide +kernel
theorem dX7_digest_133 : decode cX7_digest 133 = .ok (.aload_n 0, 1) := by decide +kernel
theorem dX7_digest_134 : decode cX7_digest 134 = .ok (.aload_n 0, 1) := by decide +kernel
theorem dX7_digest_135 : decode cX7_digest 135 = .ok (.iload_n 1, 1) := by decide +kernel
theorem dX7_digest_136 : decode cX7_digest 136 = .ok (.invokevirtual 235, 3) := by decide +kernel
theorem dX7_digest_139 : decode cX7_digest 139 = .ok (.i2l, 1) := by decide +kernel
theorem dX7_digest_140 : decode cX7_digest 140 = .ok (.invokevirtual 252, 3) := by decide +kernel
theorem dX7_digest_143 : decode cX7_digest 143 = .ok (.iinc 1 1, 3) := by decide +kernel
theorem dX7_digest_146 : decode cX7_digest 146 = .ok (.goto (-19), 3) := by decide +kernel
theorem dX7_digest_149 : decode cX7_digest 149 = .ok (.iconst 0, 1) := by decide +kernel
theorem dX7_digest_150 : decode cX7_digest 150 = .ok (.istore_n 1, 1) := by decide +kernel
theorem dX7_digest_151 : decode cX7_digest 151 = .ok (.iload_n 1, 1) := by decide +kernel
theorem dX7_digest_152 : decode cX7_digest 152 = .ok (.aload_n 0, 1) := by decide +kernel
theorem dX7_digest_153 : decode cX7_digest 153 = .ok (.getfield 54, 3) := by decide +kernel
theorem dX7_digest_156 : decode cX7_digest 156 = .ok (.if_icmp .ge 20, 3) := by decide +kernel
theorem dX7_digest_159 : decode cX7_digest 159 = .ok (.aload_n 0, 1) := by decide +kernel
theorem dX7_digest_160 : decode cX7_digest 160 = .ok (.aload_n 0, 1) := by decide +kernel
theorem dX7_digest_161 : decode cX7_digest 161 = .ok (.getfield 7, 3) := by decide +kernel
theorem dX7_digest_164 : decode cX7_digest 164 = .ok (.iload_n 1, 1) := by decide +kernel
theorem dX7_digest_165 : decode cX7_digest 165 = .ok (.iaload, 1) := by decide +kernel
theorem dX7_digest_166 : decode cX7_digest 166 = .ok (.i2l, 1) := by decide +kernel
theorem dX7_digest_167 : decode cX7_digest 167 = .ok (.invokevirtual 252, 3) := by decide +kernel
theorem dX7_digest_170 : decode cX7_digest 170 = .ok (.iinc 1 1, 3) := by decide +kernel
theorem dX7_digest_173 : decode cX7_digest 173 = .ok (.goto (-22), 3) := by decide +kernel
theorem dX7_digest_176 : decode cX7_digest 176 = .ok (.iconst 0, 1) := by decide +kernel
theorem dX7_digest_177 : decode cX7_digest 177 = .ok (.istore_n 1, 1) := by decide +kernel
theorem dX7_digest_178 : decode cX7_digest 178 = .ok (.iload_n 1, 1) := by decide +kernel
theorem dX7_digest_179 : decode cX7_digest 179 = .ok (.bipush 10, 2) := by decide +kernel
theorem dX7_digest_181 : decode cX7_digest 181 = .ok (.if_icmp .ge 19, 3) := by decide +kernel
theorem dX7_digest_184 : decode cX7_digest 184 = .ok (.aload_n 0, 1) := by decide +kernel
theorem dX7_digest_185 : decode cX7_digest 185 = .ok (.aload_n 0, 1) := by decide +kernel
theorem dX7_digest_186 : decode cX7_digest 186 = .ok (.iload_n 1, 1) := by decide +kernel
theorem dX7_digest_187 : decode cX7_digest 187 = .ok (.invokevirtual 241, 3) := by decide +kernel
theorem dX7_digest_190 : decode cX7_digest 190 = .ok (.i2l, 1) := by decide +kernel
theorem dX7_digest_191 : decode cX7_digest 191 = .ok (.invokevirtual 252, 3) := by decide +kernel
theorem dX7_digest_194 : decode cX7_digest 194 = .ok (.iinc 1 1, 3) := by decide +kernel
theorem dX7_digest_197 : decode cX7_digest 197 = .ok (.goto (-19), 3) := by decide +kernel
theorem dX7_digest_200 : decode cX7_digest 200 = .ok (.aload_n 0, 1) := by decide +kernel
theorem dX7_digest_201 : decode cX7_digest 201 = .ok (.getfield 246, 3) := by decide +kernel
theorem dX7_digest_204 : decode cX7_digest 204 = .ok (.lreturn, 1) := by decide +kernel
theorem dJ6_bitCount_0f7a4_0 : decode cJ6_bitCount_0f7a4 0 = .ok (.iload_n 0, 1) := by decide +kernel
theorem dJ6_bitCount_0f7a4_1 : decode cJ6_bitCount_0f7a4 1 = .ok (.iload_n 0, 1) := by decide +kernel
theorem dJ6_bitCount_0f7a4_2 : decode cJ6_bitCount_0f7a4 2 = .ok (.iconst 1, 1) := by decide +kernel
theorem dJ6_bitCount_0f7a4_3 : decode cJ6_bitCount_0f7a4 3 = .ok (.iushr, 1) := by decide +kernel
theorem dJ6_bitCount_0f7a4_4 : decode cJ6_bitCount_0f7a4 4 = .ok (.ldc_w 265, 3) := by decide +kernel
theorem dJ6_bitCount_0f7a4_7 : decode cJ6_bitCount_0f7a4 7 = .ok (.iand, 1) := by decide +kernel
theorem dJ6_bitCount_0f7a4_8 : decode cJ6_bitCount_0f7a4 8 = .ok (.isub, 1) := by decide +kernel
theorem dJ6_bitCount_0f7a4_9 : decode cJ6_bitCount_0f7a4 9 = .ok (.istore_n 0, 1) := by decide +kernel
theorem dJ6_bitCount_0f7a4_10 : decode cJ6_bitCount_0f7a4 10 = .ok (.iload_n 0, 1) := by decide +kernel
theorem dJ6_bitCount_0f7a4_11 : decode cJ6_bitCount_0f7a4 11 = .ok (.ldc_w 266, 3) := by decide +kernel
theorem dJ6_bitCount_0f7a4_14 : decode cJ6_bitCount_0f7a4 14 = .ok (.iand, 1) := by decide +kernel
theorem dJ6_bitCount_0f7a4_15 : decode cJ6_bitCount_0f7a4 15 = .ok (.iload_n 0, 1) := by decide +kernel
theorem dJ6_bitCount_0f7a4_16 : decode cJ6_bitCount_0f7a4 16 = .ok (.iconst 2, 1) := by decide +kernel
theorem dJ6_bitCount_0f7a4_17 : decode cJ6_bitCount_0f7a4 17 = .ok (.iushr, 1) := by decide +kernel
theorem dJ6_bitCount_0f7a4_18 : decode cJ6_bitCount_0f7a4 18 = .ok (.ldc_w 266, 3) := by decide +kernel
theorem dJ6_bitCount_0f7a4_21 : decode cJ6_bitCount_0f7a4 21 = .ok (.iand, 1) := by decide +kernel
theorem dJ6_bitCount_0f7a4_22 : decode cJ6_bitCount_0f7a4 22 = .ok (.iadd, 1) := by decide +kernel
theorem dJ6_bitCount_0f7a4_23 : decode cJ6_bitCount_0f7a4 23 = .ok (.istore_n 0, 1) := by decide +kernel
theorem dJ6_bitCount_0f7a4_24 : decode cJ6_bitCount_0f7a4 24 = .ok (.iload_n 0, 1) := by decide +kernel
theorem dJ6_bitCount_0f7a4_25 : decode cJ6_bitCount_0f7a4 25 = .ok (.iload_n 0, 1) := by decide +kernel
theorem dJ6_bitCount_0f7a4_26 : decode cJ6_bitCount_0f7a4 26 = .ok (.iconst 4, 1) := by decide +kernel
theorem dJ6_bitCount_0f7a4_27 : decode cJ6_bitCount_0f7a4 27 = .ok (.iushr, 1) := by decide +kernel
theorem dJ6_bitCount_0f7a4_28 : decode cJ6_bitCount_0f7a4 28 = .ok (.iadd, 1) := by decide +kernel
theorem dJ6_bitCount_0f7a4_29 : decode cJ6_bitCount_0f7a4 29 = .ok (.ldc_w 267, 3) := by decide +kernel
theorem dJ6_bitCount_0f7a4_32 : decode cJ6_bitCount_0f7a4 32 = .ok (.iand, 1) := by decide +kernel
theorem dJ6_bitCount_0f7a4_33 : decode cJ6_bitCount_0f7a4 33 = .ok (.istore_n 0, 1) := by decide +kernel
theorem dJ6_bitCount_0f7a4_34 : decode cJ6_bitCount_0f7a4 34 = .ok (.iload_n 0, 1) := by decide +kernel
theorem dJ6_bitCount_0f7a4_35 : decode cJ6_bitCount_0f7a4 35 = .ok (.iload_n 0, 1) := by decide +kernel
theorem dJ6_bitCount_0f7a4_36 : decode cJ6_bitCount_0f7a4 36 = .ok (.bipush 8, 2) := by decide +kernel
theorem dJ6_bitCount_0f7a4_38 : decode cJ6_bitCount_0f7a4 38 = .ok (.iushr, 1) := by decide +kernel
theorem dJ6_bitCount_0f7a4_39 : decode cJ6_bitCount_0f7a4 39 = .ok (.iadd, 1) := by decide +kernel
theorem dJ6_bitCount_0f7a4_40 : decode cJ6_bitCount_0f7a4 40 = .ok (.istore_n 0, 1) := by decide +kernel
theorem dJ6_bitCount_0f7a4_41 : decode cJ6_bitCount_0f7a4 41 = .ok (.iload_n 0, 1) := by decide +kernel
theorem dJ6_bitCount_0f7a4_42 : decode cJ6_bitCount_0f7a4 42 = .ok (.iload_n 0, 1) := by decide +kernel
theorem dJ6_bitCount_0f7a4_43 : decode cJ6_bitCount_0f7a4 43 = .ok (.bipush 16, 2) := by decide +kernel
theorem dJ6_bitCount_0f7a4_45 : decode cJ6_bitCount_0f7a4 45 = .ok (.iushr, 1) := by decide +kernel
theorem dJ6_bitCount_0f7a4_46 : decode cJ6_bitCount_0f7a4 46 = .ok (.iadd, 1) := by decide +kernel
theorem dJ6_bitCount_0f7a4_47 : decode cJ6_bitCount_0f7a4 47 = .ok (.istore_n 0, 1) := by decide +kernel
theorem dJ6_bitCount_0f7a4_48 : decode cJ6_bitCount_0f7a4 48 = .ok (.iload_n 0, 1) := by decide +kernel
theorem dJ6_bitCount_0f7a4_49 : decode cJ6_bitCount_0f7a4 49 = .ok (.bipush 63, 2) := by decide +kernel
theorem dJ6_bitCount_0f7a4_51 : decode cJ6_bitCount_0f7a4 51 = .ok (.iand, 1) := by decide +kernel
theorem dJ6_bitCount_0f7a4_52 : decode cJ6_bitCount_0f7a4 52 = .ok (.ireturn, 1) := by decide +kernel
theorem dJ9_max_7cf53_0 : decode cJ9_max_7cf53 0 = .ok (.iload_n 0, 1) := by decide +kernel
theorem dJ9_max_7cf53_1 : decode cJ9_max_7cf53 1 = .ok (.iload_n 1, 1) := by decide +kernel
theorem dJ9_max_7cf53_2 : decode cJ9_max_7cf53 2 = .ok (.if_icmp .lt 7, 3) := by decide +kernel
theorem dJ9_max_7cf53_5 : decode cJ9_max_7cf53 5 = .ok (.iload_n 0, 1) := by decide +kernel
theorem dJ9_max_7cf53_6 : decode cJ9_max_7cf53 6 = .ok (.goto 4, 3) := by decide +kernel
theorem dJ9_max_7cf53_9 : decode cJ9_max_7cf53 9 = .ok (.iload_n 1, 1) := by decide +kernel
theorem dJ9_max_7cf53_10 : decode cJ9_max_7cf53 10 = .ok (.ireturn, 1) := by decide +kernel
theorem dL_law_0 : decode cL_law 0 = .ok (.new 7, 3) := by decide +kernel
theorem dL_law_3 : decode cL_law 3 = .ok (.dup, 1) := by decide +kernel
theorem dL_law_4 : decode cL_law 4 = .ok (.invokespecial 9, 3) := by decide +kernel
theorem dL_law_7 : decode cL_law 7 = .ok (.astore_n 1, 1) := by decide +kernel
theorem dL_law_8 : decode cL_law 8 = .ok (.new 10, 3) := by decide +kernel
theorem dL_law_11 : decode cL_law 11 = .ok (.dup, 1) := by decide +kernel
theorem dL_law_12 : decode cL_law 12 = .ok (.invokespecial 12, 3) := by decide +kernel
theorem dL_law_15 : decode cL_law 15 = .ok (.astore_n 2, 1) := by decide +kernel
theorem dL_law_16 : decode cL_law 16 = .ok (.iconst 0, 1) := by decide +kernel
theorem dL_law_17 : decode cL_law 17 = .ok (.istore_n 3, 1) := by decide +kernel
theorem dL_law_18 : decode cL_law 18 = .ok (.iload_n 3, 1) := by decide +kernel
theorem dL_law_19 : decode cL_law 19 = .ok (.aload_n 0, 1) := by decide +kernel
theorem dL_law_20 : decode cL_law 20 = .ok (.arraylength, 1) := by decide +kernel
theorem dL_law_21 : decode cL_law 21 = .ok (.iconst 3, 1) := by decide +kernel
theorem dL_law_22 : decode cL_law 22 = .ok (.isub, 1) := by decide +kernel
theorem dL_law_23 : decode cL_law 23 = .ok (.if_icmp .gt 515, 3) := by decide +kernel
theorem dL_law_26 : decode cL_law 26 = .ok (.aload_n 0, 1) := by decide +kernel
theorem dL_law_27 : decode cL_law 27 = .ok (.iload_n 3, 1) := by decide +kernel
theorem dL_law_28 : decode cL_law 28 = .ok (.iaload, 1) := by decide +kernel
theorem dL_law_29 : decode cL_law 29 = .ok (.bipush 31, 2) := by decide +kernel
theorem dL_law_31 : decode cL_law 31 = .ok (.iand, 1) := by decide +kernel
theorem dL_law_32 : decode cL_law 32 = .ok (.tableswitch 500 0 18 #[92, 115, 128, 141, 154, 177, 210, 243, 276, 299, 322, 355, 368, 381, 404, 427, 440, 463, 486], 92) := by decide +kernel
theorem dL_law_124 : decode cL_law 124 = .ok (.aload_n 1, 1) := by decide +kernel
theorem dL_law_125 : decode cL_law 125 = .ok (.aload_n 0, 1) := by decide +kernel
theorem dL_law_126 : decode cL_law 126 = .ok (.iload_n 3, 1) := by decide +kernel
theorem dL_law_127 : decode cL_law 127 = .ok (.iconst 1, 1) := by decide +kernel
theorem dL_law_128 : decode cL_law 128 = .ok (.iadd, 1) := by decide +kernel
theorem dL_law_129 : decode cL_law 129 = .ok (.iaload, 1) := by decide +kernel
theorem dL_law_130 : decode cL_law 130 = .ok (.invokevirtual 13, 3) := by decide +kernel
theorem dL_law_133 : decode cL_law 133 = .ok (.aload_n 2, 1) := by decide +kernel
theorem dL_law_134 : decode cL_law 134 = .ok (.aload_n 0, 1) := by decide +kernel
theorem dL_law_135 : decode cL_law 135 = .ok (.iload_n 3, 1) := by decide +kernel
theorem dL_law_136 : decode cL_law 136 = .ok (.iconst 1, 1) := by decide +kernel
theorem dL_law_137 : decode cL_law 137 = .ok (.iadd, 1) := by decide +kernel
theorem dL_law_138 : decode cL_law 138 = .ok (.iaload, 1) := by decide +kernel
theorem dL_law_139 : decode cL_law 139 = .ok (.invokevirtual 17, 3) := by decide +kernel
theorem dL_law_142 : decode cL_law 142 = .ok (.if_icmp .eq 390, 3) := by decide +kernel
theorem dL_law_145 : decode cL_law 145 = .ok (.iconst 0, 1) := by decide +kernel
theorem dL_law_146 : decode cL_law 146 = .ok (.ireturn, 1) := by decide +kernel
theorem dL_law_147 : decode cL_law 147 = .ok (.aload_n 1, 1) := by decide +kernel
theorem dL_law_148 : decode cL_law 148 = .ok (.invokevirtual 18, 3) := by decide +kernel
theorem dL_law_151 : decode cL_law 151 = .ok (.aload_n 2, 1) := by decide +kernel
theorem dL_law_152 : decode cL_law 152 = .ok (.invokevirtual 22, 3) := by decide +kernel
theorem dL_law_155 : decode cL_law 155 = .ok (.if_icmp .eq 377, 3) := by decide +kernel
theorem dL_law_158 : decode cL_law 158 = .ok (.iconst 0, 1) := by decide +kernel
theorem dL_law_159 : decode cL_law 159 = .ok (.ireturn, 1) := by decide +kernel
theorem dL_law_160 : decode cL_law 160 = .ok (.aload_n 1, 1) := by decide +kernel
theorem dL_law_161 : decode cL_law 161 = .ok (.invokevirtual 23, 3) := by decide +kernel
theorem dL_law_164 : decode cL_law 164 = .ok (.aload_n 2, 1) := by decide +kernel
theorem dL_law_165 : decode cL_law 165 = .ok (.invokevirtual 26, 3) := by decide +kernel
theorem dL_law_168 : decode cL_law 168 = .ok (.if_icmp .eq 364, 3) := by decide +kernel
theorem dL_law_171 : decode cL_law 171 = .ok (.iconst 0, 1) := by decide +kernel
theorem dL_law_172 : decode cL_law 172 = .ok (.ireturn, 1) := by decide +kernel
theorem dL_law_173 : decode cL_law 173 = .ok (.aload_n 1, 1) := by decide +kernel
theorem dL_law_174 : decode cL_law 174 = .ok (.invokevirtual 27, 3) := by decide +kernel
theorem dL_law_177 : decode cL_law 177 = .ok (.aload_n 2, 1) := by decide +kernel
theorem dL_law_178 : decode cL_law 178 = .ok (.invokevirtual 30, 3) := by decide +kernel
theorem dL_law_181 : decode cL_law 181 = .ok (.if_icmp .eq 351, 3) := by decide +kernel
theorem dL_law_184 : decode cL_law 184 = .ok (.iconst 0, 1) := by decide +kernel
theorem dL_law_185 : decode cL_law 185 = .ok (.ireturn, 1) := by decide +kernel
theorem dL_law_186 : decode cL_law 186 = .ok (.aload_n 1, 1) := by decide +kernel
theorem dL_law_187 : decode cL_law 187 = .ok (.aload_n 0, 1) := by decide +kernel
theorem dL_law_188 : decode cL_law 188 = .ok (.iload_n 3, 1) := by decide +kernel
theorem dL_law_189 : decode cL_law 189 = .ok (.iconst 1, 1) := by decide +kernel
theorem dL_law_190 : decode cL_law 190 = .ok (.iadd, 1) := by decide +kernel
theorem dL_law_191 : decode cL_law 191 = .ok (.iaload, 1) := by decide +kernel
theorem dL_law_192 : decode cL_law 192 = .ok (.invokevirtual 31, 3) := by decide +kernel
theorem dL_law_195 : decode cL_law 195 = .ok (.aload_n 2, 1) := by decide +kernel
theorem dL_law_196 : decode cL_law 196 = .ok (.aload_n 0, 1) := by decide +kernel
theorem dL_law_197 : decode cL_law 197 = .ok (.iload_n 3, 1) := by decide +kernel
theorem dL_law_198 : decode cL_law 198 = .ok (.iconst 1, 1) := by decide +kernel
theorem dL_law_199 : decode cL_law 199 = .ok (.iadd, 1) := by decide +kernel
theorem dL_law_200 : decode cL_law 200 = .ok (.iaload, 1) := by decide +kernel
theorem dL_law_201 : decode cL_law 201 = .ok (.invokevirtual 34, 3) := by decide +kernel
theorem dL_law_204 : decode cL_law 204 = .ok (.if_icmp .eq 328, 3) := by decide +kernel
theorem dL_law_207 : decode cL_law 207 = .ok (.iconst 0, 1) := by decide +kernel
theorem dL_law_208 : decode cL_law 208 = .ok (.ireturn, 1) := by decide +kernel
theorem dL_law_209 : decode cL_law 209 = .ok (.aload_n 1, 1) := by decide +kernel
theorem dL_law_210 : decode cL_law 210 = .ok (.aload_n 0, 1) := by decide +kernel
theorem dL_law_211 : decode cL_law 211 = .ok (.iload_n 3, 1) := by decide +kernel
theorem dL_law_212 : decode cL_law 212 = .ok (.iconst 1, 1) := by decide +kernel
theorem dL_law_213 : decode cL_law 213 = .ok (.iadd, 1) := by decide +kernel
theorem dL_law_214 : decode cL_law 214 = .ok (.iaload, 1) := by decide +kernel
theorem dL_law_215 : decode cL_law 215 = .ok (.aload_n 0, 1) := by decide +kernel
theorem dL_law_216 : decode cL_law 216 = .ok (.iload_n 3, 1) := by decide +kernel
theorem dL_law_217 : decode cL_law 217 = .ok (.iconst 2, 1) := by decide +kernel
theorem dL_law_218 : decode cL_law 218 = .ok (.iadd, 1) := by decide +kernel
theorem dL_law_219 : decode cL_law 219 = .ok (.iaload, 1) := by decide +kernel
theorem dL_law_220 : decode cL_law 220 = .ok (.invokevirtual 35, 3) := by decide +kernel
theorem dL_law_223 : decode cL_law 223 = .ok (.aload_n 2, 1) := by decide +kernel
theorem dL_law_224 : decode cL_law 224 = .ok (.aload_n 0, 1) := by decide +kernel
theorem dL_law_225 : decode cL_law 225 = .ok (.iload_n 3, 1) := by decide +kernel
theorem dL_law_226 : decode cL_law 226 = .ok (.iconst 1, 1) := by decide +kernel
theorem dL_law_227 : decode cL_law 227 = .ok (.iadd, 1) := by decide +kernel
theorem dL_law_228 : decode cL_law 228 = .ok (.iaload, 1) := by decide +kernel
theorem dL_law_229 : decode cL_law 229 = .ok (.aload_n 0, 1) := by decide +kernel
theorem dL_law_230 : decode cL_law 230 = .ok (.iload_n 3, 1) := by decide +kernel
theorem dL_law_231 : decode cL_law 231 = .ok (.iconst 2, 1) := by decide +kernel
theorem dL_law_232 : decode cL_law 232 = .ok (.iadd, 1) := by decide +kernel
theorem dL_law_233 : decode cL_law 233 = .ok (.iaload, 1) := by decide +kernel
theorem dL_law_234 : decode cL_law 234 = .ok (.invokevirtual 39, 3) := by decide +kernel
theorem dL_law_237 : decode cL_law 237 = .ok (.if_icmp .eq 295, 3) := by decide +kernel
theorem dL_law_240 : decode cL_law 240 = .ok (.iconst 0, 1) := by decide +kernel
theorem dL_law_241 : decode cL_law 241 = .ok (.ireturn, 1) := by decide +kernel
theorem dL_law_242 : decode cL_law 242 = .ok (.aload_n 1, 1) := by decide +kernel
theorem dL_law_243 : decode cL_law 243 = .ok (.aload_n 0, 1) := by decide +kernel
theorem dL_law_244 : decode cL_law 244 = .ok (.iload_n 3, 1) := by decide +kernel
theorem dL_law_245 : decode cL_law 245 = .ok (.iconst 1, 1) := by decide +kernel
theorem dL_law_246 : decode cL_law 246 = .ok (.iadd, 1) := by decide +kernel
theorem dL_law_247 : decode cL_law 247 = .ok (.iaload, 1) := by decide +kernel
theorem dL_law_248 : decode cL_law 248 = .ok (.aload_n 0, 1) := by decide +kernel
theorem dL_law_249 : decode cL_law 249 = .ok (.iload_n 3, 1) := by decide +kernel
theorem dL_law_250 : decode cL_law 250 = .ok (.iconst 2, 1) := by decide +kernel
theorem dL_law_251 : decode cL_law 251 = .ok (.iadd, 1) := by decide +kernel
theorem dL_law_252 : decode cL_law 252 = .ok (.iaload, 1) := by decide +kernel
theorem dL_law_253 : decode cL_law 253 = .ok (.invokevirtual 40, 3) := by decide +kernel
theorem dL_law_256 : decode cL_law 256 = .ok (.aload_n 2, 1) := by decide +kernel
theorem dL_law_257 : decode cL_law 257 = .ok (.aload_n 0, 1) := by decide +kernel
theorem dL_law_258 : decode cL_law 258 = .ok (.iload_n 3, 1) := by decide +kernel
theorem dL_law_259 : decode cL_law 259 = .ok (.iconst 1, 1) := by decide +kernel
theorem dL_law_260 : decode cL_law 260 = .ok (.iadd, 1) := by decide +kernel
theorem dL_law_261 : decode cL_law 261 = .ok (.iaload, 1) := by decide +kernel
theorem dL_law_262 : decode cL_law 262 = .ok (.aload_n 0, 1) := by decide +kernel
theorem dL_law_263 : decode cL_law 263 = .ok (.iload_n 3, 1) := by decide +kernel
theorem dL_law_264 : decode cL_law 264 = .ok (.iconst 2, 1) := by decide +kernel
theorem dL_law_265 : decode cL_law 265 = .ok (.iadd, 1) := by decide +kernel
theorem dL_law_266 : decode cL_law 266 = .ok (.iaload, 1) := by decide +kernel
theorem dL_law_267 : decode cL_law 267 = .ok (.invokevirtual 43, 3) := by decide +kernel
theorem dL_law_270 : decode cL_law 270 = .ok (.if_icmp .eq 262, 3) := by decide +kernel
theorem dL_law_273 : decode cL_law 273 = .ok (.iconst 0, 1) := by decide +kernel
theorem dL_law_274 : decode cL_law 274 = .ok (.ireturn, 1) := by decide +kernel
theorem dL_law_275 : decode cL_law 275 = .ok (.aload_n 1, 1) := by decide +kernel
theorem dL_law_276 : decode cL_law 276 = .ok (.aload_n 0, 1) := by decide +kernel
theorem dL_law_277 : decode cL_law 277 = .ok (.iload_n 3, 1) := by decide +kernel
theorem dL_law_278 : decode cL_law 278 = .ok (.iconst 1, 1) := by decide +kernel
theorem dL_law_279 : decode cL_law 279 = .ok (.iadd, 1) := by decide +kernel
theorem dL_law_280 : decode cL_law 280 = .ok (.iaload, 1) := by decide +kernel
theorem dL_law_281 : decode cL_law 281 = .ok (.aload_n 0, 1) := by decide +kernel
theorem dL_law_282 : decode cL_law 282 = .ok (.iload_n 3, 1) := by decide +kernel
theorem dL_law_283 : decode cL_law 283 = .ok (.iconst 2, 1) := by decide +kernel
theorem dL_law_284 : decode cL_law 284 = .ok (.iadd, 1) := by decide +kernel
theorem dL_law_285 : decode cL_law 285 = .ok (.iaload, 1) := by decide +kernel
theorem dL_law_286 : decode cL_law 286 = .ok (.invokevirtual 44, 3) := by decide +kernel
theorem dL_law_289 : decode cL_law 289 = .ok (.aload_n 2, 1) := by decide +kernel
theorem dL_law_290 : decode cL_law 290 = .ok (.aload_n 0, 1) := by decide +kernel
theorem dL_law_291 : decode cL_law 291 = .ok (.iload_n 3, 1) := by decide +kernel
theorem dL_law_292 : decode cL_law 292 = .ok (.iconst 1, 1) := by decide +kernel
theorem dL_law_293 : decode cL_law 293 = .ok (.iadd, 1) := by decide +kernel
theorem dL_law_294 : decode cL_law 294 = .ok (.iaload, 1) := by decide +kernel
theorem dL_law_295 : decode cL_law 295 = .ok (.aload_n 0, 1) := by decide +kernel
theorem dL_law_296 : decode cL_law 296 = .ok (.iload_n 3, 1) := by decide +kernel
theorem dL_law_297 : decode cL_law 297 = .ok (.iconst 2, 1) := by decide +kernel
theorem dL_law_298 : decode cL_law 298 = .ok (.iadd, 1) := by decide +kernel
theorem dL_law_299 : decode cL_law 299 = .ok (.iaload, 1) := by decide +kernel
theorem dL_law_300 : decode cL_law 300 = .ok (.invokevirtual 47, 3) := by decide +kernel
theorem dL_law_303 : decode cL_law 303 = .ok (.if_icmp .eq 229, 3) := by decide +kernel
theorem dL_law_306 : decode cL_law 306 = .ok (.iconst 0, 1) := by decide +kernel
theorem dL_law_307 : decode cL_law 307 = .ok (.ireturn, 1) := by decide +kernel
theorem dL_law_308 : decode cL_law 308 = .ok (.aload_n 1, 1) := by decide +kernel
theorem dL_law_309 : decode cL_law 309 = .ok (.aload_n 0, 1) := by decide +kernel
theorem dL_law_310 : decode cL_law 310 = .ok (.iload_n 3, 1) := by decide +kernel
theorem dL_law_311 : decode cL_law 311 = .ok (.iconst 1, 1) := by decide +kernel
theorem dL_law_312 : decode cL_law 312 = .ok (.iadd, 1) := by decide +kernel
theorem dL_law_313 : decode cL_law 313 = .ok (.iaload, 1) := by decide +kernel
theorem dL_law_314 : decode cL_law 314 = .ok (.invokevirtual 48, 3) := by decide +kernel
theorem dL_law_317 : decode cL_law 317 = .ok (.aload_n 2, 1) := by decide +kernel
theorem dL_law_318 : decode cL_law 318 = .ok (.aload_n 0, 1) := by decide +kernel
theorem dL_law_319 : decode cL_law 319 = .ok (.iload_n 3, 1) := by decide +kernel
theorem dL_law_320 : decode cL_law 320 = .ok (.iconst 1, 1) := by decide +kernel
theorem dL_law_321 : decode cL_law 321 = .ok (.iadd, 1) := by decide +kernel
theorem dL_law_322 : decode cL_law 322 = .ok (.iaload, 1) := by decide +kernel
theorem dL_law_323 : decode cL_law 323 = .ok (.invokevirtual 51, 3) := by decide +kernel
theorem dL_law_326 : decode cL_law 326 = .ok (.if_icmp .eq 206, 3) := by decide +kernel
theorem dL_law_329 : decode cL_law 329 = .ok (.iconst 0, 1) := by decide +kernel
theorem dL_law_330 : decode cL_law 330 = .ok (.ireturn, 1) := by decide +kernel
theorem dL_law_331 : decode cL_law 331 = .ok (.aload_n 1, 1) := by decide +kernel
theorem dL_law_332 : decode cL_law 332 = .ok (.aload_n 0, 1) := by decide +kernel
theorem dL_law_333 : decode cL_law 333 = .ok (.iload_n 3, 1) := by decide +kernel
theorem dL_law_334 : decode cL_law 334 = .ok (.iconst 1, 1) := by decide +kernel
theorem dL_law_335 : decode cL_law 335 = .ok (.iadd, 1) := by decide +kernel
theorem dL_law_336 : decode cL_law 336 = .ok (.iaload, 1) := by decide +kernel
theorem dL_law_337 : decode cL_law 337 = .ok (.invokevirtual 52, 3) := by decide +kernel
theorem dL_law_340 : decode cL_law 340 = .ok (.aload_n 2, 1) := by decide +kernel
theorem dL_law_341 : decode cL_law 341 = .ok (.aload_n 0, 1) := by decide +kernel
theorem dL_law_342 : decode cL_law 342 = .ok (.iload_n 3, 1) := by decide +kernel
theorem dL_law_343 : decode cL_law 343 = .ok (.iconst 1, 1) := by decide +kernel
theorem dL_law_344 : decode cL_law 344 = .ok (.iadd, 1) := by decide +kernel
theorem dL_law_345 : decode cL_law 345 = .ok (.iaload, 1) := by decide +kernel
theorem dL_law_346 : decode cL_law 346 = .ok (.invokevirtual 55, 3) := by decide +kernel
theorem dL_law_349 : decode cL_law 349 = .ok (.if_icmp .eq 183, 3) := by decide +kernel
theorem dL_law_352 : decode cL_law 352 = .ok (.iconst 0, 1) := by decide +kernel
theorem dL_law_353 : decode cL_law 353 = .ok (.ireturn, 1) := by decide +kernel
theorem dL_law_354 : decode cL_law 354 = .ok (.aload_n 1, 1) := by decide +kernel
theorem dL_law_355 : decode cL_law 355 = .ok (.aload_n 0, 1) := by decide +kernel
theorem dL_law_356 : decode cL_law 356 = .ok (.iload_n 3, 1) := by decide +kernel
theorem dL_law_357 : decode cL_law 357 = .ok (.iconst 1, 1) := by decide +kernel
theorem dL_law_358 : decode cL_law 358 = .ok (.iadd, 1) := by decide +kernel
theorem dL_law_359 : decode cL_law 359 = .ok (.iaload, 1) := by decide +kernel
theorem dL_law_360 : decode cL_law 360 = .ok (.aload_n 0, 1) := by decide +kernel
theorem dL_law_361 : decode cL_law 361 = .ok (.iload_n 3, 1) := by decide +kernel
theorem dL_law_362 : decode cL_law 362 = .ok (.iconst 2, 1) := by decide +kernel
theorem dL_law_363 : decode cL_law 363 = .ok (.iadd, 1) := by decide +kernel
theorem dL_law_364 : decode cL_law 364 = .ok (.iaload, 1) := by decide +kernel
theorem dL_law_365 : decode cL_law 365 = .ok (.invokevirtual 56, 3) := by decide +kernel
theorem dL_law_368 : decode cL_law 368 = .ok (.aload_n 2, 1) := by decide +kernel
theorem dL_law_369 : decode cL_law 369 = .ok (.aload_n 0, 1) := by decide +kernel
theorem dL_law_370 : decode cL_law 370 = .ok (.iload_n 3, 1) := by decide +kernel
theorem dL_law_371 : decode cL_law 371 = .ok (.iconst 1, 1) := by decide +kernel
theorem dL_law_372 : decode cL_law 372 = .ok (.iadd, 1) := by decide +kernel
theorem dL_law_373 : decode cL_law 373 = .ok (.iaload, 1) := by decide +kernel
theorem dL_law_374 : decode cL_law 374 = .ok (.aload_n 0, 1) := by decide +kernel
theorem dL_law_375 : decode cL_law 375 = .ok (.iload_n 3, 1) := by decide +kernel
theorem dL_law_376 : decode cL_law 376 = .ok (.iconst 2, 1) := by decide +kernel
theorem dL_law_377 : decode cL_law 377 = .ok (.iadd, 1) := by decide +kernel
theorem dL_law_378 : decode cL_law 378 = .ok (.iaload, 1) := by decide +kernel
theorem dL_law_379 : decode cL_law 379 = .ok (.invokevirtual 59, 3) := by decide +kernel
theorem dL_law_382 : decode cL_law 382 = .ok (.if_icmp .eq 150, 3) := by decide +kernel
theorem dL_law_385 : decode cL_law 385 = .ok (.iconst 0, 1) := by decide +kernel
theorem dL_law_386 : decode cL_law 386 = .ok (.ireturn, 1) := by decide +kernel
theorem dL_law_387 : decode cL_law 387 = .ok (.aload_n 1, 1) := by decide +kernel
theorem dL_law_388 : decode cL_law 388 = .ok (.invokevirtual 60, 3) := by decide +kernel
theorem dL_law_391 : decode cL_law 391 = .ok (.aload_n 2, 1) := by decide +kernel
theorem dL_law_392 : decode cL_law 392 = .ok (.invokevirtual 63, 3) := by decide +kernel
theorem dL_law_395 : decode cL_law 395 = .ok (.if_icmp .eq 137, 3) := by decide +kernel
theorem dL_law_398 : decode cL_law 398 = .ok (.iconst 0, 1) := by decide +kernel
theorem dL_law_399 : decode cL_law 399 = .ok (.ireturn, 1) := by decide +kernel
theorem dL_law_400 : decode cL_law 400 = .ok (.aload_n 1, 1) := by decide +kernel
theorem dL_law_401 : decode cL_law 401 = .ok (.invokevirtual 64, 3) := by decide +kernel
theorem dL_law_404 : decode cL_law 404 = .ok (.aload_n 2, 1) := by decide +kernel
theorem dL_law_405 : decode cL_law 405 = .ok (.invokevirtual 67, 3) := by decide +kernel
theorem dL_law_408 : decode cL_law 408 = .ok (.if_icmp .eq 124, 3) := by decide +kernel
theorem dL_law_411 : decode cL_law 411 = .ok (.iconst 0, 1) := by decide +kernel
theorem dL_law_412 : decode cL_law 412 = .ok (.ireturn, 1) := by decide +kernel
theorem dL_law_413 : decode cL_law 413 = .ok (.aload_n 1, 1) := by decide +kernel
theorem dL_law_414 : decode cL_law 414 = .ok (.aload_n 0, 1) := by decide +kernel
theorem dL_law_415 : decode cL_law 415 = .ok (.iload_n 3, 1) := by decide +kernel
theorem dL_law_416 : decode cL_law 416 = .ok (.iconst 1, 1) := by decide +kernel
theorem dL_law_417 : decode cL_law 417 = .ok (.iadd, 1) := by decide +kernel
theorem dL_law_418 : decode cL_law 418 = .ok (.iaload, 1) := by decide +kernel
theorem dL_law_419 : decode cL_law 419 = .ok (.invokevirtual 68, 3) := by decide +kernel
theorem dL_law_422 : decode cL_law 422 = .ok (.aload_n 2, 1) := by decide +kernel
theorem dL_law_423 : decode cL_law 423 = .ok (.aload_n 0, 1) := by decide +kernel
theorem dL_law_424 : decode cL_law 424 = .ok (.iload_n 3, 1) := by decide +kernel
theorem dL_law_425 : decode cL_law 425 = .ok (.iconst 1, 1) := by decide +kernel
theorem dL_law_426 : decode cL_law 426 = .ok (.iadd, 1) := by decide +kernel
theorem dL_law_427 : decode cL_law 427 = .ok (.iaload, 1) := by decide +kernel
theorem dL_law_428 : decode cL_law 428 = .ok (.invokevirtual 71, 3) := by decide +kernel
theorem dL_law_431 : decode cL_law 431 = .ok (.if_icmp .eq 101, 3) := by decide +kernel
theorem dL_law_434 : decode cL_law 434 = .ok (.iconst 0, 1) := by decide +kernel
theorem dL_law_435 : decode cL_law 435 = .ok (.ireturn, 1) := by decide +kernel
theorem dL_law_436 : decode cL_law 436 = .ok (.aload_n 1, 1) := by decide +kernel
theorem dL_law_437 : decode cL_law 437 = .ok (.aload_n 0, 1) := by decide +kernel
theorem dL_law_438 : decode cL_law 438 = .ok (.iload_n 3, 1) := by decide +kernel
theorem dL_law_439 : decode cL_law 439 = .ok (.iconst 1, 1) := by decide +kernel
theorem dL_law_440 : decode cL_law 440 = .ok (.iadd, 1) := by decide +kernel
theorem dL_law_441 : decode cL_law 441 = .ok (.iaload, 1) := by decide +kernel
theorem dL_law_442 : decode cL_law 442 = .ok (.invokevirtual 72, 3) := by decide +kernel
theorem dL_law_445 : decode cL_law 445 = .ok (.aload_n 2, 1) := by decide +kernel
theorem dL_law_446 : decode cL_law 446 = .ok (.aload_n 0, 1) := by decide +kernel
theorem dL_law_447 : decode cL_law 447 = .ok (.iload_n 3, 1) := by decide +kernel
theorem dL_law_448 : decode cL_law 448 = .ok (.iconst 1, 1) := by decide +kernel
theorem dL_law_449 : decode cL_law 449 = .ok (.iadd, 1) := by decide +kernel
theorem dL_law_450 : decode cL_law 450 = .ok (.iaload, 1) := by decide +kernel
theorem dL_law_451 : decode cL_law 451 = .ok (.invokevirtual 75, 3) := by decide +kernel
theorem dL_law_454 : decode cL_law 454 = .ok (.if_icmp .eq 78, 3) := by decide +kernel
theorem dL_law_457 : decode cL_law 457 = .ok (.iconst 0, 1) := by decide +kernel
theorem dL_law_458 : decode cL_law 458 = .ok (.ireturn, 1) := by decide +kernel
theorem dL_law_459 : decode cL_law 459 = .ok (.aload_n 1, 1) := by decide +kernel
theorem dL_law_460 : decode cL_law 460 = .ok (.invokevirtual 76, 3) := by decide +kernel
theorem dL_law_463 : decode cL_law 463 = .ok (.aload_n 2, 1) := by decide +kernel
theorem dL_law_464 : decode cL_law 464 = .ok (.invokevirtual 79, 3) := by decide +kernel
theorem dL_law_467 : decode cL_law 467 = .ok (.if_icmp .eq 65, 3) := by decide +kernel
theorem dL_law_470 : decode cL_law 470 = .ok (.iconst 0, 1) := by decide +kernel
theorem dL_law_471 : decode cL_law 471 = .ok (.ireturn, 1) := by decide +kernel
theorem dL_law_472 : decode cL_law 472 = .ok (.aload_n 1, 1) := by decide +kernel
theorem dL_law_473 : decode cL_law 473 = .ok (.aload_n 0, 1) := by decide +kernel
theorem dL_law_474 : decode cL_law 474 = .ok (.iload_n 3, 1) := by decide +kernel
theorem dL_law_475 : decode cL_law 475 = .ok (.iconst 1, 1) := by decide +kernel
theorem dL_law_476 : decode cL_law 476 = .ok (.iadd, 1) := by decide +kernel
theorem dL_law_477 : decode cL_law 477 = .ok (.iaload, 1) := by decide +kernel
theorem dL_law_478 : decode cL_law 478 = .ok (.invokevirtual 80, 3) := by decide +kernel
theorem dL_law_481 : decode cL_law 481 = .ok (.aload_n 2, 1) := by decide +kernel
theorem dL_law_482 : decode cL_law 482 = .ok (.aload_n 0, 1) := by decide +kernel
theorem dL_law_483 : decode cL_law 483 = .ok (.iload_n 3, 1) := by decide +kernel
theorem dL_law_484 : decode cL_law 484 = .ok (.iconst 1, 1) := by decide +kernel
theorem dL_law_485 : decode cL_law 485 = .ok (.iadd, 1) := by decide +kernel
theorem dL_law_486 : decode cL_law 486 = .ok (.iaload, 1) := by decide +kernel
theorem dL_law_487 : decode cL_law 487 = .ok (.invokevirtual 83, 3) := by decide +kernel
theorem dL_law_490 : decode cL_law 490 = .ok (.if_icmp .eq 42, 3) := by decide +kernel
theorem dL_law_493 : decode cL_law 493 = .ok (.iconst 0, 1) := by decide +kernel
theorem dL_law_494 : decode cL_law 494 = .ok (.ireturn, 1) := by decide +kernel
theorem dL_law_495 : decode cL_law 495 = .ok (.aload_n 1, 1) := by decide +kernel
theorem dL_law_496 : decode cL_law 496 = .ok (.aload_n 0, 1) := by decide +kernel
theorem dL_law_497 : decode cL_law 497 = .ok (.iload_n 3, 1) := by decide +kernel
theorem dL_law_498 : decode cL_law 498 = .ok (.iconst 1, 1) := by decide +kernel
theorem dL_law_499 : decode cL_law 499 = .ok (.iadd, 1) := by decide +kernel
theorem dL_law_500 : decode cL_law 500 = .ok (.iaload, 1) := by decide +kernel
theorem dL_law_501 : decode cL_law 501 = .ok (.invokevirtual 84, 3) := by decide +kernel
theorem dL_law_504 : decode cL_law 504 = .ok (.aload_n 2, 1) := by decide +kernel
theorem dL_law_505 : decode cL_law 505 = .ok (.aload_n 0, 1) := by decide +kernel
theorem dL_law_506 : decode cL_law 506 = .ok (.iload_n 3, 1) := by decide +kernel
theorem dL_law_507 : decode cL_law 507 = .ok (.iconst 1, 1) := by decide +kernel
theorem dL_law_508 : decode cL_law 508 = .ok (.iadd, 1) := by decide +kernel
theorem dL_law_509 : decode cL_law 509 = .ok (.iaload, 1) := by decide +kernel
theorem dL_law_510 : decode cL_law 510 = .ok (.invokevirtual 87, 3) := by decide +kernel
theorem dL_law_513 : decode cL_law 513 = .ok (.if_icmp .eq 19, 3) := by decide +kernel
theorem dL_law_516 : decode cL_law 516 = .ok (.iconst 0, 1) := by decide +kernel
theorem dL_law_517 : decode cL_law 517 = .ok (.ireturn, 1) := by decide +kernel
theorem dL_law_518 : decode cL_law 518 = .ok (.aload_n 1, 1) := by decide +kernel
theorem dL_law_519 : decode cL_law 519 = .ok (.invokevirtual 88, 3) := by decide +kernel
theorem dL_law_522 : decode cL_law 522 = .ok (.aload_n 2, 1) := by decide +kernel
theorem dL_law_523 : decode cL_law 523 = .ok (.invokevirtual 92, 3) := by decide +kernel
theorem dL_law_526 : decode cL_law 526 = .ok (.lcmp, 1) := by decide +kernel
theorem dL_law_527 : decode cL_law 527 = .ok (.ifCond .eq 5, 3) := by decide +kernel
theorem dL_law_530 : decode cL_law 530 = .ok (.iconst 0, 1) := by decide +kernel
theorem dL_law_531 : decode cL_law 531 = .ok (.ireturn, 1) := by decide +kernel
theorem dL_law_532 : decode cL_law 532 = .ok (.iinc 3 3, 3) := by decide +kernel
theorem dL_law_535 : decode cL_law 535 = .ok (.goto (-517), 3) := by decide +kernel
theorem dL_law_538 : decode cL_law 538 = .ok (.iconst 1, 1) := by decide +kernel
theorem dL_law_539 : decode cL_law 539 = .ok (.ireturn, 1) := by decide +kernel
end
section
/-! THE PICTURE: the heap from B on is a list of cells, the n-th at B + n. All methods speak of the whole of it. -/
abbrev dp_V : Type := Int32 ⊕ Int64 ⊕ Option Nat
abbrev dp_C : Type := (Nat × List dp_V) ⊕ (Bool × Nat × (Nat → Int32)) ⊕ (Nat × (Nat → Option Nat))
abbrev dp_H : Type := List dp_C
abbrev dp_A : Type := ClassId × ClassId × ClassId
def dp_ro (B : Nat) (o : Option Nat) : Value := match o with
  | none => .null
  | some k => .ref (B + k)
def dp_ev (B : Nat) (v : dp_V) : Value := match v with
  | .inl i => .int i
  | .inr (.inl i) => .long i
  | .inr (.inr o) => dp_ro B o
def dp_ec (a : dp_A) (B : Nat) (x : dp_C) : va_E := match x with
  | .inl o => .inr (o.1, o.2.map (dp_ev B))
  | .inr (.inl z) => .inl (bif z.1 then a.2.1 else a.1, z.2.1, .inl z.2.2)
  | .inr (.inr z) => .inl (a.2.2, z.1, .inr (.inr (.inr (.inr (fun i => (z.2 i).map (fun k => B + k))))))
def dp_e (a : dp_A) (B : Nat) (h : dp_H) : va_W := h.mapIdx (fun k x => (B + k, dp_ec a B x))
theorem dp_e_get (a : dp_A) (B : Nat) (h : dp_H) (k : Nat) : (dp_e a B h)[k]? = (h[k]?).map (fun x => (B + k, dp_ec a B x)) := by
  unfold dp_e
  rw [List.getElem?_mapIdx]
theorem dp_e_len (a : dp_A) (B : Nat) (h : dp_H) : (dp_e a B h).length = h.length := by simp [dp_e]
theorem dp_e_at {a : dp_A} {B : Nat} {h : dp_H} {k : Nat} {x : dp_C} (hk : h[k]? = some x) : (dp_e a B h)[k]? = some (B + k, dp_ec a B x) := by rw [dp_e_get, hk]; rfl
theorem dp_e_set (a : dp_A) (B : Nat) (h : dp_H) (k : Nat) (x : dp_C) : (dp_e a B h).set k (B + k, dp_ec a B x) = dp_e a B (h.set k x) := by
  apply List.ext_getElem?
  intro i
  rw [dp_e_get, List.getElem?_set, List.getElem?_set, dp_e_get, dp_e_len]
  by_cases hi : k = i
  · subst hi
    by_cases hl : k < h.length
    · simp [hl]
    · simp [hl]
  · simp [hi]
theorem dp_e_push (a : dp_A) (B : Nat) (h : dp_H) (x : dp_C) : dp_e a B h ++ [(B + h.length, dp_ec a B x)] = dp_e a B (h ++ [x]) := by
  simp [dp_e, List.mapIdx_append]
theorem dp_e_D (a : dp_A) (B : Nat) (h : dp_H) : va_D (fun q => B ≤ q) (dp_e a B h) := by
  refine ⟨fun i j p q hi hj hpq => ?_, fun k q hk => ?_⟩
  · rw [dp_e_get] at hi hj
    cases h1 : h[i]? with
    | none => rw [h1] at hi; cases hi
    | some x =>
      cases h2 : h[j]? with
      | none => rw [h2] at hj; cases hj
      | some y =>
        rw [h1] at hi; rw [h2] at hj
        cases hi; cases hj
        dsimp only at hpq
        omega
  · rw [dp_e_get] at hk
    cases h1 : h[k]? with
    | none => rw [h1] at hk; cases hk
    | some x =>
      rw [h1] at hk
      cases hk
      show B ≤ B + k
      omega
/-! what the instructions read and write in the picture -/
def dp_g (h : dp_H) (k c j : Nat) : Option dp_V := match h[k]? with
  | some (.inl o) => if o.1 = c then o.2[j]? else none
  | _ => none
def dp_gi (h : dp_H) (k c j : Nat) : Option Int32 := match dp_g h k c j with
  | some (.inl v) => some v
  | _ => none
def dp_gl (h : dp_H) (k c j : Nat) : Option Int64 := match dp_g h k c j with
  | some (.inr (.inl v)) => some v
  | _ => none
def dp_gr (h : dp_H) (k c j : Nat) : Option Nat := match dp_g h k c j with
  | some (.inr (.inr (some v))) => some v
  | _ => none
def dp_p (h : dp_H) (k c j : Nat) (v : dp_V) : Option dp_H := match h[k]? with
  | some (.inl o) => if o.1 = c ∧ j < o.2.length then some (h.set k (.inl (c, o.2.set j v))) else none
  | _ => none
def dp_b {β : Type} (v : Int32) (o : Option β) : Option β := if v = 0 ∨ v = 1 then o else none
def dp_ai (z : Bool) (h : dp_H) (k : Nat) (i : Int32) : Option Int32 := match h[k]? with
  | some (.inr (.inl x)) => if x.1 = z ∧ ¬ (i < 0 ∨ x.2.1 ≤ i.toNatClampNeg) then some (x.2.2 i.toNatClampNeg) else none
  | _ => none
def dp_si (z : Bool) (h : dp_H) (k : Nat) (i v : Int32) : Option dp_H := match h[k]? with
  | some (.inr (.inl x)) => if x.1 = z ∧ ¬ (i < 0 ∨ x.2.1 ≤ i.toNatClampNeg) then some (h.set k (.inr (.inl (z, x.2.1, upd x.2.2 i.toNatClampNeg v)))) else none
  | _ => none
def dp_ln (h : dp_H) (k : Nat) : Option Int32 := match h[k]? with
  | some (.inr (.inl x)) => some (Int32.ofNat x.2.1)
  | some (.inr (.inr x)) => some (Int32.ofNat x.1)
  | _ => none
def dp_ar (h : dp_H) (k : Nat) (i : Int32) : Option Nat := match h[k]? with
  | some (.inr (.inr x)) => if ¬ (i < 0 ∨ x.1 ≤ i.toNatClampNeg) then x.2 i.toNatClampNeg else none
  | _ => none
def dp_is (h : dp_H) (k c : Nat) : Bool := match h[k]? with
  | some (.inl o) => o.1 == c
  | _ => false
def dp_sr (h : dp_H) (k : Nat) (i : Int32) (v : Nat) : Option dp_H := match h[k]? with
  | some (.inr (.inr x)) => if ¬ (i < 0 ∨ x.1 ≤ i.toNatClampNeg) ∧ dp_is h v 1 = true then some (h.set k (.inr (.inr (x.1, va_up x.2 i.toNatClampNeg (some v))))) else none
  | _ => none
def dp_na (z : Bool) (h : dp_H) (n : Int32) : Option dp_H := if n < 0 ∨ 80 < n.toNatClampNeg then none else some (h ++ [.inr (.inl (z, n.toNatClampNeg, fun _ => 0))])
def dp_nr (h : dp_H) (n : Int32) : Option dp_H := if n < 0 ∨ 80 < n.toNatClampNeg then none else some (h ++ [.inr (.inr (n.toNatClampNeg, fun _ => none))])
def dp_ck {β : Type} (h : dp_H) (k c : Nat) (o : Option β) : Option β := if dp_is h k c = true then o else none
def dp_om {β : Type} (o : Option Nat) (a : Option β) (f : Nat → Option β) : Option β := match o with
  | none => a
  | some k => f k
theorem dp_ob {α β : Type} {o : Option α} {f : α → Option β} {b : β} (h : o.bind f = some b) : ∃ a, o = some a ∧ f a = some b := Option.bind_eq_some_iff.mp h
theorem dp_ip {β : Type} {c : Prop} {hd : Decidable c} {x y : Option β} {b : β} (hc : c) (h : (if c then x else y) = some b) : x = some b := by rwa [if_pos hc] at h
theorem dp_in {β : Type} {c : Prop} {hd : Decidable c} {x y : Option β} {b : β} (hc : ¬ c) (h : (if c then x else y) = some b) : y = some b := by rwa [if_neg hc] at h
theorem dp_ck_e {β : Type} {h : dp_H} {k c : Nat} {o : Option β} {b : β} (hm : dp_ck h k c o = some b) : dp_is h k c = true ∧ o = some b := by
  unfold dp_ck at hm
  split at hm
  · exact ⟨by assumption, hm⟩
  · cases hm
theorem dp_b_e {β : Type} {v : Int32} {o : Option β} {b : β} (hm : dp_b v o = some b) : (v = 0 ∨ v = 1) ∧ o = some b := by
  unfold dp_b at hm
  split at hm
  · exact ⟨by assumption, hm⟩
  · cases hm
theorem dp_g_e {h : dp_H} {k c j : Nat} {v : dp_V} (hm : dp_g h k c j = some v) : ∃ fs, h[k]? = some (.inl (c, fs)) ∧ fs[j]? = some v := by
  unfold dp_g at hm
  split at hm
  · rename_i o ho
    split at hm
    · rename_i hc
      obtain ⟨o1, o2⟩ := o
      dsimp only at hc hm
      subst hc
      exact ⟨o2, ho, hm⟩
    · cases hm
  · cases hm
theorem dp_gi_e {h : dp_H} {k c j : Nat} {v : Int32} (hm : dp_gi h k c j = some v) : ∃ fs, h[k]? = some (.inl (c, fs)) ∧ fs[j]? = some (.inl v) := by
  unfold dp_gi at hm
  split at hm
  · rename_i w hw
    cases hm
    exact dp_g_e hw
  · cases hm
theorem dp_gl_e {h : dp_H} {k c j : Nat} {v : Int64} (hm : dp_gl h k c j = some v) : ∃ fs, h[k]? = some (.inl (c, fs)) ∧ fs[j]? = some (.inr (.inl v)) := by
  unfold dp_gl at hm
  split at hm
  · rename_i w hw
    cases hm
    exact dp_g_e hw
  · cases hm
theorem dp_gr_e {h : dp_H} {k c j : Nat} {v : Nat} (hm : dp_gr h k c j = some v) : ∃ fs, h[k]? = some (.inl (c, fs)) ∧ fs[j]? = some (.inr (.inr (some v))) := by
  unfold dp_gr at hm
  split at hm
  · rename_i w hw
    cases hm
    exact dp_g_e hw
  · cases hm
theorem dp_p_e {h h' : dp_H} {k c j : Nat} {v : dp_V} (hm : dp_p h k c j v = some h') : ∃ fs, h[k]? = some (.inl (c, fs)) ∧ j < fs.length ∧ h' = h.set k (.inl (c, fs.set j v)) := by
  unfold dp_p at hm
  split at hm
  · rename_i o ho
    split at hm
    · rename_i hc
      obtain ⟨o1, o2⟩ := o
      dsimp only at hc hm
      obtain ⟨hc, hl⟩ := hc
      subst hc
      cases hm
      exact ⟨o2, ho, hl, rfl⟩
    · cases hm
  · cases hm
theorem dp_ai_e {z : Bool} {h : dp_H} {k : Nat} {i v : Int32} (hm : dp_ai z h k i = some v) : ∃ n f, h[k]? = some (.inr (.inl (z, n, f))) ∧ vp_in i n ∧ v = f i.toNatClampNeg := by
  unfold dp_ai at hm
  split at hm
  · rename_i x hx
    split at hm
    · rename_i hc
      obtain ⟨x1, x2, x3⟩ := x
      dsimp only at hc hm
      obtain ⟨hc, hl⟩ := hc
      subst hc
      cases hm
      exact ⟨x2, x3, hx, hl, rfl⟩
    · cases hm
  · cases hm
theorem dp_si_e {z : Bool} {h h' : dp_H} {k : Nat} {i v : Int32} (hm : dp_si z h k i v = some h') : ∃ n f, h[k]? = some (.inr (.inl (z, n, f))) ∧ vp_in i n ∧ h' = h.set k (.inr (.inl (z, n, upd f i.toNatClampNeg v))) := by
  unfold dp_si at hm
  split at hm
  · rename_i x hx
    split at hm
    · rename_i hc
      obtain ⟨x1, x2, x3⟩ := x
      dsimp only at hc hm
      obtain ⟨hc, hl⟩ := hc
      subst hc
      cases hm
      exact ⟨x2, x3, hx, hl, rfl⟩
    · cases hm
  · cases hm
theorem dp_ar_e {h : dp_H} {k : Nat} {i : Int32} {v : Nat} (hm : dp_ar h k i = some v) : ∃ n f, h[k]? = some (.inr (.inr (n, f))) ∧ vp_in i n ∧ f i.toNatClampNeg = some v := by
  unfold dp_ar at hm
  split at hm
  · rename_i x hx
    split at hm
    · rename_i hc
      obtain ⟨x1, x2⟩ := x
      exact ⟨x1, x2, hx, hc, hm⟩
    · cases hm
  · cases hm
theorem dp_is_e {h : dp_H} {k c : Nat} (hm : dp_is h k c = true) : ∃ fs, h[k]? = some (.inl (c, fs)) := by
  unfold dp_is at hm
  split at hm
  · rename_i o ho
    obtain ⟨o1, o2⟩ := o
    have hc : o1 = c := by simpa using hm
    subst hc
    exact ⟨o2, ho⟩
  · cases hm
theorem dp_sr_e {h h' : dp_H} {k : Nat} {i : Int32} {v : Nat} (hm : dp_sr h k i v = some h') : ∃ n f fs, h[k]? = some (.inr (.inr (n, f))) ∧ vp_in i n ∧ h[v]? = some (.inl (1, fs)) ∧ h' = h.set k (.inr (.inr (n, va_up f i.toNatClampNeg (some v)))) := by
  unfold dp_sr at hm
  split at hm
  · rename_i x hx
    split at hm
    · rename_i hc
      obtain ⟨x1, x2⟩ := x
      obtain ⟨hc, hl⟩ := hc
      obtain ⟨fs, hfs⟩ := dp_is_e hl
      cases hm
      exact ⟨x1, x2, fs, hx, hc, hfs, rfl⟩
    · cases hm
  · cases hm
theorem dp_na_e {z : Bool} {h h' : dp_H} {n : Int32} (hm : dp_na z h n = some h') : ¬ n < 0 ∧ n.toNatClampNeg ≤ 80 ∧ h' = h ++ [.inr (.inl (z, n.toNatClampNeg, fun _ => 0))] := by
  unfold dp_na at hm
  split at hm
  · cases hm
  · rename_i hc
    cases hm
    exact ⟨fun q => hc (Or.inl q), Nat.le_of_not_lt (fun q => hc (Or.inr q)), rfl⟩
theorem dp_nr_e {h h' : dp_H} {n : Int32} (hm : dp_nr h n = some h') : ¬ n < 0 ∧ n.toNatClampNeg ≤ 80 ∧ h' = h ++ [.inr (.inr (n.toNatClampNeg, fun _ => none))] := by
  unfold dp_nr at hm
  split at hm
  · cases hm
  · rename_i hc
    cases hm
    exact ⟨fun q => hc (Or.inl q), Nat.le_of_not_lt (fun q => hc (Or.inr q)), rfl⟩
end
section
/-! what is true of the machine at every time: the words of the tables, the classes, the nest's links -/
def dp_N : List Cond := [
  .methodLinkNest RX6 20 yX2_init "DialPlan",
  .methodLinkNest RX2 11 yX1_init "DialPlan",
  .methodLinkNest RX3 17 yX1_init "DialPlan",
  .methodLinkNest RX6 37 yX4_init "DialPlan",
  .methodLinkNest RX6 44 yX0_init "DialPlan",
  .methodLinkNest RX2 81 yX6_isFigure "DialPlan"]
abbrev dp_T (a : dp_A) : List (ClassId × FieldType) := [(a.1, .int), (a.2.1, .boolean), (a.2.2, .object RX1)]
def dp_K (D : va_G) (a : dp_A) (U : State) : Prop := (∀ w ∈ lw_tbl, goodWord w = true → w.before #[] U = true) ∧ va_K D vwCl (dp_T a) U ∧ (∀ w ∈ dp_N, va_Nw w U) ∧ va_AO RX1 U
theorem dp_N_warm {w : Cond} (hw : w ∈ dp_N) {s U : State} (hW : s.WarmedH U.vm) (h : va_Nw w s) : va_Nw w U := by
  simp only [dp_N, List.mem_cons, List.not_mem_nil, or_false] at hw
  rcases hw with rfl | rfl | rfl | rfl | rfl | rfl <;> exact va_Nw.warmM hW h
theorem dp_K.warm {D : va_G} {a : dp_A} {s U : State} (hW : s.WarmedH U.vm) (h : dp_K D a s) : dp_K D a U :=
  ⟨fun w hw hg => word_at hW (good_of_word hg) (h.1 w hw hg), va_K.moved hW.alike h.2.1, fun w hw => dp_N_warm hw hW (h.2.2.1 w hw), va_AO.moved hW.alike h.2.2.2⟩
theorem dp_K.word {D : va_G} {a : dp_A} {s : State} (h : dp_K D a s) {w : Cond} (hw : w ∈ lw_tbl) (hg : goodWord w = true) {args : Array Value} : w.before args s = true := word_at (State.WarmedH.refl s) (good_of_word hg) (h.1 w hw hg)
theorem dp_K.calling {D : va_G} {a : dp_A} {U : State} (h : dp_K D a U) (g : JFrame) (mk : MethodId) (av : Array Value) : dp_K D a (U.calling g mk av) := dp_K.warm (s := U) (U := U.calling g mk av) (State.WarmedH.refl U) h
/-- a class of the worlds -/
def dp_Cl (ci : Nat) (C : String) (T : u_T) (N : Nat) (ty : Nat → FieldType) : Prop := vwCl[ci]? = some (C, T, N) ∧ (∀ w ∈ u_ws C T N, w ∈ lw_tbl ∧ goodWord w = true) ∧ (∀ k, k < N → parseFieldDescriptor (T k).2.2.1 = some (ty k)) ∧ (∀ a, a < N → ∀ b, b < N → a ≠ b → (T a).2.1 ≠ (T b).2.1)
def dp_w (D : va_G) (a : dp_A) (B : Nat) (h : dp_H) (H0 H : Heap) (locs : List Loc) : Prop := va_P D vwCl (dp_e a B h) H ∧ H.size = B + h.length ∧ va_S (fun q => B ≤ q) H0 H locs
/-- what holds all along a method -/
def dp_X (p : Program) (s : State) (m : MethodId) (meth : Method) (c : Code) (cc : ByteArray) (nL : Nat) (own : String) (D : va_G) (a : dp_A) (B : Nat) : Prop :=
  p.tables.exec = Jvm.exec ∧ c.code = cc ∧ c.maxLocals = nL ∧ s.vm.findClass own = some m.cls ∧ meth.locks = false ∧ dp_K D a s ∧ B ≤ s.heap.size
def dp_P0 (D : va_G) (a : dp_A) (B : Nat) (h : dp_H) (U : State) : Prop := va_P D vwCl (dp_e a B h) U.heap ∧ U.heap.size = B + h.length ∧ dp_K D a U
def dp_Q (D : va_G) (a : dp_A) (B : Nat) (r : Option Value) (h : dp_H) : Array Value → State → Outcome → State → Prop := fun _ st oc t => oc = .returned r ∧ va_P D vwCl (dp_e a B h) t.heap ∧ t.heap.size = B + h.length ∧ va_F (fun q => B ≤ q) st t
/-- A CONTRACT: from the picture h with the arguments av the method returns r and leaves the picture h' -/
def dp_M (l : Launch) (D : va_G) (a : dp_A) (B : Nat) (y : MethodName) (cc : ByteArray) (nL : Nat) (ret : Option FieldType) (rm : Room) (av : List Value) (h : dp_H) (r : Option Value) (h' : dp_H) : Prop :=
  Met l y [Cond.code y cc nL ret] rm (va_Pc av (dp_P0 D a B h)) (dp_Q D a B r h') rm.cells rm.slots (fun q => B ≤ q)
theorem dp_M.of {l : Launch} {D : va_G} {a : dp_A} {B : Nat} {y : MethodName} {cc : ByteArray} {nL : Nat} {ret : Option FieldType} {rm : Room} {av : List Value} {h : dp_H} {r : Option Value} {h' : dp_H} {own nm : String}
    (hy : plainName y.cls = true) (ho : y.cls = own) (hnm : y.name = nm) (hlen : (lg_sl av).length ≤ nL)
    (body : ∀ (p : Program) (e : Env) (s : State) (m : MethodId) (below : List Frame) (meth : Method) (c : Code) (ls : Array Slot), dp_X p s m meth c cc nL own D a B → meth.sig.returnType = ret → meth.name = nm → dp_w D a B h s.heap s.heap [] → lv_has ls nL (lv_args 0 av) →
      W p l e rm s m av.toArray below meth c s.heap [] 0 0 (MQ below (dp_Q D a B r h') av.toArray s rm.cells rm.slots (fun q => B ≤ q)) (F0 m 0 ls [])) : dp_M l D a B y cc nL ret rm av h r h' := by
  refine Met.ofW (cc := cc) (maxL := nL) (ret := ret) hy rfl ?_
  intro p e s m args below meth c s₁ Bd hml hv
  obtain ⟨rfl, hP, hsz, hK⟩ := hv
  have hown : s.vm.findClass own = some m.cls := by rw [← ho]; exact findClass_of_methodNamed Bd.named
  have hin : meth.name = nm := by rw [← hnm]; exact (name_of_methodNamed Bd.named Bd.method).1
  have hl := lv_entry av (n := nL) hlen
  rw [lg_entry_eq]
  generalize (lg_sl av ++ List.replicate (nL - (lg_sl av).length) Slot.unset).toArray = ls at hl ⊢
  exact body p e s m below meth c ls ⟨Bd.exec, Bd.bytes, hml, hown, Bd.notSynchronized, hK, by omega⟩ Bd.returns hin ⟨hP, hsz, va_S.rf⟩ hl
section DPR
variable {p : Program} {l : Launch} {e : Env} {R : Room} {s : State} {m : MethodId} {args : Array Value} {below : List Frame} {meth : Method} {c : Code} {H : Heap} {locs : List Loc} {cells slots : Nat} {Q : State → Prop}
variable {cc : ByteArray} {nL pc : Nat} {ls : Array Slot} {rest : List Value} {D : va_G} {a : dp_A} {B : Nat} {own : String} {h : dp_H}
theorem dp_w.P {H0 : Heap} (hw : dp_w D a B h H0 H locs) {k : Nat} {x : dp_C} (hk : h[k]? = some x) : va_at D vwCl (B + k, dp_ec a B x) H := hw.1 k _ (dp_e_at hk)
theorem dp_geti (X : dp_X p s m meth c cc nL own D a B) (hw : dp_w D a B h s.heap H locs) {C : String} {T : u_T} {N ci index : Nat} {ty : Nat → FieldType} (hC : dp_Cl ci C T N ty) (j : Nat) (hj : j < N) (hlink : Cond.fieldLink own index (T j).1 (T j).2.1 (T j).2.2.1 ∈ lw_tbl) {k : Nat} {v : Int32} (hg : dp_gi h k ci j = some v) (hdg : decode cc pc = .ok (.getfield index, 3))
    (kk : W p l e R s m args below meth c H locs cells slots Q (F0 m (pc + 3) ls (.int v :: rest))) : W p l e R s m args below meth c H locs cells slots Q (F0 m pc ls (.ref (B + k) :: rest)) := by
  obtain ⟨hx, hb, hml, hown, hlk, hK, hB⟩ := X
  obtain ⟨fs, h1, h2⟩ := dp_gi_e hg
  exact va_get (Ts := u_ws C T N) hx hb (fun w hw => hK.word (hC.2.1 w hw).1 (hC.2.1 w hw).2) (fun _ h => h) hown hK.2.1 hw.1 k (dp_e_at h1) hC.1 j hj (hK.word hlink rfl) (fun _ h => h) (v := .int v) (by rw [List.getElem?_map, h2]; rfl) hdg kk
theorem dp_getl (X : dp_X p s m meth c cc nL own D a B) (hw : dp_w D a B h s.heap H locs) {C : String} {T : u_T} {N ci index : Nat} {ty : Nat → FieldType} (hC : dp_Cl ci C T N ty) (j : Nat) (hj : j < N) (hlink : Cond.fieldLink own index (T j).1 (T j).2.1 (T j).2.2.1 ∈ lw_tbl) {k : Nat} {v : Int64} (hg : dp_gl h k ci j = some v) (hdg : decode cc pc = .ok (.getfield index, 3))
    (kk : W p l e R s m args below meth c H locs cells slots Q (F0 m (pc + 3) ls (.long v :: rest))) : W p l e R s m args below meth c H locs cells slots Q (F0 m pc ls (.ref (B + k) :: rest)) := by
  obtain ⟨hx, hb, hml, hown, hlk, hK, hB⟩ := X
  obtain ⟨fs, h1, h2⟩ := dp_gl_e hg
  exact va_get (Ts := u_ws C T N) hx hb (fun w hw => hK.word (hC.2.1 w hw).1 (hC.2.1 w hw).2) (fun _ h => h) hown hK.2.1 hw.1 k (dp_e_at h1) hC.1 j hj (hK.word hlink rfl) (fun _ h => h) (v := .long v) (by rw [List.getElem?_map, h2]; rfl) hdg kk
theorem dp_getr (X : dp_X p s m meth c cc nL own D a B) (hw : dp_w D a B h s.heap H locs) {C : String} {T : u_T} {N ci index : Nat} {ty : Nat → FieldType} (hC : dp_Cl ci C T N ty) (j : Nat) (hj : j < N) (hlink : Cond.fieldLink own index (T j).1 (T j).2.1 (T j).2.2.1 ∈ lw_tbl) {k : Nat} {v : Nat} (hg : dp_gr h k ci j = some v) (hdg : decode cc pc = .ok (.getfield index, 3))
    (kk : W p l e R s m args below meth c H locs cells slots Q (F0 m (pc + 3) ls (.ref (B + v) :: rest))) : W p l e R s m args below meth c H locs cells slots Q (F0 m pc ls (.ref (B + k) :: rest)) := by
  obtain ⟨hx, hb, hml, hown, hlk, hK, hB⟩ := X
  obtain ⟨fs, h1, h2⟩ := dp_gr_e hg
  exact va_get (Ts := u_ws C T N) hx hb (fun w hw => hK.word (hC.2.1 w hw).1 (hC.2.1 w hw).2) (fun _ h => h) hown hK.2.1 hw.1 k (dp_e_at h1) hC.1 j hj (hK.word hlink rfl) (fun _ h => h) (v := .ref (B + v)) (by rw [List.getElem?_map, h2]; rfl) hdg kk
theorem dp_set_map {fs : List dp_V} {j : Nat} {v : dp_V} : (fs.map (dp_ev B)).set j (dp_ev B v) = (fs.set j v).map (dp_ev B) := by rw [List.map_set]
/-- an object's cell is written: what the picture is then -/
theorem dp_w.obj {H0 H1 : Heap} (hw : dp_w D a B h H0 H locs) {k ci j i : Nat} {fs : List dp_V} {v : dp_V} {x : Loc} {C : String} {T : u_T} {N : Nat} {cell : Cell} (h1 : h[k]? = some (.inl (ci, fs))) (hj : j < fs.length) (hc : vwCl[ci]? = some (C, T, N)) (hjN : j < N) (hq1 : H[B + k]? = some cell) (q2 : cell.cls = D.1 ci) (q3 : cell.vm = .none) (q4 : ∀ n, n < N → cell.slots[D.2 ci n]? = some (vp_V (fs.map (dp_ev B)) n))
    (hap : ∀ x y, x < N → y < N → x ≠ y → D.2 ci x ≠ D.2 ci y) (hi : i = D.2 ci j) (hx : x.base = B + k) (e1 : H1[B + k]? = some (cell.setSlot i (dp_ev B v))) (z : H1.size = H.size) (oq : ∀ q, q ≠ B + k → H1[q]? = H[q]?) : dp_w D a B (h.set k (.inl (ci, fs.set j v))) H0 H1 (locs ++ [x]) := by
  subst hi
  obtain ⟨xb, xs⟩ := x
  dsimp only at hx
  subst hx
  refine ⟨?_, ?_, hw.2.2.put z oq (Nat.le_add_right B k)⟩
  · rw [← dp_e_set]
    refine va_P.set hw.1 (dp_e_D a B h) (dp_e_at h1) ?_ oq
    refine ⟨_, hc, _, e1, q2, q3, fun n hn => ?_⟩
    have e2 := t_set q4 hap hjN (dp_ev B v) n hn
    rw [e2, vp_updV_set (by simpa using hj), dp_set_map]
  · rw [z, List.length_set]
    exact hw.2.1
/-- an array's cell is written -/
theorem dp_w.arr {H0 H1 : Heap} (hw : dp_w D a B h H0 H locs) {k : Nat} {x0 x1 : dp_C} {x : Loc} (h1 : h[k]? = some x0) (hx : x.base = B + k) (e1 : va_at D vwCl (B + k, dp_ec a B x1) H1) (z : H1.size = H.size) (oq : ∀ q, q ≠ B + k → H1[q]? = H[q]?) : dp_w D a B (h.set k x1) H0 H1 (locs ++ [x]) := by
  obtain ⟨xb, xs⟩ := x
  dsimp only at hx
  subst hx
  refine ⟨?_, ?_, hw.2.2.put z oq (Nat.le_add_right B k)⟩
  · rw [← dp_e_set]
    exact va_P.set hw.1 (dp_e_D a B h) (dp_e_at h1) e1 oq
  · rw [z, List.length_set]
    exact hw.2.1
theorem dp_put (X : dp_X p s m meth c cc nL own D a B) (hw : dp_w D a B h s.heap H locs) {C : String} {T : u_T} {N ci index : Nat} {ty : Nat → FieldType} (hC : dp_Cl ci C T N ty) (j : Nat) (hj : j < N) (hlink : Cond.fieldLink own index (T j).1 (T j).2.1 (T j).2.2.1 ∈ lw_tbl) (hfin : (T j).2.2.2 = false) {k : Nat} {v : dp_V} (hn : narrow (ty j) (dp_ev B v) = dp_ev B v) (hfit : fits (ty j) (dp_ev B v) = true) {h' : dp_H} (hp : dp_p h k ci j v = some h') (hdg : decode cc pc = .ok (.putfield index, 3))
    (kk : ∀ (H1 : Heap) (locs1 : List Loc), dp_w D a B h' s.heap H1 locs1 → W p l e R s m args below meth c H1 locs1 cells slots Q (F0 m (pc + 3) ls rest)) : W p l e R s m args below meth c H locs cells slots Q (F0 m pc ls (dp_ev B v :: .ref (B + k) :: rest)) := by
  obtain ⟨hx, hb, hml, hown, hlk, hK, hB⟩ := X
  obtain ⟨fs, h1, h2, rfl⟩ := dp_p_e hp
  have hts : ∀ w ∈ u_ws C T N, w.before args s = true := fun w hw => hK.word (hC.2.1 w hw).1 (hC.2.1 w hw).2
  have hap := va_apart (own := own) hts (fun _ h => h) ty hC.2.2.1 hC.2.2.2 hK.2.1 hC.1
  obtain ⟨r, hr, cell, q1, q2, q3, q4⟩ := hw.P h1
  cases hr.symm.trans hC.1
  obtain ⟨hSl, hfc, kC, hkC, hkind⟩ := hK.2.1.1 ci _ hC.1
  obtain ⟨cf, kf, fi, f, hi, hsl⟩ := hSl j hj
  have hlay := hts _ (u_in_lay hj)
  rw [u_lay, if_neg (by rw [hfin]; decide)] at hlay
  refine W.putK hx hb (f := f) ⟨hown, hK.word hlink rfl, ⟨_, _, _, hi⟩, (u_facts hfc hkC (Or.inl hlay) hi).1⟩ (by rw [q2]; exact u_store hfc hkC hkind hlay hi (hC.2.2.1 j hj) hn hfit) q1 q3 (by rw [hsl]; exact k2_hasslot (q4 j hj)) rfl rfl hdg fun H1 e1 z oq => ?_
  exact kk H1 _ (hw.obj h1 h2 hC.1 hj q1 q2 q3 q4 hap hsl rfl e1 z oq)
theorem dp_putF (X : dp_X p s m meth c cc nL own D a B) (hin : meth.name = "<init>") (hw : dp_w D a B h s.heap H locs) {C : String} {T : u_T} {N ci index : Nat} {ty : Nat → FieldType} (hC : dp_Cl ci C T N ty) (j : Nat) (hj : j < N) (hlink : Cond.fieldLink own index (T j).1 (T j).2.1 (T j).2.2.1 ∈ lw_tbl) (hfin : (T j).2.2.2 = true) (hdecl : (T j).1 = own) {k : Nat} {v : dp_V} (hn : narrow (ty j) (dp_ev B v) = dp_ev B v) (hfit : fits (ty j) (dp_ev B v) = true) {h' : dp_H} (hp : dp_p h k ci j v = some h') (hdg : decode cc pc = .ok (.putfield index, 3))
    (kk : ∀ (H1 : Heap) (locs1 : List Loc), dp_w D a B h' s.heap H1 locs1 → W p l e R s m args below meth c H1 locs1 cells slots Q (F0 m (pc + 3) ls rest)) : W p l e R s m args below meth c H locs cells slots Q (F0 m pc ls (dp_ev B v :: .ref (B + k) :: rest)) := by
  obtain ⟨hx, hb, hml, hown, hlk, hK, hB⟩ := X
  obtain ⟨fs, h1, h2, rfl⟩ := dp_p_e hp
  have hts : ∀ w ∈ u_ws C T N, w.before args s = true := fun w hw => hK.word (hC.2.1 w hw).1 (hC.2.1 w hw).2
  have hap := va_apart (own := own) hts (fun _ h => h) ty hC.2.2.1 hC.2.2.2 hK.2.1 hC.1
  obtain ⟨r, hr, cell, q1, q2, q3, q4⟩ := hw.P h1
  cases hr.symm.trans hC.1
  obtain ⟨hSl, hfc, kC, hkC, hkind⟩ := hK.2.1.1 ci _ hC.1
  obtain ⟨cf, kf, fi, f, hi, hsl⟩ := hSl j hj
  have hlay := hts _ (u_in_lay hj)
  rw [u_lay, if_pos hfin] at hlay
  have hcf : m.cls = cf := by
    obtain ⟨_, _, c', _, _, _, -, -, hf', -, -, -, hown2, -⟩ := Cond.laysFinal_spec hlay
    cases hi.symm.trans hf'
    rw [hdecl] at hown2
    exact Option.some.inj (hown.symm.trans hown2)
  refine W.putFinK hx hb hown (hK.word hlink rfl) hi (u_facts hfc hkC (Or.inr hlay) hi).1 hcf hin (by rw [q2]; exact u_fits hfc hkC hkind (Or.inr hlay) hi (hC.2.2.1 j hj) hn hfit) q1 q3 (by rw [hsl]; exact k2_hasslot (q4 j hj)) rfl rfl hdg fun H1 e1 z oq => ?_
  exact kk H1 _ (hw.obj h1 h2 hC.1 hj q1 q2 q3 q4 hap hsl rfl e1 z oq)
theorem dp_puti (X : dp_X p s m meth c cc nL own D a B) (hw : dp_w D a B h s.heap H locs) {C : String} {T : u_T} {N ci index : Nat} {ty : Nat → FieldType} (hC : dp_Cl ci C T N ty) (j : Nat) (hj : j < N) (hlink : Cond.fieldLink own index (T j).1 (T j).2.1 (T j).2.2.1 ∈ lw_tbl) (hfin : (T j).2.2.2 = false) (hty : ty j = .int) {k : Nat} {v : Int32} {h' : dp_H} (hp : dp_p h k ci j (.inl v) = some h') (hdg : decode cc pc = .ok (.putfield index, 3))
    (kk : ∀ (H1 : Heap) (locs1 : List Loc), dp_w D a B h' s.heap H1 locs1 → W p l e R s m args below meth c H1 locs1 cells slots Q (F0 m (pc + 3) ls rest)) : W p l e R s m args below meth c H locs cells slots Q (F0 m pc ls (.int v :: .ref (B + k) :: rest)) := dp_put (v := .inl v) X hw hC j hj hlink hfin (by rw [hty]; rfl) (by rw [hty]; rfl) hp hdg kk
theorem dp_putl (X : dp_X p s m meth c cc nL own D a B) (hw : dp_w D a B h s.heap H locs) {C : String} {T : u_T} {N ci index : Nat} {ty : Nat → FieldType} (hC : dp_Cl ci C T N ty) (j : Nat) (hj : j < N) (hlink : Cond.fieldLink own index (T j).1 (T j).2.1 (T j).2.2.1 ∈ lw_tbl) (hfin : (T j).2.2.2 = false) (hty : ty j = .long) {k : Nat} {v : Int64} {h' : dp_H} (hp : dp_p h k ci j (.inr (.inl v)) = some h') (hdg : decode cc pc = .ok (.putfield index, 3))
    (kk : ∀ (H1 : Heap) (locs1 : List Loc), dp_w D a B h' s.heap H1 locs1 → W p l e R s m args below meth c H1 locs1 cells slots Q (F0 m (pc + 3) ls rest)) : W p l e R s m args below meth c H locs cells slots Q (F0 m pc ls (.long v :: .ref (B + k) :: rest)) := dp_put (v := .inr (.inl v)) X hw hC j hj hlink hfin (by rw [hty]; rfl) (by rw [hty]; rfl) hp hdg kk
theorem dp_nb {v : Int32} (hv : v = 0 ∨ v = 1) : narrow .boolean (.int v) = .int v := by rcases hv with rfl | rfl <;> rfl
theorem dp_fb {v : Int32} (hv : v = 0 ∨ v = 1) : fits .boolean (.int v) = true := by rcases hv with rfl | rfl <;> rfl
theorem dp_putz (X : dp_X p s m meth c cc nL own D a B) (hw : dp_w D a B h s.heap H locs) {C : String} {T : u_T} {N ci index : Nat} {ty : Nat → FieldType} (hC : dp_Cl ci C T N ty) (j : Nat) (hj : j < N) (hlink : Cond.fieldLink own index (T j).1 (T j).2.1 (T j).2.2.1 ∈ lw_tbl) (hfin : (T j).2.2.2 = false) (hty : ty j = .boolean) {k : Nat} {v : Int32} (hv : v = 0 ∨ v = 1) {h' : dp_H} (hp : dp_p h k ci j (.inl v) = some h') (hdg : decode cc pc = .ok (.putfield index, 3))
    (kk : ∀ (H1 : Heap) (locs1 : List Loc), dp_w D a B h' s.heap H1 locs1 → W p l e R s m args below meth c H1 locs1 cells slots Q (F0 m (pc + 3) ls rest)) : W p l e R s m args below meth c H locs cells slots Q (F0 m pc ls (.int v :: .ref (B + k) :: rest)) := dp_put (v := .inl v) X hw hC j hj hlink hfin (by rw [hty]; exact dp_nb hv) (by rw [hty]; exact dp_fb hv) hp hdg kk
theorem dp_isr {t : FieldType} (ht : (∃ n, t = .object n) ∨ ∃ n, t = .array n) (k : Nat) : narrow t (.ref k) = .ref k ∧ fits t (.ref k) = true := by rcases ht with ⟨n, rfl⟩ | ⟨n, rfl⟩ <;> exact ⟨rfl, rfl⟩
theorem dp_putFr (X : dp_X p s m meth c cc nL own D a B) (hin : meth.name = "<init>") (hw : dp_w D a B h s.heap H locs) {C : String} {T : u_T} {N ci index : Nat} {ty : Nat → FieldType} (hC : dp_Cl ci C T N ty) (j : Nat) (hj : j < N) (hlink : Cond.fieldLink own index (T j).1 (T j).2.1 (T j).2.2.1 ∈ lw_tbl) (hfin : (T j).2.2.2 = true) (hdecl : (T j).1 = own) (hty : (∃ n, ty j = .object n) ∨ ∃ n, ty j = .array n) {k v : Nat} {h' : dp_H} (hp : dp_p h k ci j (.inr (.inr (some v))) = some h') (hdg : decode cc pc = .ok (.putfield index, 3))
    (kk : ∀ (H1 : Heap) (locs1 : List Loc), dp_w D a B h' s.heap H1 locs1 → W p l e R s m args below meth c H1 locs1 cells slots Q (F0 m (pc + 3) ls rest)) : W p l e R s m args below meth c H locs cells slots Q (F0 m pc ls (.ref (B + v) :: .ref (B + k) :: rest)) := dp_putF (v := .inr (.inr (some v))) X hin hw hC j hj hlink hfin hdecl (dp_isr hty _).1 (dp_isr hty _).2 hp hdg kk
theorem dp_iald (X : dp_X p s m meth c cc nL own D a B) (hw : dp_w D a B h s.heap H locs) {k : Nat} {i v : Int32} (hg : dp_ai false h k i = some v) (hdg : decode cc pc = .ok (.iaload, 1))
    (kk : W p l e R s m args below meth c H locs cells slots Q (F0 m (pc + 1) ls (.int v :: rest))) : W p l e R s m args below meth c H locs cells slots Q (F0 m pc ls (.int i :: .ref (B + k) :: rest)) := by
  obtain ⟨n, f, h1, h2, rfl⟩ := dp_ai_e hg
  exact va_iald X.1 X.2.1 X.2.2.2.2.2.1.2.1 hw.1 k 0 (dp_e_at h1) rfl h2 hdg kk
theorem dp_zald (X : dp_X p s m meth c cc nL own D a B) (hw : dp_w D a B h s.heap H locs) {k : Nat} {i v : Int32} (hg : dp_ai true h k i = some v) (hdg : decode cc pc = .ok (.baload, 1))
    (kk : W p l e R s m args below meth c H locs cells slots Q (F0 m (pc + 1) ls (.int v :: rest))) : W p l e R s m args below meth c H locs cells slots Q (F0 m pc ls (.int i :: .ref (B + k) :: rest)) := by
  obtain ⟨n, f, h1, h2, rfl⟩ := dp_ai_e hg
  exact va_zald X.1 X.2.1 X.2.2.2.2.2.1.2.1 hw.1 k 1 (dp_e_at h1) rfl h2 hdg kk
theorem dp_alen (X : dp_X p s m meth c cc nL own D a B) (hw : dp_w D a B h s.heap H locs) {k : Nat} {v : Int32} (hg : dp_ln h k = some v) (hdg : decode cc pc = .ok (.arraylength, 1))
    (kk : W p l e R s m args below meth c H locs cells slots Q (F0 m (pc + 1) ls (.int v :: rest))) : W p l e R s m args below meth c H locs cells slots Q (F0 m pc ls (.ref (B + k) :: rest)) := by
  unfold dp_ln at hg
  split at hg
  · rename_i x hx
    cases hg
    obtain ⟨z, n, f⟩ := x
    cases z with
    | false => exact va_alen X.1 X.2.1 X.2.2.2.2.2.1.2.1 hw.1 k 0 (dp_e_at hx) (ty := .int) rfl rfl hdg kk
    | true => exact va_alen X.1 X.2.1 X.2.2.2.2.2.1.2.1 hw.1 k 1 (dp_e_at hx) (ty := .boolean) rfl rfl hdg kk
  · rename_i x hx
    cases hg
    exact va_alen X.1 X.2.1 X.2.2.2.2.2.1.2.1 hw.1 k 2 (dp_e_at hx) (ty := .object RX1) rfl rfl hdg kk
  · cases hg
theorem dp_aald (X : dp_X p s m meth c cc nL own D a B) (hw : dp_w D a B h s.heap H locs) {k v : Nat} {i : Int32} (hg : dp_ar h k i = some v) (hdg : decode cc pc = .ok (.aaload, 1))
    (kk : W p l e R s m args below meth c H locs cells slots Q (F0 m (pc + 1) ls (.ref (B + v) :: rest))) : W p l e R s m args below meth c H locs cells slots Q (F0 m pc ls (.int i :: .ref (B + k) :: rest)) := by
  obtain ⟨n, f, h1, h2, h3⟩ := dp_ar_e hg
  refine va_aldq X.1 X.2.1 X.2.2.2.2.2.1.2.1 hw.1 k 2 (dp_e_at h1) (C := RX1) rfl h2 hdg ?_
  show W p l e R s m args below meth c H locs cells slots Q (F0 m (pc + 1) ls (va_rf (Option.map (fun k => B + k) (f i.toNatClampNeg)) :: rest))
  rw [h3]
  exact kk
theorem dp_iast (X : dp_X p s m meth c cc nL own D a B) (hw : dp_w D a B h s.heap H locs) {k : Nat} {i v : Int32} {h' : dp_H} (hg : dp_si false h k i v = some h') (hdg : decode cc pc = .ok (.iastore, 1))
    (kk : ∀ (H1 : Heap) (locs1 : List Loc), dp_w D a B h' s.heap H1 locs1 → W p l e R s m args below meth c H1 locs1 cells slots Q (F0 m (pc + 1) ls rest)) : W p l e R s m args below meth c H locs cells slots Q (F0 m pc ls (.int v :: .int i :: .ref (B + k) :: rest)) := by
  obtain ⟨n, f, h1, h2, rfl⟩ := dp_si_e hg
  refine W.iast X.1 X.2.1 (hw.P h1) ((X.2.2.2.2.2.1.2.1.2 0 _ rfl).1 n (fun j => .int (f j))) (fun q => by cases q) (by show ¬ (i < 0 ∨ (arrV _ _ _).slots.size ≤ _); rw [arrV_size]; exact h2) rfl rfl hdg fun H1 e1 z oq => kk H1 _ (hw.arr h1 rfl ?_ z oq)
  refine e1.trans (congrArg some ?_)
  show (arrV a.1 n (fun j => .int (f j))).setSlot _ _ = arrV a.1 n (fun j => .int (upd f i.toNatClampNeg v j))
  rw [arrV_store]
  refine congrArg (arrV _ _) (funext fun q => ?_)
  by_cases hq : q = i.toNatClampNeg <;> simp [updV, upd, hq]
theorem dp_zast (X : dp_X p s m meth c cc nL own D a B) (hw : dp_w D a B h s.heap H locs) {k : Nat} {i v : Int32} (hv : v = 0 ∨ v = 1) {h' : dp_H} (hg : dp_si true h k i v = some h') (hdg : decode cc pc = .ok (.bastore, 1))
    (kk : ∀ (H1 : Heap) (locs1 : List Loc), dp_w D a B h' s.heap H1 locs1 → W p l e R s m args below meth c H1 locs1 cells slots Q (F0 m (pc + 1) ls rest)) : W p l e R s m args below meth c H locs cells slots Q (F0 m pc ls (.int v :: .int i :: .ref (B + k) :: rest)) := by
  obtain ⟨n, f, h1, h2, rfl⟩ := dp_si_e hg
  refine W.zast X.1 X.2.1 (hw.P h1) ((X.2.2.2.2.2.1.2.1.2 1 _ rfl).1 n (fun j => .int (f j))) (fun q => by cases q) (by show ¬ (i < 0 ∨ (arrV _ _ _).slots.size ≤ _); rw [arrV_size]; exact h2) rfl rfl hdg fun H1 e1 z oq => kk H1 _ (hw.arr h1 rfl ?_ z oq)
  refine e1.trans (congrArg some ?_)
  show (arrV a.2.1 n (fun j => .int (f j))).setSlot _ _ = arrV a.2.1 n (fun j => .int (upd f i.toNatClampNeg v j))
  rw [arrV_store, dp_nb hv]
  refine congrArg (arrV _ _) (funext fun q => ?_)
  by_cases hq : q = i.toNatClampNeg <;> simp [updV, upd, hq]
theorem dp_aast (X : dp_X p s m meth c cc nL own D a B) (hw : dp_w D a B h s.heap H locs) {k v : Nat} {i : Int32} {h' : dp_H} (hg : dp_sr h k i v = some h') (hdg : decode cc pc = .ok (.aastore, 1))
    (kk : ∀ (H1 : Heap) (locs1 : List Loc), dp_w D a B h' s.heap H1 locs1 → W p l e R s m args below meth c H1 locs1 cells slots Q (F0 m (pc + 1) ls rest)) : W p l e R s m args below meth c H locs cells slots Q (F0 m pc ls (.ref (B + v) :: .int i :: .ref (B + k) :: rest)) := by
  obtain ⟨n, f, fs, h1, h2, h3, rfl⟩ := dp_sr_e hg
  have hK := X.2.2.2.2.2.1.2.1
  obtain ⟨r', hr', cellV, g1, g2, g3, -⟩ := hw.P h3
  have hcls := (hK.1 1 _ rfl).2
  obtain ⟨kA, comp, k1, k2, k3, -⟩ := (hK.2 2 _ rfl).2
  have hcomp : comp = D.1 1 := Option.some.inj (k3.symm.trans hcls.1)
  subst hcomp
  obtain ⟨kC, hkC, -⟩ := hcls.2
  refine W.aast X.1 X.2.1 (hw.P h1) (fun q h => by cases h) (fun h => by cases h) k1 k2 rfl hkC ⟨fun q => h2 (Or.inl q), by show _ < (arrV _ _ _).slots.size; rw [arrV_size]; exact Nat.not_le.mp fun q => h2 (Or.inr q)⟩ g1 (fun q h => by rw [g3] at h; cases h) (by rw [g2]; exact hkC) (by rw [g2]; exact va_assign hcls) rfl rfl hdg fun H1 e1 z oq => kk H1 _ (hw.arr h1 rfl ?_ z oq)
  refine e1.trans (congrArg some ?_)
  show (arrV a.2.2 n (fun j => va_rf (Option.map (fun k => B + k) (f j)))).setSlot i.toNatClampNeg (.ref (B + v)) = arrV a.2.2 n (fun j => va_rf (Option.map (fun k => B + k) (va_up f i.toNatClampNeg (some v) j)))
  rw [arrV_store]
  refine congrArg (arrV _ _) (funext fun q => ?_)
  by_cases hq : q = i.toNatClampNeg <;> simp [updV, va_up, va_rf, hq]
/-! new cells -/
theorem dp_w.push {H0 H1 : Heap} (hw : dp_w D a B h H0 H locs) {x : dp_C} (e1 : va_at D vwCl (B + h.length, dp_ec a B x) H1) (z : H1.size = H.size + 1) (oq : ∀ q, q < H.size → H1[q]? = H[q]?) : dp_w D a B (h ++ [x]) H0 H1 locs := by
  refine ⟨?_, ?_, Nat.le_trans hw.2.2.1 (by omega), fun q h1 h2 => (oq q (Nat.lt_of_lt_of_le h1 hw.2.2.1)).trans (hw.2.2.2.1 q h1 h2), hw.2.2.2.2⟩
  · rw [← dp_e_push]
    refine (hw.1.kept (fun k x hx => oq x.1 ((hw.1 k x hx).lt))).app (fun k y hy => ?_)
    have hz : k < 1 := (List.getElem?_eq_some_iff.mp hy).1
    rw [show k = 0 by omega] at hy
    cases hy
    exact e1
  · rw [z, hw.2.1, List.length_append]
    simp
    omega
theorem dp_new (X : dp_X p s m meth c cc nL own D a B) (hw : dp_w D a B h s.heap H locs) {C : String} {T : u_T} {N ci index : Nat} {ty : Nat → FieldType} (hC : dp_Cl ci C T N ty) (hcl : Cond.classLink own index C ∈ lw_tbl) (hinst : Cond.instantiable C N ∈ lw_tbl) (hini : Cond.initialized C ∈ lw_tbl) {fs : List dp_V} (hfs : ∀ j, j < N → defaultValue (ty j) = vp_V (fs.map (dp_ev B)) j) (hcells : cells + 1 ≤ R.cells) (hslots : slots + N ≤ R.slots) (hdg : decode cc pc = .ok (.new index, 3))
    (kk : ∀ (H1 : Heap), dp_w D a B (h ++ [.inl (ci, fs)]) s.heap H1 locs → W p l e R s m args below meth c H1 locs (cells + 1) (slots + N) Q (F0 m (pc + 3) ls (.ref (B + h.length) :: rest))) : W p l e R s m args below meth c H locs cells slots Q (F0 m pc ls rest) := by
  obtain ⟨hx, hb, hml, hown, hlk, hK, hB⟩ := X
  have hKn := hK.2.1.1 ci _ hC.1
  have hts : ∀ w ∈ u_ws C T N, w.before args s = true := fun w hw => hK.word (hC.2.1 w hw).1 (hC.2.1 w hw).2
  refine W.newcK hx hb hown (hK.word hcl rfl) (hK.word hinst rfl) (hK.word hini rfl) rfl hdg hcells hslots hKn.2.1 hw.2.1 fun H1 kC hkC e1 z oq => kk H1 (hw.push ⟨_, hC.1, ?_⟩ (by rw [z, hw.2.1]) (fun q hq => oq q (by rw [← hw.2.1]; exact hq)))
  exact (u_born ty hts (fun _ h => h) hKn hkC e1 hC.2.2.1).to hfs
theorem dp_newi (X : dp_X p s m meth c cc nL own D a B) (hw : dp_w D a B h s.heap H locs) (harr : Cond.arrayClass .int ∈ lw_tbl) {n : Int32} {h' : dp_H} (hg : dp_na false h n = some h') (hcells : cells + 1 ≤ R.cells) (hslots : slots + 80 ≤ R.slots) (hdg : decode cc pc = .ok (.newarray .int, 2))
    (kk : ∀ (H1 : Heap), dp_w D a B h' s.heap H1 locs → W p l e R s m args below meth c H1 locs (cells + 1) (slots + 80) Q (F0 m (pc + 2) ls (.ref (B + h.length) :: rest))) : W p l e R s m args below meth c H locs cells slots Q (F0 m pc ls (.int n :: rest)) := by
  obtain ⟨hx, hb, hml, hown, hlk, hK, hB⟩ := X
  obtain ⟨h0, h8, rfl⟩ := dp_na_e hg
  refine va_newaK (atype := .int) hx hb (hK.word harr rfl) rfl hdg rfl h0 rfl (by show _ * 4 ≤ _; omega) hcells (by omega) hw.2.1 fun H1 cA e1 z oq hAr hNm => ?_
  have ea : cA = a.1 := Option.some.inj (hNm.symm.trans (hK.2.1.2 0 _ rfl).2)
  subst ea
  exact W.widen (Nat.le_refl _) (by omega) (kk H1 (hw.push e1 (by rw [z, hw.2.1]) (fun q hq => oq q (by rw [← hw.2.1]; exact hq))))
theorem dp_newz (X : dp_X p s m meth c cc nL own D a B) (hw : dp_w D a B h s.heap H locs) (harr : Cond.arrayClass .boolean ∈ lw_tbl) {n : Int32} {h' : dp_H} (hg : dp_na true h n = some h') (hcells : cells + 1 ≤ R.cells) (hslots : slots + 80 ≤ R.slots) (hdg : decode cc pc = .ok (.newarray .boolean, 2))
    (kk : ∀ (H1 : Heap), dp_w D a B h' s.heap H1 locs → W p l e R s m args below meth c H1 locs (cells + 1) (slots + 80) Q (F0 m (pc + 2) ls (.ref (B + h.length) :: rest))) : W p l e R s m args below meth c H locs cells slots Q (F0 m pc ls (.int n :: rest)) := by
  obtain ⟨hx, hb, hml, hown, hlk, hK, hB⟩ := X
  obtain ⟨h0, h8, rfl⟩ := dp_na_e hg
  refine va_newaK (atype := .boolean) hx hb (hK.word harr rfl) rfl hdg rfl h0 rfl (by show _ * 1 ≤ _; omega) hcells (by omega) hw.2.1 fun H1 cA e1 z oq hAr hNm => ?_
  have ea : cA = a.2.1 := Option.some.inj (hNm.symm.trans (hK.2.1.2 1 _ rfl).2)
  subst ea
  exact W.widen (Nat.le_refl _) (by omega) (kk H1 (hw.push e1 (by rw [z, hw.2.1]) (fun q hq => oq q (by rw [← hw.2.1]; exact hq))))
theorem dp_newr (X : dp_X p s m meth c cc nL own D a B) (hw : dp_w D a B h s.heap H locs) {index : Nat} (hcl : Cond.classLink own index RX1 ∈ lw_tbl) {n : Int32} {h' : dp_H} (hg : dp_nr h n = some h') (hcells : cells + 1 ≤ R.cells) (hslots : slots + 80 ≤ R.slots) (hdg : decode cc pc = .ok (.anewarray index, 3))
    (kk : ∀ (H1 : Heap), dp_w D a B h' s.heap H1 locs → W p l e R s m args below meth c H1 locs (cells + 1) (slots + 80) Q (F0 m (pc + 3) ls (.ref (B + h.length) :: rest))) : W p l e R s m args below meth c H locs cells slots Q (F0 m pc ls (.int n :: rest)) := by
  obtain ⟨hx, hb, hml, hown, hlk, hK, hB⟩ := X
  obtain ⟨h0, h8, rfl⟩ := dp_nr_e hg
  refine W.anew hx hb hown (hK.word hcl rfl) (va_AO.use hK.2.2.2) rfl hdg rfl h0 (by omega) hcells (by omega) fun cA kA comp h1 h2 h3 h4 => ?_
  obtain ⟨kA', comp', -, -, -, k4⟩ := (hK.2.1.2 2 _ rfl).2
  have ea : cA = a.2.2 := Option.some.inj (h1.symm.trans k4)
  subst ea
  refine W.widen (k := cells + 1) (n := slots + 80) (Nat.le_refl _) (by omega) ?_
  rw [hw.2.1]
  refine kk _ (hw.push ?_ (Array.size_push _) (fun q hq => ?_))
  · show (H.push _)[B + h.length]? = some (vp_cell _ _)
    rw [← hw.2.1, Array.getElem?_push, if_pos rfl, arrV_new]
    rfl
  · rw [Array.getElem?_push, if_neg (Nat.ne_of_lt hq)]
/-! locals and returns -/
theorem dp_aload_n {o : Option Nat} (hexec : p.tables.exec = Jvm.exec) (hb : c.code = cc) {k : Fin 4} {i : Nat} (hdg : decode cc pc = .ok (.aload_n k, 1)) (hi : (k : Nat) = i) (hl : ls[i]? = some (.val (dp_ro B o)))
    (kk : W p l e R s m args below meth c H locs cells slots Q (F0 m (pc + 1) ls (dp_ro B o :: rest))) : W p l e R s m args below meth c H locs cells slots Q (F0 m pc ls rest) := by
  cases o with
  | none => exact lv_aload_nN hexec hb hdg hi hl kk
  | some x => exact lv_aload_n hexec hb hdg hi hl kk
theorem dp_aload {o : Option Nat} (hexec : p.tables.exec = Jvm.exec) (hb : c.code = cc) {i : Nat} (hdg : decode cc pc = .ok (.aload i, 2)) (hl : ls[i]? = some (.val (dp_ro B o)))
    (kk : W p l e R s m args below meth c H locs cells slots Q (F0 m (pc + 2) ls (dp_ro B o :: rest))) : W p l e R s m args below meth c H locs cells slots Q (F0 m pc ls rest) := by
  cases o with
  | none => exact lv_aloadN hexec hb hdg hl kk
  | some x => exact lv_aload hexec hb hdg hl kk
theorem dp_astore_n {o : Option Nat} (hexec : p.tables.exec = Jvm.exec) (hb : c.code = cc) {k : Fin 4} {i : Nat} {lv lv' : List (Nat × Value)} (hdg : decode cc pc = .ok (.astore_n k, 1)) (hi : (k : Nat) = i) (hh : lv_has ls nL lv) (hn : i < nL) (hl : (i, dp_ro B o) :: lv.filter (fun q => !(q.1 == i) && !(q.1 + 1 == i && q.2.category == 2)) = lv')
    (kk : ∀ ls' : Array Slot, lv_has ls' nL lv' → W p l e R s m args below meth c H locs cells slots Q (F0 m (pc + 1) ls' rest)) : W p l e R s m args below meth c H locs cells slots Q (F0 m pc ls (dp_ro B o :: rest)) := by
  cases o with
  | none => exact lv_astore_nN hexec hb hdg hi hh hn hl kk
  | some x => exact lv_astore_n hexec hb hdg hi hh hn hl kk
theorem dp_astore {o : Option Nat} (hexec : p.tables.exec = Jvm.exec) (hb : c.code = cc) {i : Nat} {lv lv' : List (Nat × Value)} (hdg : decode cc pc = .ok (.astore i, 2)) (hh : lv_has ls nL lv) (hn : i < nL) (hl : (i, dp_ro B o) :: lv.filter (fun q => !(q.1 == i) && !(q.1 + 1 == i && q.2.category == 2)) = lv')
    (kk : ∀ ls' : Array Slot, lv_has ls' nL lv' → W p l e R s m args below meth c H locs cells slots Q (F0 m (pc + 2) ls' rest)) : W p l e R s m args below meth c H locs cells slots Q (F0 m pc ls (dp_ro B o :: rest)) := by
  cases o with
  | none => exact lv_astoreN hexec hb hdg hh hn hl kk
  | some x => exact lv_astore hexec hb hdg hh hn hl kk
theorem dp_end {r : Option Value} (hw : dp_w D a B h s.heap H locs) {v : Option Value} (hv : v = r) : ∀ t : State, t.heap = H → s.WarmedH t.vm → dp_Q D a B r h args s (.returned v) t := fun t ht _ => by
  subst hv
  exact ⟨rfl, by rw [ht]; exact hw.1, by rw [ht]; exact hw.2.1, hw.2.2.F ht⟩
theorem dp_iret (X : dp_X p s m meth c cc nL own D a B) (hr : meth.sig.returnType = some .int) (hw : dp_w D a B h s.heap H locs) {v : Int32} (hdg : decode cc pc = .ok (.ireturn, 1)) : W p l e R s m args below meth c H locs cells slots (MQ below (dp_Q D a B (some (.int v)) h) args s cells slots (fun q => B ≤ q)) (F0 m pc ls [.int v]) := W.iret X.1 X.2.1 hr (dp_end hw rfl) hw.2.2.2.2 hdg X.2.2.2.2.1
theorem dp_zret (X : dp_X p s m meth c cc nL own D a B) (hr : meth.sig.returnType = some .boolean) (hw : dp_w D a B h s.heap H locs) {v : Int32} (hv : v = 0 ∨ v = 1) (hdg : decode cc pc = .ok (.ireturn, 1)) : W p l e R s m args below meth c H locs cells slots (MQ below (dp_Q D a B (some (.int v)) h) args s cells slots (fun q => B ≤ q)) (F0 m pc ls [.int v]) := W.zret X.1 X.2.1 hr (dp_nb hv) (dp_end hw rfl) hw.2.2.2.2 hdg X.2.2.2.2.1
theorem dp_lret (X : dp_X p s m meth c cc nL own D a B) (hr : meth.sig.returnType = some .long) (hw : dp_w D a B h s.heap H locs) {v : Int64} (hdg : decode cc pc = .ok (.lreturn, 1)) : W p l e R s m args below meth c H locs cells slots (MQ below (dp_Q D a B (some (.long v)) h) args s cells slots (fun q => B ≤ q)) (F0 m pc ls [.long v]) := W.lret X.1 X.2.1 hr (dp_end hw rfl) hw.2.2.2.2 hdg X.2.2.2.2.1
theorem dp_vret (X : dp_X p s m meth c cc nL own D a B) (hr : meth.sig.returnType = none) (hw : dp_w D a B h s.heap H locs) (hdg : decode cc pc = .ok (.return_, 1)) : W p l e R s m args below meth c H locs cells slots (MQ below (dp_Q D a B none h) args s cells slots (fun q => B ≤ q)) (F0 m pc ls []) := W.vret X.1 X.2.1 hr (dp_end hw rfl) hw.2.2.2.2 hdg X.2.2.2.2.1
theorem dp_aret (X : dp_X p s m meth c cc nL own D a B) {rt : FieldType} (hr : meth.sig.returnType = some rt) (hrt : (∃ n, rt = .object n) ∨ ∃ t, rt = .array t) (hw : dp_w D a B h s.heap H locs) {k : Nat} (hdg : decode cc pc = .ok (.areturn, 1)) : W p l e R s m args below meth c H locs cells slots (MQ below (dp_Q D a B (some (.ref (B + k))) h) args s cells slots (fun q => B ≤ q)) (F0 m pc ls [.ref (B + k)]) := W.aret X.1 X.2.1 hr hrt (Or.inr ⟨_, rfl⟩) (dp_end hw rfl) hw.2.2.2.2 hdg X.2.2.2.2.1
theorem dp_areto (X : dp_X p s m meth c cc nL own D a B) {rt : FieldType} (hr : meth.sig.returnType = some rt) (hrt : (∃ n, rt = .object n) ∨ ∃ t, rt = .array t) (hw : dp_w D a B h s.heap H locs) {o : Option Nat} (hdg : decode cc pc = .ok (.areturn, 1)) : W p l e R s m args below meth c H locs cells slots (MQ below (dp_Q D a B (some (dp_ro B o)) h) args s cells slots (fun q => B ≤ q)) (F0 m pc ls [dp_ro B o]) := W.aret X.1 X.2.1 hr hrt (by cases o; exact Or.inl rfl; exact Or.inr ⟨_, rfl⟩) (dp_end hw rfl) hw.2.2.2.2 hdg X.2.2.2.2.1
/-! calls -/
theorem dp_go {rv : Option Value} {h' : dp_H} {av : Array Value} {st0 : List Value} {mc ms : Nat} (hB : B ≤ s.heap.size) (hw : dp_w D a B h s.heap H locs) (hr : va_Run p l e R s m args below meth c H locs cells slots mc ms (F0 m pc ls st0) rest (dp_Q D a B rv h' av) (fun q => B ≤ q))
    (kk : ∀ (H1 : Heap) (locs1 : List Loc), dp_w D a B h' s.heap H1 locs1 → W p l e R s m args below meth c H1 locs1 (cells + mc) (slots + ms) Q (F0 m (pc + 3) ls (rv.toList ++ rest))) : W p l e R s m args below meth c H locs cells slots Q (F0 m pc ls st0) := by
  intro T hT Xs
  obtain ⟨v, st₀, t, T', L, h0, X', hL, e1, e2, ⟨hv, hP, hz, hF⟩, st⟩ := hr T hT Xs
  cases hv
  obtain ⟨f1, f2⟩ := hF
  rw [h0] at f1 f2
  obtain ⟨t2, a1, b1⟩ := kk T'.heap (locs ++ L) ⟨by rw [e1]; exact hP, by rw [e1]; exact hz, by rw [e1]; exact Nat.le_trans hw.2.2.1 f1, fun q h1 h2 => by
      rw [e1, f2 q (Nat.lt_of_lt_of_le h1 hw.2.2.1) h2]; exact hw.2.2.2.1 q h1 h2, fun q hq => by
      rcases List.mem_append.mp hq with h | h
      · exact hw.2.2.2.2 q h
      · exact hL q h⟩ T' rfl X'
  exact ⟨t2, st t2 a1, b1⟩
theorem dp_blind {av : List Value} : FrameBlind (va_Pc av (dp_P0 D a B h)) := fun _ _ g mk q => ⟨q.1, q.2.1, q.2.2.1, q.2.2.2.calling g mk _⟩
theorem dp_pre (X : dp_X p s m meth c cc nL own D a B) (hw : dp_w D a B h s.heap H locs) {av : List Value} : ∀ U : State, U.heap = H → s.WarmedH U.vm → va_Pc av (dp_P0 D a B h) av.toArray U := fun U hU hW => ⟨rfl, by rw [hU]; exact hw.1, by rw [hU]; exact hw.2.1, X.2.2.2.2.2.1.warm hW⟩
/-- the words of a callee: an instance method of the class C -/
def dp_Vm (y : MethodName) (C : String) (bytes : ByteArray) (maxL : Nat) (ret : Option FieldType) (n : Nat) : Prop :=
  Cond.code y bytes maxL ret ∈ lw_tbl ∧ Cond.initialized y.cls ∈ lw_tbl ∧ (y.cls ≠ "java/lang/invoke/MethodHandle" ∧ y.cls ≠ "java/lang/invoke/VarHandle" ∧ (parseMethodDescriptor y.desc).map (fun d => d.parameters.length) = some n) ∧ Cond.instanceMethod y ∈ lw_tbl ∧ Cond.selects C y y ∈ lw_tbl
/-- a static method, or a constructor -/
def dp_Sm (y : MethodName) (bytes : ByteArray) (maxL : Nat) (ret : Option FieldType) (n : Nat) : Prop :=
  Cond.code y bytes maxL ret ∈ lw_tbl ∧ Cond.initialized y.cls ∈ lw_tbl ∧ (y.cls ≠ "java/lang/invoke/MethodHandle" ∧ y.cls ≠ "java/lang/invoke/VarHandle" ∧ (parseMethodDescriptor y.desc).map (fun d => d.parameters.length) = some n)
theorem dp_cws {y : MethodName} {bytes : ByteArray} {maxL : Nat} {ret : Option FieldType} {n index : Nat} {rm : Room} (X : dp_X p s m meth c cc nL own D a B) (hv : dp_Sm y bytes maxL ret n) (hl : Cond.methodLink own index y ∈ lw_tbl) (hR : rm.frames + 1 ≤ R.frames ∧ 8 + (maxL + 11) + rm.locals ≤ R.locals) : CallB R s args own index y bytes maxL ret [Cond.code y bytes maxL ret] rm rm.cells rm.slots n := by
  have hK := X.2.2.2.2.2.1
  refine ⟨rfl, rfl, hR.1, hR.2, fun w hw a' U hW => ?_, List.mem_cons_self, hK.word hv.1 rfl, hK.word hv.2.1 rfl, ⟨hv.2.2.1, hv.2.2.2.1⟩, fun sig h => ?_, hK.word hl rfl⟩
  · rw [List.mem_singleton] at hw
    subst hw
    exact (hK.warm hW).word hv.1 rfl
  · have h2 := hv.2.2.2.2
    rw [h] at h2
    exact (Option.some.inj h2).symm
theorem dp_cV {y : MethodName} {C : String} {bytes : ByteArray} {maxL : Nat} {ret : Option FieldType} {n index ci k : Nat} {rm : Room} {As st0 : List Value} {v : Value} {h' : dp_H} {T : u_T} {N : Nat} (X : dp_X p s m meth c cc nL own D a B) (hw : dp_w D a B h s.heap H locs) (hM : dp_M l D a B y bytes maxL ret rm (.ref (B + k) :: As) h (some v) h') (hv : dp_Vm y C bytes maxL ret n) (hl : Cond.methodLink own index y ∈ lw_tbl) (hR : rm.frames + 1 ≤ R.frames ∧ 8 + (maxL + 11) + rm.locals ≤ R.locals) (h0 : rm.cells = 0) (h1 : rm.slots = 0)
    (hck : dp_is h k ci = true) (hc : vwCl[ci]? = some (C, T, N)) (hn : As.length = n) (hsize : ls.size = nL) (hst : st0 = As.reverse ++ .ref (B + k) :: rest) (hW : (rest.map fun v => v.category).sum ≤ 8) (hdg : decode cc pc = .ok (.invokevirtual index, 3)) (hf : cells ≤ R.cells ∧ slots ≤ R.slots)
    (kk : ∀ (H1 : Heap) (locs1 : List Loc), dp_w D a B h' s.heap H1 locs1 → W p l e R s m args below meth c H1 locs1 cells slots Q (F0 m (pc + 3) ls (v :: rest))) : W p l e R s m args below meth c H locs cells slots Q (F0 m pc ls st0) := by
  obtain ⟨fs, hfs⟩ := dp_is_e hck
  have hK := X.2.2.2.2.2.1
  refine dp_go X.2.2.2.2.2.2 hw (va_runV (b := B + k) (As := As) (C := C) (Ts := []) ⟨X.1, X.2.1, X.2.2.1, X.2.2.2.1, fun w h => by cases h⟩ hM ⟨dp_cws X ⟨hv.1, hv.2.1, hv.2.2.1⟩ hl hR, hK.word hv.2.2.2.1 rfl, hK.word hv.2.2.2.2 rfl⟩ ⟨dp_blind, va_recv hK.2.1 hw.1 hc (dp_e_at hfs), dp_pre X hw⟩ rfl hn hsize hst (lv_room hW) hdg (by rw [h0, h1]; exact hf)) (fun H1 locs1 hw1 => ?_)
  rw [h0, h1]
  exact kk H1 locs1 hw1
theorem dp_cVv {y : MethodName} {C : String} {bytes : ByteArray} {maxL : Nat} {ret : Option FieldType} {n index ci k : Nat} {rm : Room} {As st0 : List Value} {h' : dp_H} {T : u_T} {N : Nat} (X : dp_X p s m meth c cc nL own D a B) (hw : dp_w D a B h s.heap H locs) (hM : dp_M l D a B y bytes maxL ret rm (.ref (B + k) :: As) h none h') (hv : dp_Vm y C bytes maxL ret n) (hl : Cond.methodLink own index y ∈ lw_tbl) (hR : rm.frames + 1 ≤ R.frames ∧ 8 + (maxL + 11) + rm.locals ≤ R.locals) (h0 : rm.cells = 0) (h1 : rm.slots = 0)
    (hck : dp_is h k ci = true) (hc : vwCl[ci]? = some (C, T, N)) (hn : As.length = n) (hsize : ls.size = nL) (hst : st0 = As.reverse ++ .ref (B + k) :: rest) (hW : (rest.map fun v => v.category).sum ≤ 8) (hdg : decode cc pc = .ok (.invokevirtual index, 3)) (hf : cells ≤ R.cells ∧ slots ≤ R.slots)
    (kk : ∀ (H1 : Heap) (locs1 : List Loc), dp_w D a B h' s.heap H1 locs1 → W p l e R s m args below meth c H1 locs1 cells slots Q (F0 m (pc + 3) ls rest)) : W p l e R s m args below meth c H locs cells slots Q (F0 m pc ls st0) := by
  obtain ⟨fs, hfs⟩ := dp_is_e hck
  have hK := X.2.2.2.2.2.1
  refine dp_go X.2.2.2.2.2.2 hw (va_runV (b := B + k) (As := As) (C := C) (Ts := []) ⟨X.1, X.2.1, X.2.2.1, X.2.2.2.1, fun w h => by cases h⟩ hM ⟨dp_cws X ⟨hv.1, hv.2.1, hv.2.2.1⟩ hl hR, hK.word hv.2.2.2.1 rfl, hK.word hv.2.2.2.2 rfl⟩ ⟨dp_blind, va_recv hK.2.1 hw.1 hc (dp_e_at hfs), dp_pre X hw⟩ rfl hn hsize hst (lv_room hW) hdg (by rw [h0, h1]; exact hf)) (fun H1 locs1 hw1 => ?_)
  rw [h0, h1]
  exact kk H1 locs1 hw1
theorem dp_cS {y : MethodName} {bytes : ByteArray} {maxL : Nat} {ret : Option FieldType} {n index : Nat} {rm : Room} {As st0 : List Value} {v : Value} {h' : dp_H} (X : dp_X p s m meth c cc nL own D a B) (hw : dp_w D a B h s.heap H locs) (hM : dp_M l D a B y bytes maxL ret rm As h (some v) h') (hv : dp_Sm y bytes maxL ret n) (hs : Cond.static y ∈ lw_tbl) (hl : Cond.methodLink own index y ∈ lw_tbl) (hR : rm.frames + 1 ≤ R.frames ∧ 8 + (maxL + 11) + rm.locals ≤ R.locals) (h0 : rm.cells = 0) (h1 : rm.slots = 0)
    (hn : As.length = n) (hsize : ls.size = nL) (hst : st0 = As.reverse ++ rest) (hW : (rest.map fun v => v.category).sum ≤ 8) (hdg : decode cc pc = .ok (.invokestatic index, 3)) (hf : cells ≤ R.cells ∧ slots ≤ R.slots)
    (kk : ∀ (H1 : Heap) (locs1 : List Loc), dp_w D a B h' s.heap H1 locs1 → W p l e R s m args below meth c H1 locs1 cells slots Q (F0 m (pc + 3) ls (v :: rest))) : W p l e R s m args below meth c H locs cells slots Q (F0 m pc ls st0) := by
  have hK := X.2.2.2.2.2.1
  refine dp_go X.2.2.2.2.2.2 hw (va_runS (As := As) (Ts := []) ⟨X.1, X.2.1, X.2.2.1, X.2.2.2.1, fun w h => by cases h⟩ hM ⟨dp_cws X hv hl hR, hK.word hs rfl⟩ ⟨dp_blind, dp_pre X hw⟩ rfl hn hsize hst (lv_room hW) hdg (by rw [h0, h1]; exact hf)) (fun H1 locs1 hw1 => ?_)
  rw [h0, h1]
  exact kk H1 locs1 hw1
theorem dp_cN {y : MethodName} {host : String} {bytes : ByteArray} {maxL : Nat} {ret : Option FieldType} {n index : Nat} {rm : Room} (X : dp_X p s m meth c cc nL own D a B) (hv : dp_Sm y bytes maxL ret n) (hl : Cond.methodLinkNest own index y host ∈ dp_N) (hR : rm.frames + 1 ≤ R.frames ∧ 8 + (maxL + 11) + rm.locals ≤ R.locals) : va_CN R s args own index y host bytes maxL ret [Cond.code y bytes maxL ret] rm rm.cells rm.slots n := by
  have hK := X.2.2.2.2.2.1
  refine ⟨⟨rfl, rfl, hR.1, hR.2, fun w hw a' U hW => ?_, List.mem_cons_self⟩, hK.word hv.1 rfl, hK.word hv.2.1 rfl, ⟨hv.2.2.1, hv.2.2.2.1⟩, fun sig h => ?_, va_Nw.use rfl (hK.2.2.1 _ hl)⟩
  · rw [List.mem_singleton] at hw
    subst hw
    exact (hK.warm hW).word hv.1 rfl
  · have h2 := hv.2.2.2.2
    rw [h] at h2
    exact (Option.some.inj h2).symm
theorem dp_cSN {y : MethodName} {host : String} {bytes : ByteArray} {maxL : Nat} {ret : Option FieldType} {n index : Nat} {rm : Room} {As st0 : List Value} {v : Value} {h' : dp_H} (X : dp_X p s m meth c cc nL own D a B) (hw : dp_w D a B h s.heap H locs) (hM : dp_M l D a B y bytes maxL ret rm As h (some v) h') (hv : dp_Sm y bytes maxL ret n) (hs : Cond.static y ∈ lw_tbl) (hl : Cond.methodLinkNest own index y host ∈ dp_N) (hR : rm.frames + 1 ≤ R.frames ∧ 8 + (maxL + 11) + rm.locals ≤ R.locals) (h0 : rm.cells = 0) (h1 : rm.slots = 0)
    (hn : As.length = n) (hsize : ls.size = nL) (hst : st0 = As.reverse ++ rest) (hW : (rest.map fun v => v.category).sum ≤ 8) (hdg : decode cc pc = .ok (.invokestatic index, 3)) (hf : cells ≤ R.cells ∧ slots ≤ R.slots)
    (kk : ∀ (H1 : Heap) (locs1 : List Loc), dp_w D a B h' s.heap H1 locs1 → W p l e R s m args below meth c H1 locs1 cells slots Q (F0 m (pc + 3) ls (v :: rest))) : W p l e R s m args below meth c H locs cells slots Q (F0 m pc ls st0) := by
  have hK := X.2.2.2.2.2.1
  refine dp_go X.2.2.2.2.2.2 hw (va_runSN (As := As) (Ts := []) ⟨X.1, X.2.1, X.2.2.1, X.2.2.2.1, fun w h => by cases h⟩ hM ⟨dp_cN X hv hl hR, hK.word hs rfl, trivial⟩ ⟨dp_blind, dp_pre X hw⟩ rfl hn hsize hst (lv_room hW) hdg (by rw [h0, h1]; exact hf)) (fun H1 locs1 hw1 => ?_)
  rw [h0, h1]
  exact kk H1 locs1 hw1
theorem dp_cI {y : MethodName} {bytes : ByteArray} {maxL : Nat} {n index k : Nat} {rm : Room} {As st0 : List Value} {h' : dp_H} (X : dp_X p s m meth c cc nL own D a B) (hw : dp_w D a B h s.heap H locs) (hM : dp_M l D a B y bytes maxL none rm (.ref (B + k) :: As) h none h') (hv : dp_Sm y bytes maxL none n) (hy : y.name = "<init>") (hs : Cond.instanceMethod y ∈ lw_tbl) (hl : Cond.methodLink own index y ∈ lw_tbl) (hR : rm.frames + 1 ≤ R.frames ∧ 8 + (maxL + 11) + rm.locals ≤ R.locals)
    (hn : As.length = n) (hsize : ls.size = nL) (hst : st0 = As.reverse ++ .ref (B + k) :: rest) (hW : (rest.map fun v => v.category).sum ≤ 8) (hdg : decode cc pc = .ok (.invokespecial index, 3)) (hf : cells + rm.cells ≤ R.cells ∧ slots + rm.slots ≤ R.slots)
    (kk : ∀ (H1 : Heap) (locs1 : List Loc), dp_w D a B h' s.heap H1 locs1 → W p l e R s m args below meth c H1 locs1 (cells + rm.cells) (slots + rm.slots) Q (F0 m (pc + 3) ls rest)) : W p l e R s m args below meth c H locs cells slots Q (F0 m pc ls st0) := by
  have hK := X.2.2.2.2.2.1
  exact dp_go X.2.2.2.2.2.2 hw (va_runI (b := B + k) (As := As) (Ts := []) ⟨X.1, X.2.1, X.2.2.1, X.2.2.2.1, fun w h => by cases h⟩ hM ⟨dp_cws X hv hl hR, hy, hK.word hs rfl⟩ ⟨dp_blind, dp_pre X hw⟩ rfl hn hsize hst (lv_room hW) hdg hf) (fun H1 locs1 hw1 => kk H1 locs1 hw1)
theorem dp_cIN {y : MethodName} {host : String} {bytes : ByteArray} {maxL : Nat} {n index k : Nat} {rm : Room} {As st0 : List Value} {h' : dp_H} (X : dp_X p s m meth c cc nL own D a B) (hw : dp_w D a B h s.heap H locs) (hM : dp_M l D a B y bytes maxL none rm (.ref (B + k) :: As) h none h') (hv : dp_Sm y bytes maxL none n) (hy : y.name = "<init>") (hs : Cond.instanceMethod y ∈ lw_tbl) (hl : Cond.methodLinkNest own index y host ∈ dp_N) (hR : rm.frames + 1 ≤ R.frames ∧ 8 + (maxL + 11) + rm.locals ≤ R.locals)
    (hn : As.length = n) (hsize : ls.size = nL) (hst : st0 = As.reverse ++ .ref (B + k) :: rest) (hW : (rest.map fun v => v.category).sum ≤ 8) (hdg : decode cc pc = .ok (.invokespecial index, 3)) (hf : cells + rm.cells ≤ R.cells ∧ slots + rm.slots ≤ R.slots)
    (kk : ∀ (H1 : Heap) (locs1 : List Loc), dp_w D a B h' s.heap H1 locs1 → W p l e R s m args below meth c H1 locs1 (cells + rm.cells) (slots + rm.slots) Q (F0 m (pc + 3) ls rest)) : W p l e R s m args below meth c H locs cells slots Q (F0 m pc ls st0) := by
  have hK := X.2.2.2.2.2.1
  exact dp_go X.2.2.2.2.2.2 hw (va_runIN (b := B + k) (As := As) (Ts := []) ⟨X.1, X.2.1, X.2.2.1, X.2.2.2.1, fun w h => by cases h⟩ hM ⟨dp_cN X hv hl hR, hy, hK.word hs rfl⟩ ⟨dp_blind, dp_pre X hw⟩ rfl hn hsize hst (lv_room hW) hdg hf) (fun H1 locs1 hw1 => kk H1 locs1 hw1)
end DPR
end
section
theorem lw_at {w : Cond} (i : Nat) (h : tables_1[i]? = some w) : w ∈ lw_tbl := List.mem_append_right _ (List.mem_of_getElem? h)
theorem lw_pr {w : Cond} (i : Nat) (h : (k2_sels lw_privs)[i]? = some w) : w ∈ lw_tbl := List.mem_append_left _ (List.mem_of_getElem? h)
def bl_X0 : List dp_V := [.inr (.inr none), .inr (.inr none), .inl 0, .inl 0, .inl 0, .inl 0, .inl 0, .inl 0, .inl 0]
theorem bl_X0_ok {B : Nat} : ∀ j, j < 9 → defaultValue (tyX0 j) = vp_V (bl_X0.map (dp_ev B)) j := fun j hj => match j, hj with
  | 0, _ => rfl
  | 1, _ => rfl
  | 2, _ => rfl
  | 3, _ => rfl
  | 4, _ => rfl
  | 5, _ => rfl
  | 6, _ => rfl
  | 7, _ => rfl
  | 8, _ => rfl
theorem ci_X0 : Cond.instantiable RX0 9 ∈ lw_tbl := lw_at 123 (by decide +kernel)
theorem ini_X0 : Cond.initialized RX0 ∈ lw_tbl := lw_at 8 (by decide +kernel)
theorem ly_X0_0 : u_lay RX0 TX0 0 ∈ lw_tbl ∧ goodWord (u_lay RX0 TX0 0) = true := ⟨lw_at 139 (by decide +kernel), by decide +kernel⟩
theorem ly_X0_1 : u_lay RX0 TX0 1 ∈ lw_tbl ∧ goodWord (u_lay RX0 TX0 1) = true := ⟨lw_at 141 (by decide +kernel), by decide +kernel⟩
theorem ly_X0_2 : u_lay RX0 TX0 2 ∈ lw_tbl ∧ goodWord (u_lay RX0 TX0 2) = true := ⟨lw_at 143 (by decide +kernel), by decide +kernel⟩
theorem ly_X0_3 : u_lay RX0 TX0 3 ∈ lw_tbl ∧ goodWord (u_lay RX0 TX0 3) = true := ⟨lw_at 145 (by decide +kernel), by decide +kernel⟩
theorem ly_X0_4 : u_lay RX0 TX0 4 ∈ lw_tbl ∧ goodWord (u_lay RX0 TX0 4) = true := ⟨lw_at 147 (by decide +kernel), by decide +kernel⟩
theorem ly_X0_5 : u_lay RX0 TX0 5 ∈ lw_tbl ∧ goodWord (u_lay RX0 TX0 5) = true := ⟨lw_at 149 (by decide +kernel), by decide +kernel⟩
theorem ly_X0_6 : u_lay RX0 TX0 6 ∈ lw_tbl ∧ goodWord (u_lay RX0 TX0 6) = true := ⟨lw_at 151 (by decide +kernel), by decide +kernel⟩
theorem ly_X0_7 : u_lay RX0 TX0 7 ∈ lw_tbl ∧ goodWord (u_lay RX0 TX0 7) = true := ⟨lw_at 153 (by decide +kernel), by decide +kernel⟩
theorem ly_X0_8 : u_lay RX0 TX0 8 ∈ lw_tbl ∧ goodWord (u_lay RX0 TX0 8) = true := ⟨lw_at 155 (by decide +kernel), by decide +kernel⟩
theorem ly_X0 : ∀ w ∈ u_ws RX0 TX0 9, w ∈ lw_tbl ∧ goodWord w = true := by
  intro w hw
  obtain ⟨k, hk, rfl⟩ := List.mem_map.mp hw
  have hk := List.mem_range.mp hk
  match k, hk with
  | 0, _ => exact ly_X0_0
  | 1, _ => exact ly_X0_1
  | 2, _ => exact ly_X0_2
  | 3, _ => exact ly_X0_3
  | 4, _ => exact ly_X0_4
  | 5, _ => exact ly_X0_5
  | 6, _ => exact ly_X0_6
  | 7, _ => exact ly_X0_7
  | 8, _ => exact ly_X0_8
theorem cl_X0 : dp_Cl 0 RX0 TX0 9 tyX0 := ⟨rfl, ly_X0, tyX0_ok, nmX0⟩
def bl_X1 : List dp_V := [.inr (.inr none), .inr (.inr none), .inr (.inr none), .inl 0, .inl 0, .inl 0, .inl 0]
theorem bl_X1_ok {B : Nat} : ∀ j, j < 7 → defaultValue (tyX1 j) = vp_V (bl_X1.map (dp_ev B)) j := fun j hj => match j, hj with
  | 0, _ => rfl
  | 1, _ => rfl
  | 2, _ => rfl
  | 3, _ => rfl
  | 4, _ => rfl
  | 5, _ => rfl
  | 6, _ => rfl
theorem ci_X1 : Cond.instantiable RX1 7 ∈ lw_tbl := lw_at 43 (by decide +kernel)
theorem ini_X1 : Cond.initialized RX1 ∈ lw_tbl := lw_at 5 (by decide +kernel)
theorem ly_X1_0 : u_lay RX1 TX1 0 ∈ lw_tbl ∧ goodWord (u_lay RX1 TX1 0) = true := ⟨lw_at 57 (by decide +kernel), by decide +kernel⟩
theorem ly_X1_1 : u_lay RX1 TX1 1 ∈ lw_tbl ∧ goodWord (u_lay RX1 TX1 1) = true := ⟨lw_at 59 (by decide +kernel), by decide +kernel⟩
theorem ly_X1_2 : u_lay RX1 TX1 2 ∈ lw_tbl ∧ goodWord (u_lay RX1 TX1 2) = true := ⟨lw_at 61 (by decide +kernel), by decide +kernel⟩
theorem ly_X1_3 : u_lay RX1 TX1 3 ∈ lw_tbl ∧ goodWord (u_lay RX1 TX1 3) = true := ⟨lw_at 63 (by decide +kernel), by decide +kernel⟩
theorem ly_X1_4 : u_lay RX1 TX1 4 ∈ lw_tbl ∧ goodWord (u_lay RX1 TX1 4) = true := ⟨lw_at 65 (by decide +kernel), by decide +kernel⟩
theorem ly_X1_5 : u_lay RX1 TX1 5 ∈ lw_tbl ∧ goodWord (u_lay RX1 TX1 5) = true := ⟨lw_at 67 (by decide +kernel), by decide +kernel⟩
theorem ly_X1_6 : u_lay RX1 TX1 6 ∈ lw_tbl ∧ goodWord (u_lay RX1 TX1 6) = true := ⟨lw_at 69 (by decide +kernel), by decide +kernel⟩
theorem ly_X1 : ∀ w ∈ u_ws RX1 TX1 7, w ∈ lw_tbl ∧ goodWord w = true := by
  intro w hw
  obtain ⟨k, hk, rfl⟩ := List.mem_map.mp hw
  have hk := List.mem_range.mp hk
  match k, hk with
  | 0, _ => exact ly_X1_0
  | 1, _ => exact ly_X1_1
  | 2, _ => exact ly_X1_2
  | 3, _ => exact ly_X1_3
  | 4, _ => exact ly_X1_4
  | 5, _ => exact ly_X1_5
  | 6, _ => exact ly_X1_6
theorem cl_X1 : dp_Cl 1 RX1 TX1 7 tyX1 := ⟨rfl, ly_X1, tyX1_ok, nmX1⟩
def bl_X2 : List dp_V := [.inr (.inr none), .inl 0, .inl 0, .inl 0]
theorem bl_X2_ok {B : Nat} : ∀ j, j < 4 → defaultValue (tyX2 j) = vp_V (bl_X2.map (dp_ev B)) j := fun j hj => match j, hj with
  | 0, _ => rfl
  | 1, _ => rfl
  | 2, _ => rfl
  | 3, _ => rfl
theorem ci_X2 : Cond.instantiable RX2 4 ∈ lw_tbl := lw_at 37 (by decide +kernel)
theorem ini_X2 : Cond.initialized RX2 ∈ lw_tbl := lw_at 4 (by decide +kernel)
theorem ly_X2_0 : u_lay RX2 TX2 0 ∈ lw_tbl ∧ goodWord (u_lay RX2 TX2 0) = true := ⟨lw_at 76 (by decide +kernel), by decide +kernel⟩
theorem ly_X2_1 : u_lay RX2 TX2 1 ∈ lw_tbl ∧ goodWord (u_lay RX2 TX2 1) = true := ⟨lw_at 78 (by decide +kernel), by decide +kernel⟩
theorem ly_X2_2 : u_lay RX2 TX2 2 ∈ lw_tbl ∧ goodWord (u_lay RX2 TX2 2) = true := ⟨lw_at 80 (by decide +kernel), by decide +kernel⟩
theorem ly_X2_3 : u_lay RX2 TX2 3 ∈ lw_tbl ∧ goodWord (u_lay RX2 TX2 3) = true := ⟨lw_at 82 (by decide +kernel), by decide +kernel⟩
theorem ly_X2 : ∀ w ∈ u_ws RX2 TX2 4, w ∈ lw_tbl ∧ goodWord w = true := by
  intro w hw
  obtain ⟨k, hk, rfl⟩ := List.mem_map.mp hw
  have hk := List.mem_range.mp hk
  match k, hk with
  | 0, _ => exact ly_X2_0
  | 1, _ => exact ly_X2_1
  | 2, _ => exact ly_X2_2
  | 3, _ => exact ly_X2_3
theorem cl_X2 : dp_Cl 2 RX2 TX2 4 tyX2 := ⟨rfl, ly_X2, tyX2_ok, nmX2⟩
def bl_X3 : List dp_V := [.inr (.inr none), .inl 0]
theorem bl_X3_ok {B : Nat} : ∀ j, j < 2 → defaultValue (tyX3 j) = vp_V (bl_X3.map (dp_ev B)) j := fun j hj => match j, hj with
  | 0, _ => rfl
  | 1, _ => rfl
theorem ci_X3 : Cond.instantiable RX3 2 ∈ lw_tbl := lw_at 86 (by decide +kernel)
theorem ini_X3 : Cond.initialized RX3 ∈ lw_tbl := lw_at 6 (by decide +kernel)
theorem ly_X3_0 : u_lay RX3 TX3 0 ∈ lw_tbl ∧ goodWord (u_lay RX3 TX3 0) = true := ⟨lw_at 96 (by decide +kernel), by decide +kernel⟩
theorem ly_X3_1 : u_lay RX3 TX3 1 ∈ lw_tbl ∧ goodWord (u_lay RX3 TX3 1) = true := ⟨lw_at 98 (by decide +kernel), by decide +kernel⟩
theorem ly_X3 : ∀ w ∈ u_ws RX3 TX3 2, w ∈ lw_tbl ∧ goodWord w = true := by
  intro w hw
  obtain ⟨k, hk, rfl⟩ := List.mem_map.mp hw
  have hk := List.mem_range.mp hk
  match k, hk with
  | 0, _ => exact ly_X3_0
  | 1, _ => exact ly_X3_1
theorem cl_X3 : dp_Cl 3 RX3 TX3 2 tyX3 := ⟨rfl, ly_X3, tyX3_ok, nmX3⟩
def bl_X4 : List dp_V := [.inr (.inr none), .inr (.inr none), .inl 0, .inl 0]
theorem bl_X4_ok {B : Nat} : ∀ j, j < 4 → defaultValue (tyX4 j) = vp_V (bl_X4.map (dp_ev B)) j := fun j hj => match j, hj with
  | 0, _ => rfl
  | 1, _ => rfl
  | 2, _ => rfl
  | 3, _ => rfl
theorem ci_X4 : Cond.instantiable RX4 4 ∈ lw_tbl := lw_at 102 (by decide +kernel)
theorem ini_X4 : Cond.initialized RX4 ∈ lw_tbl := lw_at 7 (by decide +kernel)
theorem ly_X4_0 : u_lay RX4 TX4 0 ∈ lw_tbl ∧ goodWord (u_lay RX4 TX4 0) = true := ⟨lw_at 113 (by decide +kernel), by decide +kernel⟩
theorem ly_X4_1 : u_lay RX4 TX4 1 ∈ lw_tbl ∧ goodWord (u_lay RX4 TX4 1) = true := ⟨lw_at 115 (by decide +kernel), by decide +kernel⟩
theorem ly_X4_2 : u_lay RX4 TX4 2 ∈ lw_tbl ∧ goodWord (u_lay RX4 TX4 2) = true := ⟨lw_at 117 (by decide +kernel), by decide +kernel⟩
theorem ly_X4_3 : u_lay RX4 TX4 3 ∈ lw_tbl ∧ goodWord (u_lay RX4 TX4 3) = true := ⟨lw_at 119 (by decide +kernel), by decide +kernel⟩
theorem ly_X4 : ∀ w ∈ u_ws RX4 TX4 4, w ∈ lw_tbl ∧ goodWord w = true := by
  intro w hw
  obtain ⟨k, hk, rfl⟩ := List.mem_map.mp hw
  have hk := List.mem_range.mp hk
  match k, hk with
  | 0, _ => exact ly_X4_0
  | 1, _ => exact ly_X4_1
  | 2, _ => exact ly_X4_2
  | 3, _ => exact ly_X4_3
theorem cl_X4 : dp_Cl 4 RX4 TX4 4 tyX4 := ⟨rfl, ly_X4, tyX4_ok, nmX4⟩
def bl_X5 : List dp_V := [.inr (.inr none), .inl 0]
theorem bl_X5_ok {B : Nat} : ∀ j, j < 2 → defaultValue (tyX5 j) = vp_V (bl_X5.map (dp_ev B)) j := fun j hj => match j, hj with
  | 0, _ => rfl
  | 1, _ => rfl
theorem ci_X5 : Cond.instantiable RX5 2 ∈ lw_tbl := lw_at 20 (by decide +kernel)
theorem ini_X5 : Cond.initialized RX5 ∈ lw_tbl := lw_at 2 (by decide +kernel)
theorem ly_X5_0 : u_lay RX5 TX5 0 ∈ lw_tbl ∧ goodWord (u_lay RX5 TX5 0) = true := ⟨lw_at 30 (by decide +kernel), by decide +kernel⟩
theorem ly_X5_1 : u_lay RX5 TX5 1 ∈ lw_tbl ∧ goodWord (u_lay RX5 TX5 1) = true := ⟨lw_at 32 (by decide +kernel), by decide +kernel⟩
theorem ly_X5 : ∀ w ∈ u_ws RX5 TX5 2, w ∈ lw_tbl ∧ goodWord w = true := by
  intro w hw
  obtain ⟨k, hk, rfl⟩ := List.mem_map.mp hw
  have hk := List.mem_range.mp hk
  match k, hk with
  | 0, _ => exact ly_X5_0
  | 1, _ => exact ly_X5_1
theorem cl_X5 : dp_Cl 5 RX5 TX5 2 tyX5 := ⟨rfl, ly_X5, tyX5_ok, nmX5⟩
def bl_X6 : List dp_V := [.inr (.inr none), .inr (.inr none), .inr (.inr none), .inr (.inr none), .inr (.inr none), .inr (.inr none)]
theorem bl_X6_ok {B : Nat} : ∀ j, j < 6 → defaultValue (tyX6 j) = vp_V (bl_X6.map (dp_ev B)) j := fun j hj => match j, hj with
  | 0, _ => rfl
  | 1, _ => rfl
  | 2, _ => rfl
  | 3, _ => rfl
  | 4, _ => rfl
  | 5, _ => rfl
theorem ci_X6 : Cond.instantiable RX6 6 ∈ lw_tbl := lw_at 12 (by decide +kernel)
theorem ini_X6 : Cond.initialized RX6 ∈ lw_tbl := lw_at 1 (by decide +kernel)
theorem ly_X6_0 : u_lay RX6 TX6 0 ∈ lw_tbl ∧ goodWord (u_lay RX6 TX6 0) = true := ⟨lw_at 164 (by decide +kernel), by decide +kernel⟩
theorem ly_X6_1 : u_lay RX6 TX6 1 ∈ lw_tbl ∧ goodWord (u_lay RX6 TX6 1) = true := ⟨lw_at 166 (by decide +kernel), by decide +kernel⟩
theorem ly_X6_2 : u_lay RX6 TX6 2 ∈ lw_tbl ∧ goodWord (u_lay RX6 TX6 2) = true := ⟨lw_at 168 (by decide +kernel), by decide +kernel⟩
theorem ly_X6_3 : u_lay RX6 TX6 3 ∈ lw_tbl ∧ goodWord (u_lay RX6 TX6 3) = true := ⟨lw_at 170 (by decide +kernel), by decide +kernel⟩
theorem ly_X6_4 : u_lay RX6 TX6 4 ∈ lw_tbl ∧ goodWord (u_lay RX6 TX6 4) = true := ⟨lw_at 172 (by decide +kernel), by decide +kernel⟩
theorem ly_X6_5 : u_lay RX6 TX6 5 ∈ lw_tbl ∧ goodWord (u_lay RX6 TX6 5) = true := ⟨lw_at 174 (by decide +kernel), by decide +kernel⟩
theorem ly_X6 : ∀ w ∈ u_ws RX6 TX6 6, w ∈ lw_tbl ∧ goodWord w = true := by
  intro w hw
  obtain ⟨k, hk, rfl⟩ := List.mem_map.mp hw
  have hk := List.mem_range.mp hk
  match k, hk with
  | 0, _ => exact ly_X6_0
  | 1, _ => exact ly_X6_1
  | 2, _ => exact ly_X6_2
  | 3, _ => exact ly_X6_3
  | 4, _ => exact ly_X6_4
  | 5, _ => exact ly_X6_5
theorem cl_X6 : dp_Cl 6 RX6 TX6 6 tyX6 := ⟨rfl, ly_X6, tyX6_ok, nmX6⟩
def bl_X7 : List dp_V := [.inl 0, .inr (.inr none), .inl 0, .inr (.inr none), .inr (.inr none), .inr (.inr none), .inr (.inr none), .inr (.inr none), .inr (.inr none), .inr (.inr none), .inr (.inr none), .inl 0, .inl 0, .inl 0, .inl 0, .inl 0, .inl 0, .inl 0, .inr (.inr none), .inl 0, .inl 0, .inl 0, .inl 0, .inr (.inr none), .inl 0, .inr (.inr none), .inl 0, .inl 0, .inl 0, .inr (.inr none), .inl 0, .inl 0, .inr (.inl 0)]
theorem bl_X7_ok {B : Nat} : ∀ j, j < 33 → defaultValue (tyX7 j) = vp_V (bl_X7.map (dp_ev B)) j := fun j hj => match j, hj with
  | 0, _ => rfl
  | 1, _ => rfl
  | 2, _ => rfl
  | 3, _ => rfl
  | 4, _ => rfl
  | 5, _ => rfl
  | 6, _ => rfl
  | 7, _ => rfl
  | 8, _ => rfl
  | 9, _ => rfl
  | 10, _ => rfl
  | 11, _ => rfl
  | 12, _ => rfl
  | 13, _ => rfl
  | 14, _ => rfl
  | 15, _ => rfl
  | 16, _ => rfl
  | 17, _ => rfl
  | 18, _ => rfl
  | 19, _ => rfl
  | 20, _ => rfl
  | 21, _ => rfl
  | 22, _ => rfl
  | 23, _ => rfl
  | 24, _ => rfl
  | 25, _ => rfl
  | 26, _ => rfl
  | 27, _ => rfl
  | 28, _ => rfl
  | 29, _ => rfl
  | 30, _ => rfl
  | 31, _ => rfl
  | 32, _ => rfl
  | k + 33, h => absurd h (by omega)
theorem ci_X7 : Cond.instantiable RX7 33 ∈ lw_tbl := lw_at 623 (by decide +kernel)
theorem ini_X7 : Cond.initialized RX7 ∈ lw_tbl := lw_at 9 (by decide +kernel)
theorem ly_X7_0 : u_lay RX7 TX7 0 ∈ lw_tbl ∧ goodWord (u_lay RX7 TX7 0) = true := ⟨lw_at 661 (by decide +kernel), by decide +kernel⟩
theorem ly_X7_1 : u_lay RX7 TX7 1 ∈ lw_tbl ∧ goodWord (u_lay RX7 TX7 1) = true := ⟨lw_at 663 (by decide +kernel), by decide +kernel⟩
theorem ly_X7_2 : u_lay RX7 TX7 2 ∈ lw_tbl ∧ goodWord (u_lay RX7 TX7 2) = true := ⟨lw_at 665 (by decide +kernel), by decide +kernel⟩
theorem ly_X7_3 : u_lay RX7 TX7 3 ∈ lw_tbl ∧ goodWord (u_lay RX7 TX7 3) = true := ⟨lw_at 667 (by decide +kernel), by decide +kernel⟩
theorem ly_X7_4 : u_lay RX7 TX7 4 ∈ lw_tbl ∧ goodWord (u_lay RX7 TX7 4) = true := ⟨lw_at 669 (by decide +kernel), by decide +kernel⟩
theorem ly_X7_5 : u_lay RX7 TX7 5 ∈ lw_tbl ∧ goodWord (u_lay RX7 TX7 5) = true := ⟨lw_at 671 (by decide +kernel), by decide +kernel⟩
theorem ly_X7_6 : u_lay RX7 TX7 6 ∈ lw_tbl ∧ goodWord (u_lay RX7 TX7 6) = true := ⟨lw_at 673 (by decide +kernel), by decide +kernel⟩
theorem ly_X7_7 : u_lay RX7 TX7 7 ∈ lw_tbl ∧ goodWord (u_lay RX7 TX7 7) = true := ⟨lw_at 675 (by decide +kernel), by decide +kernel⟩
theorem ly_X7_8 : u_lay RX7 TX7 8 ∈ lw_tbl ∧ goodWord (u_lay RX7 TX7 8) = true := ⟨lw_at 677 (by decide +kernel), by decide +kernel⟩
theorem ly_X7_9 : u_lay RX7 TX7 9 ∈ lw_tbl ∧ goodWord (u_lay RX7 TX7 9) = true := ⟨lw_at 679 (by decide +kernel), by decide +kernel⟩
theorem ly_X7_10 : u_lay RX7 TX7 10 ∈ lw_tbl ∧ goodWord (u_lay RX7 TX7 10) = true := ⟨lw_at 681 (by decide +kernel), by decide +kernel⟩
theorem ly_X7_11 : u_lay RX7 TX7 11 ∈ lw_tbl ∧ goodWord (u_lay RX7 TX7 11) = true := ⟨lw_at 683 (by decide +kernel), by decide +kernel⟩
theorem ly_X7_12 : u_lay RX7 TX7 12 ∈ lw_tbl ∧ goodWord (u_lay RX7 TX7 12) = true := ⟨lw_at 685 (by decide +kernel), by decide +kernel⟩
theorem ly_X7_13 : u_lay RX7 TX7 13 ∈ lw_tbl ∧ goodWord (u_lay RX7 TX7 13) = true := ⟨lw_at 687 (by decide +kernel), by decide +kernel⟩
theorem ly_X7_14 : u_lay RX7 TX7 14 ∈ lw_tbl ∧ goodWord (u_lay RX7 TX7 14) = true := ⟨lw_at 689 (by decide +kernel), by decide +kernel⟩
theorem ly_X7_15 : u_lay RX7 TX7 15 ∈ lw_tbl ∧ goodWord (u_lay RX7 TX7 15) = true := ⟨lw_at 691 (by decide +kernel), by decide +kernel⟩
theorem ly_X7_16 : u_lay RX7 TX7 16 ∈ lw_tbl ∧ goodWord (u_lay RX7 TX7 16) = true := ⟨lw_at 693 (by decide +kernel), by decide +kernel⟩
theorem ly_X7_17 : u_lay RX7 TX7 17 ∈ lw_tbl ∧ goodWord (u_lay RX7 TX7 17) = true := ⟨lw_at 695 (by decide +kernel), by decide +kernel⟩
theorem ly_X7_18 : u_lay RX7 TX7 18 ∈ lw_tbl ∧ goodWord (u_lay RX7 TX7 18) = true := ⟨lw_at 697 (by decide +kernel), by decide +kernel⟩
theorem ly_X7_19 : u_lay RX7 TX7 19 ∈ lw_tbl ∧ goodWord (u_lay RX7 TX7 19) = true := ⟨lw_at 699 (by decide +kernel), by decide +kernel⟩
theorem ly_X7_20 : u_lay RX7 TX7 20 ∈ lw_tbl ∧ goodWord (u_lay RX7 TX7 20) = true := ⟨lw_at 701 (by decide +kernel), by decide +kernel⟩
theorem ly_X7_21 : u_lay RX7 TX7 21 ∈ lw_tbl ∧ goodWord (u_lay RX7 TX7 21) = true := ⟨lw_at 703 (by decide +kernel), by decide +kernel⟩
theorem ly_X7_22 : u_lay RX7 TX7 22 ∈ lw_tbl ∧ goodWord (u_lay RX7 TX7 22) = true := ⟨lw_at 705 (by decide +kernel), by decide +kernel⟩
theorem ly_X7_23 : u_lay RX7 TX7 23 ∈ lw_tbl ∧ goodWord (u_lay RX7 TX7 23) = true := ⟨lw_at 707 (by decide +kernel), by decide +kernel⟩
theorem ly_X7_24 : u_lay RX7 TX7 24 ∈ lw_tbl ∧ goodWord (u_lay RX7 TX7 24) = true := ⟨lw_at 709 (by decide +kernel), by decide +kernel⟩
theorem ly_X7_25 : u_lay RX7 TX7 25 ∈ lw_tbl ∧ goodWord (u_lay RX7 TX7 25) = true := ⟨lw_at 711 (by decide +kernel), by decide +kernel⟩
theorem ly_X7_26 : u_lay RX7 TX7 26 ∈ lw_tbl ∧ goodWord (u_lay RX7 TX7 26) = true := ⟨lw_at 713 (by decide +kernel), by decide +kernel⟩
theorem ly_X7_27 : u_lay RX7 TX7 27 ∈ lw_tbl ∧ goodWord (u_lay RX7 TX7 27) = true := ⟨lw_at 715 (by decide +kernel), by decide +kernel⟩
theorem ly_X7_28 : u_lay RX7 TX7 28 ∈ lw_tbl ∧ goodWord (u_lay RX7 TX7 28) = true := ⟨lw_at 717 (by decide +kernel), by decide +kernel⟩
theorem ly_X7_29 : u_lay RX7 TX7 29 ∈ lw_tbl ∧ goodWord (u_lay RX7 TX7 29) = true := ⟨lw_at 719 (by decide +kernel), by decide +kernel⟩
theorem ly_X7_30 : u_lay RX7 TX7 30 ∈ lw_tbl ∧ goodWord (u_lay RX7 TX7 30) = true := ⟨lw_at 721 (by decide +kernel), by decide +kernel⟩
theorem ly_X7_31 : u_lay RX7 TX7 31 ∈ lw_tbl ∧ goodWord (u_lay RX7 TX7 31) = true := ⟨lw_at 723 (by decide +kernel), by decide +kernel⟩
theorem ly_X7_32 : u_lay RX7 TX7 32 ∈ lw_tbl ∧ goodWord (u_lay RX7 TX7 32) = true := ⟨lw_at 725 (by decide +kernel), by decide +kernel⟩
theorem ly_X7 : ∀ w ∈ u_ws RX7 TX7 33, w ∈ lw_tbl ∧ goodWord w = true := by
  intro w hw
  obtain ⟨k, hk, rfl⟩ := List.mem_map.mp hw
  have hk := List.mem_range.mp hk
  match k, hk with
  | 0, _ => exact ly_X7_0
  | 1, _ => exact ly_X7_1
  | 2, _ => exact ly_X7_2
  | 3, _ => exact ly_X7_3
  | 4, _ => exact ly_X7_4
  | 5, _ => exact ly_X7_5
  | 6, _ => exact ly_X7_6
  | 7, _ => exact ly_X7_7
  | 8, _ => exact ly_X7_8
  | 9, _ => exact ly_X7_9
  | 10, _ => exact ly_X7_10
  | 11, _ => exact ly_X7_11
  | 12, _ => exact ly_X7_12
  | 13, _ => exact ly_X7_13
  | 14, _ => exact ly_X7_14
  | 15, _ => exact ly_X7_15
  | 16, _ => exact ly_X7_16
  | 17, _ => exact ly_X7_17
  | 18, _ => exact ly_X7_18
  | 19, _ => exact ly_X7_19
  | 20, _ => exact ly_X7_20
  | 21, _ => exact ly_X7_21
  | 22, _ => exact ly_X7_22
  | 23, _ => exact ly_X7_23
  | 24, _ => exact ly_X7_24
  | 25, _ => exact ly_X7_25
  | 26, _ => exact ly_X7_26
  | 27, _ => exact ly_X7_27
  | 28, _ => exact ly_X7_28
  | 29, _ => exact ly_X7_29
  | 30, _ => exact ly_X7_30
  | 31, _ => exact ly_X7_31
  | 32, _ => exact ly_X7_32
  | k + 33, h => exact absurd h (by omega)
theorem cl_X7 : dp_Cl 7 RX7 TX7 33 tyX7 := ⟨rfl, ly_X7, tyX7_ok, nmX7⟩
theorem fl_X0_14 : Cond.fieldLink RX0 14 (TX0 0).1 (TX0 0).2.1 (TX0 0).2.2.1 ∈ lw_tbl := lw_at 130 (by decide +kernel)
theorem fl_X0_20 : Cond.fieldLink RX0 20 (TX0 1).1 (TX0 1).2.1 (TX0 1).2.2.1 ∈ lw_tbl := lw_at 131 (by decide +kernel)
theorem fl_X0_24 : Cond.fieldLink RX0 24 (TX0 2).1 (TX0 2).2.1 (TX0 2).2.2.1 ∈ lw_tbl := lw_at 132 (by decide +kernel)
theorem fl_X0_28 : Cond.fieldLink RX0 28 (TX0 3).1 (TX0 3).2.1 (TX0 3).2.2.1 ∈ lw_tbl := lw_at 133 (by decide +kernel)
theorem fl_X0_31 : Cond.fieldLink RX0 31 (TX0 4).1 (TX0 4).2.1 (TX0 4).2.2.1 ∈ lw_tbl := lw_at 134 (by decide +kernel)
theorem fl_X0_34 : Cond.fieldLink RX0 34 (TX0 5).1 (TX0 5).2.1 (TX0 5).2.2.1 ∈ lw_tbl := lw_at 135 (by decide +kernel)
theorem fl_X0_37 : Cond.fieldLink RX0 37 (TX0 6).1 (TX0 6).2.1 (TX0 6).2.2.1 ∈ lw_tbl := lw_at 136 (by decide +kernel)
theorem fl_X0_40 : Cond.fieldLink RX0 40 (TX0 7).1 (TX0 7).2.1 (TX0 7).2.2.1 ∈ lw_tbl := lw_at 137 (by decide +kernel)
theorem fl_X0_43 : Cond.fieldLink RX0 43 (TX0 8).1 (TX0 8).2.1 (TX0 8).2.2.1 ∈ lw_tbl := lw_at 138 (by decide +kernel)
theorem fl_X1_9 : Cond.fieldLink RX1 9 (TX1 0).1 (TX1 0).2.1 (TX1 0).2.2.1 ∈ lw_tbl := lw_at 50 (by decide +kernel)
theorem fl_X1_15 : Cond.fieldLink RX1 15 (TX1 1).1 (TX1 1).2.1 (TX1 1).2.2.1 ∈ lw_tbl := lw_at 51 (by decide +kernel)
theorem fl_X1_23 : Cond.fieldLink RX1 23 (TX1 2).1 (TX1 2).2.1 (TX1 2).2.2.1 ∈ lw_tbl := lw_at 52 (by decide +kernel)
theorem fl_X1_27 : Cond.fieldLink RX1 27 (TX1 3).1 (TX1 3).2.1 (TX1 3).2.2.1 ∈ lw_tbl := lw_at 53 (by decide +kernel)
theorem fl_X1_31 : Cond.fieldLink RX1 31 (TX1 4).1 (TX1 4).2.1 (TX1 4).2.2.1 ∈ lw_tbl := lw_at 54 (by decide +kernel)
theorem fl_X1_35 : Cond.fieldLink RX1 35 (TX1 5).1 (TX1 5).2.1 (TX1 5).2.2.1 ∈ lw_tbl := lw_at 55 (by decide +kernel)
theorem fl_X1_38 : Cond.fieldLink RX1 38 (TX1 6).1 (TX1 6).2.1 (TX1 6).2.2.1 ∈ lw_tbl := lw_at 56 (by decide +kernel)
theorem fl_X2_12 : Cond.fieldLink RX2 12 (TX2 0).1 (TX2 0).2.1 (TX2 0).2.2.1 ∈ lw_tbl := lw_at 72 (by decide +kernel)
theorem fl_X2_18 : Cond.fieldLink RX2 18 (TX2 1).1 (TX2 1).2.1 (TX2 1).2.2.1 ∈ lw_tbl := lw_at 73 (by decide +kernel)
theorem fl_X2_84 : Cond.fieldLink RX2 84 (TX2 2).1 (TX2 2).2.1 (TX2 2).2.2.1 ∈ lw_tbl := lw_at 74 (by decide +kernel)
theorem fl_X2_87 : Cond.fieldLink RX2 87 (TX2 3).1 (TX2 3).2.1 (TX2 3).2.2.1 ∈ lw_tbl := lw_at 75 (by decide +kernel)
theorem fl_X3_11 : Cond.fieldLink RX3 11 (TX3 0).1 (TX3 0).2.1 (TX3 0).2.2.1 ∈ lw_tbl := lw_at 94 (by decide +kernel)
theorem fl_X3_18 : Cond.fieldLink RX3 18 (TX3 1).1 (TX3 1).2.1 (TX3 1).2.2.1 ∈ lw_tbl := lw_at 95 (by decide +kernel)
theorem fl_X4_14 : Cond.fieldLink RX4 14 (TX4 0).1 (TX4 0).2.1 (TX4 0).2.2.1 ∈ lw_tbl := lw_at 109 (by decide +kernel)
theorem fl_X4_20 : Cond.fieldLink RX4 20 (TX4 1).1 (TX4 1).2.1 (TX4 1).2.2.1 ∈ lw_tbl := lw_at 110 (by decide +kernel)
theorem fl_X4_23 : Cond.fieldLink RX4 23 (TX4 2).1 (TX4 2).2.1 (TX4 2).2.2.1 ∈ lw_tbl := lw_at 111 (by decide +kernel)
theorem fl_X4_27 : Cond.fieldLink RX4 27 (TX4 3).1 (TX4 3).2.1 (TX4 3).2.2.1 ∈ lw_tbl := lw_at 112 (by decide +kernel)
theorem fl_X5_15 : Cond.fieldLink RX5 15 (TX5 0).1 (TX5 0).2.1 (TX5 0).2.2.1 ∈ lw_tbl := lw_at 28 (by decide +kernel)
theorem fl_X5_21 : Cond.fieldLink RX5 21 (TX5 1).1 (TX5 1).2.1 (TX5 1).2.2.1 ∈ lw_tbl := lw_at 29 (by decide +kernel)
theorem fl_X6_14 : Cond.fieldLink RX6 14 (TX6 0).1 (TX6 0).2.1 (TX6 0).2.2.1 ∈ lw_tbl := lw_at 158 (by decide +kernel)
theorem fl_X6_21 : Cond.fieldLink RX6 21 (TX6 1).1 (TX6 1).2.1 (TX6 1).2.2.1 ∈ lw_tbl := lw_at 159 (by decide +kernel)
theorem fl_X6_28 : Cond.fieldLink RX6 28 (TX6 2).1 (TX6 2).2.1 (TX6 2).2.2.1 ∈ lw_tbl := lw_at 160 (by decide +kernel)
theorem fl_X6_32 : Cond.fieldLink RX6 32 (TX6 3).1 (TX6 3).2.1 (TX6 3).2.2.1 ∈ lw_tbl := lw_at 161 (by decide +kernel)
theorem fl_X6_38 : Cond.fieldLink RX6 38 (TX6 4).1 (TX6 4).2.1 (TX6 4).2.2.1 ∈ lw_tbl := lw_at 162 (by decide +kernel)
theorem fl_X6_45 : Cond.fieldLink RX6 45 (TX6 5).1 (TX6 5).2.1 (TX6 5).2.2.1 ∈ lw_tbl := lw_at 163 (by decide +kernel)
theorem fl_X7_7 : Cond.fieldLink RX7 7 (TX7 1).1 (TX7 1).2.1 (TX7 1).2.2.1 ∈ lw_tbl := lw_at 629 (by decide +kernel)
theorem fl_X7_13 : Cond.fieldLink RX7 13 (TX7 3).1 (TX7 3).2.1 (TX7 3).2.2.1 ∈ lw_tbl := lw_at 631 (by decide +kernel)
theorem fl_X7_16 : Cond.fieldLink RX7 16 (TX7 4).1 (TX7 4).2.1 (TX7 4).2.2.1 ∈ lw_tbl := lw_at 632 (by decide +kernel)
theorem fl_X7_20 : Cond.fieldLink RX7 20 (TX7 5).1 (TX7 5).2.1 (TX7 5).2.2.1 ∈ lw_tbl := lw_at 633 (by decide +kernel)
theorem fl_X7_23 : Cond.fieldLink RX7 23 (TX7 6).1 (TX7 6).2.1 (TX7 6).2.2.1 ∈ lw_tbl := lw_at 634 (by decide +kernel)
theorem fl_X7_26 : Cond.fieldLink RX7 26 (TX7 7).1 (TX7 7).2.1 (TX7 7).2.2.1 ∈ lw_tbl := lw_at 635 (by decide +kernel)
theorem fl_X7_29 : Cond.fieldLink RX7 29 (TX7 8).1 (TX7 8).2.1 (TX7 8).2.2.1 ∈ lw_tbl := lw_at 636 (by decide +kernel)
theorem fl_X7_32 : Cond.fieldLink RX7 32 (TX7 9).1 (TX7 9).2.1 (TX7 9).2.2.1 ∈ lw_tbl := lw_at 637 (by decide +kernel)
theorem fl_X7_35 : Cond.fieldLink RX7 35 (TX7 10).1 (TX7 10).2.1 (TX7 10).2.2.1 ∈ lw_tbl := lw_at 638 (by decide +kernel)
theorem fl_X7_38 : Cond.fieldLink RX7 38 (TX7 18).1 (TX7 18).2.1 (TX7 18).2.2.1 ∈ lw_tbl := lw_at 646 (by decide +kernel)
theorem fl_X7_41 : Cond.fieldLink RX7 41 (TX7 23).1 (TX7 23).2.1 (TX7 23).2.2.1 ∈ lw_tbl := lw_at 651 (by decide +kernel)
theorem fl_X7_44 : Cond.fieldLink RX7 44 (TX7 25).1 (TX7 25).2.1 (TX7 25).2.2.1 ∈ lw_tbl := lw_at 653 (by decide +kernel)
theorem fl_X7_47 : Cond.fieldLink RX7 47 (TX7 29).1 (TX7 29).2.1 (TX7 29).2.2.1 ∈ lw_tbl := lw_at 657 (by decide +kernel)
theorem fl_X7_54 : Cond.fieldLink RX7 54 (TX7 0).1 (TX7 0).2.1 (TX7 0).2.2.1 ∈ lw_tbl := lw_at 628 (by decide +kernel)
theorem fl_X7_58 : Cond.fieldLink RX7 58 (TX7 16).1 (TX7 16).2.1 (TX7 16).2.2.1 ∈ lw_tbl := lw_at 644 (by decide +kernel)
theorem fl_X7_61 : Cond.fieldLink RX7 61 (TX7 15).1 (TX7 15).2.1 (TX7 15).2.2.1 ∈ lw_tbl := lw_at 643 (by decide +kernel)
theorem fl_X7_64 : Cond.fieldLink RX7 64 (TX7 17).1 (TX7 17).2.1 (TX7 17).2.2.1 ∈ lw_tbl := lw_at 645 (by decide +kernel)
theorem fl_X7_72 : Cond.fieldLink RX7 72 (TX7 19).1 (TX7 19).2.1 (TX7 19).2.2.1 ∈ lw_tbl := lw_at 647 (by decide +kernel)
theorem fl_X7_75 : Cond.fieldLink RX7 75 (TX7 21).1 (TX7 21).2.1 (TX7 21).2.2.1 ∈ lw_tbl := lw_at 649 (by decide +kernel)
theorem fl_X7_78 : Cond.fieldLink RX7 78 (TX7 20).1 (TX7 20).2.1 (TX7 20).2.2.1 ∈ lw_tbl := lw_at 648 (by decide +kernel)
theorem fl_X7_81 : Cond.fieldLink RX7 81 (TX7 22).1 (TX7 22).2.1 (TX7 22).2.2.1 ∈ lw_tbl := lw_at 650 (by decide +kernel)
theorem fl_X7_106 : Cond.fieldLink RX7 106 (TX7 27).1 (TX7 27).2.1 (TX7 27).2.2.1 ∈ lw_tbl := lw_at 655 (by decide +kernel)
theorem fl_X7_109 : Cond.fieldLink RX7 109 (TX7 2).1 (TX7 2).2.1 (TX7 2).2.2.1 ∈ lw_tbl := lw_at 630 (by decide +kernel)
theorem fl_X7_162 : Cond.fieldLink RX7 162 (TX7 24).1 (TX7 24).2.1 (TX7 24).2.2.1 ∈ lw_tbl := lw_at 652 (by decide +kernel)
theorem fl_X7_165 : Cond.fieldLink RX7 165 (TX7 26).1 (TX7 26).2.1 (TX7 26).2.2.1 ∈ lw_tbl := lw_at 654 (by decide +kernel)
theorem fl_X7_190 : Cond.fieldLink RX7 190 (TX7 28).1 (TX7 28).2.1 (TX7 28).2.2.1 ∈ lw_tbl := lw_at 656 (by decide +kernel)
theorem fl_X7_193 : Cond.fieldLink RX7 193 (TX7 31).1 (TX7 31).2.1 (TX7 31).2.2.1 ∈ lw_tbl := lw_at 659 (by decide +kernel)
theorem fl_X7_196 : Cond.fieldLink RX7 196 (TX7 30).1 (TX7 30).2.1 (TX7 30).2.2.1 ∈ lw_tbl := lw_at 658 (by decide +kernel)
theorem fl_X7_199 : Cond.fieldLink RX7 199 (TX7 11).1 (TX7 11).2.1 (TX7 11).2.2.1 ∈ lw_tbl := lw_at 639 (by decide +kernel)
theorem fl_X7_205 : Cond.fieldLink RX7 205 (TX7 12).1 (TX7 12).2.1 (TX7 12).2.2.1 ∈ lw_tbl := lw_at 640 (by decide +kernel)
theorem fl_X7_208 : Cond.fieldLink RX7 208 (TX7 13).1 (TX7 13).2.1 (TX7 13).2.2.1 ∈ lw_tbl := lw_at 641 (by decide +kernel)
theorem fl_X7_211 : Cond.fieldLink RX7 211 (TX7 14).1 (TX7 14).2.1 (TX7 14).2.2.1 ∈ lw_tbl := lw_at 642 (by decide +kernel)
theorem fl_X7_246 : Cond.fieldLink RX7 246 (TX7 32).1 (TX7 32).2.1 (TX7 32).2.2.1 ∈ lw_tbl := lw_at 660 (by decide +kernel)
theorem ml_L_9 : Cond.methodLink RL 9 yX6_init ∈ lw_tbl := lw_at 13 (by decide +kernel)
theorem ml_L_12 : Cond.methodLink RL 12 yX7_init ∈ lw_tbl := lw_at 624 (by decide +kernel)
theorem ml_L_13 : Cond.methodLink RL 13 yX6_letter ∈ lw_tbl := lw_at 177 (by decide +kernel)
theorem ml_L_17 : Cond.methodLink RL 17 yX7_letter ∈ lw_tbl := lw_at 729 (by decide +kernel)
theorem ml_L_18 : Cond.methodLink RL 18 yX6_blank ∈ lw_tbl := lw_at 189 (by decide +kernel)
theorem ml_L_22 : Cond.methodLink RL 22 yX7_blank ∈ lw_tbl := lw_at 736 (by decide +kernel)
theorem ml_L_23 : Cond.methodLink RL 23 yX6_fault ∈ lw_tbl := lw_at 197 (by decide +kernel)
theorem ml_L_26 : Cond.methodLink RL 26 yX7_fault ∈ lw_tbl := lw_at 740 (by decide +kernel)
theorem ml_L_27 : Cond.methodLink RL 27 yX6_add ∈ lw_tbl := lw_at 301 (by decide +kernel)
theorem ml_L_30 : Cond.methodLink RL 30 yX7_add ∈ lw_tbl := lw_at 776 (by decide +kernel)
theorem ml_L_31 : Cond.methodLink RL 31 yX6_drop ∈ lw_tbl := lw_at 337 (by decide +kernel)
theorem ml_L_34 : Cond.methodLink RL 34 yX7_drop ∈ lw_tbl := lw_at 784 (by decide +kernel)
theorem ml_L_35 : Cond.methodLink RL 35 yX6_pattern ∈ lw_tbl := lw_at 349 (by decide +kernel)
theorem ml_L_39 : Cond.methodLink RL 39 yX7_pattern ∈ lw_tbl := lw_at 796 (by decide +kernel)
theorem ml_L_40 : Cond.methodLink RL 40 yX6_lets ∈ lw_tbl := lw_at 371 (by decide +kernel)
theorem ml_L_43 : Cond.methodLink RL 43 yX7_lets ∈ lw_tbl := lw_at 808 (by decide +kernel)
theorem ml_L_44 : Cond.methodLink RL 44 yX6_narrower ∈ lw_tbl := lw_at 379 (by decide +kernel)
theorem ml_L_47 : Cond.methodLink RL 47 yX7_narrower ∈ lw_tbl := lw_at 816 (by decide +kernel)
theorem ml_L_48 : Cond.methodLink RL 48 yX6_clash ∈ lw_tbl := lw_at 387 (by decide +kernel)
theorem ml_L_51 : Cond.methodLink RL 51 yX7_clash ∈ lw_tbl := lw_at 831 (by decide +kernel)
theorem ml_L_52 : Cond.methodLink RL 52 yX6_row ∈ lw_tbl := lw_at 414 (by decide +kernel)
theorem ml_L_55 : Cond.methodLink RL 55 yX7_row ∈ lw_tbl := lw_at 847 (by decide +kernel)
theorem ml_L_56 : Cond.methodLink RL 56 yX6_stage ∈ lw_tbl := lw_at 470 (by decide +kernel)
theorem ml_L_59 : Cond.methodLink RL 59 yX7_stage ∈ lw_tbl := lw_at 891 (by decide +kernel)
theorem ml_L_60 : Cond.methodLink RL 60 yX6_lift ∈ lw_tbl := lw_at 482 (by decide +kernel)
theorem ml_L_63 : Cond.methodLink RL 63 yX7_lift ∈ lw_tbl := lw_at 895 (by decide +kernel)
theorem ml_L_64 : Cond.methodLink RL 64 yX6_hang ∈ lw_tbl := lw_at 505 (by decide +kernel)
theorem ml_L_67 : Cond.methodLink RL 67 yX7_hang ∈ lw_tbl := lw_at 899 (by decide +kernel)
theorem ml_L_68 : Cond.methodLink RL 68 yX6_press ∈ lw_tbl := lw_at 518 (by decide +kernel)
theorem ml_L_71 : Cond.methodLink RL 71 yX7_press ∈ lw_tbl := lw_at 903 (by decide +kernel)
theorem ml_L_72 : Cond.methodLink RL 72 yX6_pass ∈ lw_tbl := lw_at 540 (by decide +kernel)
theorem ml_L_75 : Cond.methodLink RL 75 yX7_pass ∈ lw_tbl := lw_at 919 (by decide +kernel)
theorem ml_L_76 : Cond.methodLink RL 76 yX6_end ∈ lw_tbl := lw_at 548 (by decide +kernel)
theorem ml_L_79 : Cond.methodLink RL 79 yX7_end ∈ lw_tbl := lw_at 923 (by decide +kernel)
theorem ml_L_80 : Cond.methodLink RL 80 yX6_line ∈ lw_tbl := lw_at 553 (by decide +kernel)
theorem ml_L_83 : Cond.methodLink RL 83 yX7_line ∈ lw_tbl := lw_at 927 (by decide +kernel)
theorem ml_L_84 : Cond.methodLink RL 84 yX6_count ∈ lw_tbl := lw_at 579 (by decide +kernel)
theorem ml_L_87 : Cond.methodLink RL 87 yX7_count ∈ lw_tbl := lw_at 955 (by decide +kernel)
theorem ml_L_88 : Cond.methodLink RL 88 yX6_digest ∈ lw_tbl := lw_at 604 (by decide +kernel)
theorem ml_L_92 : Cond.methodLink RL 92 yX7_digest ∈ lw_tbl := lw_at 967 (by decide +kernel)
theorem ml_X0_3 : Cond.methodLink RX0 3 Lib.objectInit ∈ lw_tbl := lw_at 127 (by decide +kernel)
theorem ml_X0_11 : Cond.methodLink RX0 11 yX5_init ∈ lw_tbl := lw_at 129 (by decide +kernel)
theorem ml_X0_46 : Cond.methodLink RX0 46 yX5_size ∈ lw_tbl := lw_at 498 (by decide +kernel)
theorem ml_X0_52 : Cond.methodLink RX0 52 yX3_reached ∈ lw_tbl := lw_at 499 (by decide +kernel)
theorem ml_X0_58 : Cond.methodLink RX0 58 yX3_winner ∈ lw_tbl := lw_at 531 (by decide +kernel)
theorem ml_X0_62 : Cond.methodLink RX0 62 yX0_goOnWaiting ∈ lw_tbl := lw_at 490 (by decide +kernel)
theorem ml_X0_66 : Cond.methodLink RX0 66 yX5_clear ∈ lw_tbl := lw_at 517 (by decide +kernel)
theorem ml_X0_69 : Cond.methodLink RX0 69 yX5_append ∈ lw_tbl := lw_at 530 (by decide +kernel)
theorem ml_X0_73 : Cond.methodLink RX0 73 yX0_settle ∈ lw_tbl := lw_at 532 (by decide +kernel)
theorem ml_X0_77 : Cond.methodLink RX0 77 yX0_currentStage ∈ lw_tbl := lw_at 494 (by decide +kernel)
theorem ml_X0_81 : Cond.methodLink RX0 81 yX0_ticksOf ∈ lw_tbl := lw_at 500 (by decide +kernel)
theorem ml_X1_3 : Cond.methodLink RX1 3 Lib.objectInit ∈ lw_tbl := lw_at 47 (by decide +kernel)
theorem ml_X1_20 : Cond.methodLink RX1 20 yX5_init ∈ lw_tbl := lw_at 49 (by decide +kernel)
theorem ml_X1_41 : Cond.methodLink RX1 41 yX1_setFrom ∈ lw_tbl := lw_at 209 (by decide +kernel)
theorem ml_X1_45 : Cond.methodLink RX1 45 yX5_clear ∈ lw_tbl := lw_at 214 (by decide +kernel)
theorem ml_X1_48 : Cond.methodLink RX1 48 Lib.Math.max.name ∈ lw_tbl := lw_at 213 (by decide +kernel)
theorem ml_X1_54 : Cond.methodLink RX1 54 yJ6_bitCount_0f7a4 ∈ lw_tbl := lw_at 248 (by decide +kernel)
theorem ml_X1_60 : Cond.methodLink RX1 60 yX5_copyFrom ∈ lw_tbl := lw_at 325 (by decide +kernel)
theorem ml_X1_64 : Cond.methodLink RX1 64 yX5_at ∈ lw_tbl := lw_at 434 (by decide +kernel)
theorem ml_X1_67 : Cond.methodLink RX1 67 yX5_isLike ∈ lw_tbl := lw_at 410 (by decide +kernel)
theorem ml_X1_71 : Cond.methodLink RX1 71 yX1_isNarrowerThan ∈ lw_tbl := lw_at 400 (by decide +kernel)
theorem ml_X1_75 : Cond.methodLink RX1 75 yX1_sharesRowWith ∈ lw_tbl := lw_at 401 (by decide +kernel)
theorem ml_X1_78 : Cond.methodLink RX1 78 yX1_doesLike ∈ lw_tbl := lw_at 406 (by decide +kernel)
theorem ml_X1_81 : Cond.methodLink RX1 81 yX1_digitsAt ∈ lw_tbl := lw_at 405 (by decide +kernel)
theorem ml_X2_3 : Cond.methodLink RX2 3 Lib.objectInit ∈ lw_tbl := lw_at 41 (by decide +kernel)
theorem nl_X2_11 : Cond.methodLinkNest RX2 11 yX1_init "DialPlan" ∈ dp_N := by simp [dp_N]
theorem ml_X2_22 : Cond.methodLink RX2 22 yX1_clear ∈ lw_tbl := lw_at 205 (by decide +kernel)
theorem ml_X2_25 : Cond.methodLink RX2 25 yX5_size ∈ lw_tbl := lw_at 215 (by decide +kernel)
theorem ml_X2_31 : Cond.methodLink RX2 31 yX5_at ∈ lw_tbl := lw_at 216 (by decide +kernel)
theorem ml_X2_35 : Cond.methodLink RX2 35 yX2_take ∈ lw_tbl := lw_at 220 (by decide +kernel)
theorem ml_X2_39 : Cond.methodLink RX2 39 yX2_takePlaceOrTail ∈ lw_tbl := lw_at 224 (by decide +kernel)
theorem ml_X2_42 : Cond.methodLink RX2 42 yX2_takeLow ∈ lw_tbl := lw_at 257 (by decide +kernel)
theorem ml_X2_45 : Cond.methodLink RX2 45 yX2_takeSign ∈ lw_tbl := lw_at 261 (by decide +kernel)
theorem ml_X2_49 : Cond.methodLink RX2 49 yX2_takeHigh ∈ lw_tbl := lw_at 265 (by decide +kernel)
theorem ml_X2_52 : Cond.methodLink RX2 52 yX2_takeBracket ∈ lw_tbl := lw_at 269 (by decide +kernel)
theorem ml_X2_55 : Cond.methodLink RX2 55 yX2_takeWay ∈ lw_tbl := lw_at 273 (by decide +kernel)
theorem ml_X2_58 : Cond.methodLink RX2 58 yX2_takeDrop ∈ lw_tbl := lw_at 284 (by decide +kernel)
theorem ml_X2_61 : Cond.methodLink RX2 61 yX2_takeAhead ∈ lw_tbl := lw_at 292 (by decide +kernel)
theorem ml_X2_64 : Cond.methodLink RX2 64 yX1_places ∈ lw_tbl := lw_at 228 (by decide +kernel)
theorem ml_X2_67 : Cond.methodLink RX2 67 yX1_makeOpen ∈ lw_tbl := lw_at 232 (by decide +kernel)
theorem ml_X2_70 : Cond.methodLink RX2 70 yX1_hasRoom ∈ lw_tbl := lw_at 236 (by decide +kernel)
theorem ml_X2_74 : Cond.methodLink RX2 74 yX2_takePlace ∈ lw_tbl := lw_at 240 (by decide +kernel)
theorem ml_X2_77 : Cond.methodLink RX2 77 yX1_appendPlace ∈ lw_tbl := lw_at 244 (by decide +kernel)
theorem nl_X2_81 : Cond.methodLinkNest RX2 81 yX6_isFigure "DialPlan" ∈ dp_N := by simp [dp_N]
theorem ml_X2_90 : Cond.methodLink RX2 90 yX2_wayOf ∈ lw_tbl := lw_at 277 (by decide +kernel)
theorem ml_X2_93 : Cond.methodLink RX2 93 yX1_setWay ∈ lw_tbl := lw_at 280 (by decide +kernel)
theorem ml_X2_97 : Cond.methodLink RX2 97 yX1_setDropped ∈ lw_tbl := lw_at 288 (by decide +kernel)
theorem ml_X2_100 : Cond.methodLink RX2 100 yX1_ahead ∈ lw_tbl := lw_at 296 (by decide +kernel)
theorem ml_X2_104 : Cond.methodLink RX2 104 yX5_append ∈ lw_tbl := lw_at 300 (by decide +kernel)
theorem ml_X3_3 : Cond.methodLink RX3 3 Lib.objectInit ∈ lw_tbl := lw_at 90 (by decide +kernel)
theorem nl_X3_17 : Cond.methodLinkNest RX3 17 yX1_init "DialPlan" ∈ dp_N := by simp [dp_N]
theorem ml_X3_22 : Cond.methodLink RX3 22 yX1_copyFrom ∈ lw_tbl := lw_at 321 (by decide +kernel)
theorem ml_X3_26 : Cond.methodLink RX3 26 yX3_at ∈ lw_tbl := lw_at 395 (by decide +kernel)
theorem ml_X3_30 : Cond.methodLink RX3 30 yX5_size ∈ lw_tbl := lw_at 429 (by decide +kernel)
theorem ml_X3_35 : Cond.methodLink RX3 35 yX1_reach ∈ lw_tbl := lw_at 430 (by decide +kernel)
theorem ml_X3_39 : Cond.methodLink RX3 39 yX1_way ∈ lw_tbl := lw_at 428 (by decide +kernel)
theorem ml_X3_42 : Cond.methodLink RX3 42 yX1_isNarrowerThan ∈ lw_tbl := lw_at 435 (by decide +kernel)
theorem ml_X3_46 : Cond.methodLink RX3 46 yX3_isSureBy ∈ lw_tbl := lw_at 566 (by decide +kernel)
theorem ml_X3_50 : Cond.methodLink RX3 50 yX1_doesLike ∈ lw_tbl := lw_at 570 (by decide +kernel)
theorem ml_X3_53 : Cond.methodLink RX3 53 yX1_clashesWith ∈ lw_tbl := lw_at 396 (by decide +kernel)
theorem ml_X3_56 : Cond.methodLink RX3 56 yX3_isClash ∈ lw_tbl := lw_at 587 (by decide +kernel)
theorem ml_X4_3 : Cond.methodLink RX4 3 Lib.objectInit ∈ lw_tbl := lw_at 106 (by decide +kernel)
theorem ml_X4_11 : Cond.methodLink RX4 11 yX5_init ∈ lw_tbl := lw_at 108 (by decide +kernel)
theorem ml_X4_30 : Cond.methodLink RX4 30 yX5_copyFrom ∈ lw_tbl := lw_at 444 (by decide +kernel)
theorem ml_X4_34 : Cond.methodLink RX4 34 yX3_winner ∈ lw_tbl := lw_at 445 (by decide +kernel)
theorem ml_X4_40 : Cond.methodLink RX4 40 yX3_at ∈ lw_tbl := lw_at 446 (by decide +kernel)
theorem ml_X4_44 : Cond.methodLink RX4 44 yX4_rewrite ∈ lw_tbl := lw_at 447 (by decide +kernel)
theorem ml_X4_48 : Cond.methodLink RX4 48 yX1_way ∈ lw_tbl := lw_at 456 (by decide +kernel)
theorem ml_X4_53 : Cond.methodLink RX4 53 yX5_clear ∈ lw_tbl := lw_at 457 (by decide +kernel)
theorem ml_X4_56 : Cond.methodLink RX4 56 yX1_ahead ∈ lw_tbl := lw_at 451 (by decide +kernel)
theorem ml_X4_60 : Cond.methodLink RX4 60 yX1_dropped ∈ lw_tbl := lw_at 452 (by decide +kernel)
theorem ml_X4_63 : Cond.methodLink RX4 63 yX5_size ∈ lw_tbl := lw_at 453 (by decide +kernel)
theorem ml_X4_66 : Cond.methodLink RX4 66 yX5_at ∈ lw_tbl := lw_at 454 (by decide +kernel)
theorem ml_X4_69 : Cond.methodLink RX4 69 yX5_append ∈ lw_tbl := lw_at 455 (by decide +kernel)
theorem ml_X5_3 : Cond.methodLink RX5 3 Lib.objectInit ∈ lw_tbl := lw_at 24 (by decide +kernel)
theorem ml_X5_9 : Cond.methodLink RX5 9 Lib.Math.max.name ∈ lw_tbl := lw_at 25 (by decide +kernel)
theorem ml_X5_25 : Cond.methodLink RX5 25 yX5_clear ∈ lw_tbl := lw_at 329 (by decide +kernel)
theorem ml_X5_28 : Cond.methodLink RX5 28 yX5_size ∈ lw_tbl := lw_at 330 (by decide +kernel)
theorem ml_X5_31 : Cond.methodLink RX5 31 yX5_at ∈ lw_tbl := lw_at 331 (by decide +kernel)
theorem ml_X5_35 : Cond.methodLink RX5 35 yX5_append ∈ lw_tbl := lw_at 332 (by decide +kernel)
theorem ml_X6_1 : Cond.methodLink RX6 1 Lib.objectInit ∈ lw_tbl := lw_at 16 (by decide +kernel)
theorem ml_X6_11 : Cond.methodLink RX6 11 yX5_init ∈ lw_tbl := lw_at 21 (by decide +kernel)
theorem nl_X6_20 : Cond.methodLinkNest RX6 20 yX2_init "DialPlan" ∈ dp_N := by simp [dp_N]
theorem ml_X6_27 : Cond.methodLink RX6 27 yX3_init ∈ lw_tbl := lw_at 87 (by decide +kernel)
theorem nl_X6_37 : Cond.methodLinkNest RX6 37 yX4_init "DialPlan" ∈ dp_N := by simp [dp_N]
theorem nl_X6_44 : Cond.methodLinkNest RX6 44 yX0_init "DialPlan" ∈ dp_N := by simp [dp_N]
theorem ml_X6_49 : Cond.methodLink RX6 49 yX5_append ∈ lw_tbl := lw_at 181 (by decide +kernel)
theorem ml_X6_53 : Cond.methodLink RX6 53 yX5_size ∈ lw_tbl := lw_at 185 (by decide +kernel)
theorem ml_X6_57 : Cond.methodLink RX6 57 yX5_clear ∈ lw_tbl := lw_at 193 (by decide +kernel)
theorem ml_X6_60 : Cond.methodLink RX6 60 yX2_scan ∈ lw_tbl := lw_at 201 (by decide +kernel)
theorem ml_X6_64 : Cond.methodLink RX6 64 yX2_isWhole ∈ lw_tbl := lw_at 305 (by decide +kernel)
theorem ml_X6_68 : Cond.methodLink RX6 68 yX0_isUp ∈ lw_tbl := lw_at 309 (by decide +kernel)
theorem ml_X6_71 : Cond.methodLink RX6 71 yX2_draft ∈ lw_tbl := lw_at 313 (by decide +kernel)
theorem ml_X6_75 : Cond.methodLink RX6 75 yX3_append ∈ lw_tbl := lw_at 317 (by decide +kernel)
theorem ml_X6_78 : Cond.methodLink RX6 78 yX3_size ∈ lw_tbl := lw_at 333 (by decide +kernel)
theorem ml_X6_79 : Cond.methodLink RX6 79 yX3_at ∈ lw_tbl := lw_at 341 (by decide +kernel)
theorem ml_X6_83 : Cond.methodLink RX6 83 yX3_remove ∈ lw_tbl := lw_at 345 (by decide +kernel)
theorem ml_X6_86 : Cond.methodLink RX6 86 yX1_places ∈ lw_tbl := lw_at 353 (by decide +kernel)
theorem ml_X6_91 : Cond.methodLink RX6 91 yX1_isOpen ∈ lw_tbl := lw_at 354 (by decide +kernel)
theorem ml_X6_94 : Cond.methodLink RX6 94 yX1_way ∈ lw_tbl := lw_at 358 (by decide +kernel)
theorem ml_X6_97 : Cond.methodLink RX6 97 yX1_dropped ∈ lw_tbl := lw_at 362 (by decide +kernel)
theorem ml_X6_100 : Cond.methodLink RX6 100 yX1_ahead ∈ lw_tbl := lw_at 366 (by decide +kernel)
theorem ml_X6_104 : Cond.methodLink RX6 104 yX5_asNumber ∈ lw_tbl := lw_at 367 (by decide +kernel)
theorem ml_X6_107 : Cond.methodLink RX6 107 yX1_digitsAt ∈ lw_tbl := lw_at 375 (by decide +kernel)
theorem ml_X6_111 : Cond.methodLink RX6 111 yX1_isNarrowerThan ∈ lw_tbl := lw_at 383 (by decide +kernel)
theorem ml_X6_114 : Cond.methodLink RX6 114 yX3_isClash ∈ lw_tbl := lw_at 391 (by decide +kernel)
theorem ml_X6_118 : Cond.methodLink RX6 118 yX6_readsPageAsRow ∈ lw_tbl := lw_at 418 (by decide +kernel)
theorem ml_X6_121 : Cond.methodLink RX6 121 yX3_winner ∈ lw_tbl := lw_at 424 (by decide +kernel)
theorem ml_X6_125 : Cond.methodLink RX6 125 yX3_reached ∈ lw_tbl := lw_at 436 (by decide +kernel)
theorem ml_X6_129 : Cond.methodLink RX6 129 yX4_read ∈ lw_tbl := lw_at 440 (by decide +kernel)
theorem ml_X6_133 : Cond.methodLink RX6 133 yX4_way ∈ lw_tbl := lw_at 458 (by decide +kernel)
theorem ml_X6_134 : Cond.methodLink RX6 134 yX4_times ∈ lw_tbl := lw_at 462 (by decide +kernel)
theorem ml_X6_137 : Cond.methodLink RX6 137 yX4_result ∈ lw_tbl := lw_at 466 (by decide +kernel)
theorem ml_X6_140 : Cond.methodLink RX6 140 yX5_at ∈ lw_tbl := lw_at 422 (by decide +kernel)
theorem ml_X6_142 : Cond.methodLink RX6 142 yX6_isFigure ∈ lw_tbl := lw_at 423 (by decide +kernel)
theorem ml_X6_145 : Cond.methodLink RX6 145 yX0_ticksOf ∈ lw_tbl := lw_at 474 (by decide +kernel)
theorem ml_X6_148 : Cond.methodLink RX6 148 yX0_setTicks ∈ lw_tbl := lw_at 478 (by decide +kernel)
theorem ml_X6_152 : Cond.methodLink RX6 152 yX0_putUp ∈ lw_tbl := lw_at 486 (by decide +kernel)
theorem ml_X6_156 : Cond.methodLink RX6 156 yX0_ticksLeft ∈ lw_tbl := lw_at 501 (by decide +kernel)
theorem ml_X6_159 : Cond.methodLink RX6 159 yX0_dialled ∈ lw_tbl := lw_at 509 (by decide +kernel)
theorem ml_X6_162 : Cond.methodLink RX6 162 yX0_putDown ∈ lw_tbl := lw_at 513 (by decide +kernel)
theorem ml_X6_165 : Cond.methodLink RX6 165 yX0_isWaiting ∈ lw_tbl := lw_at 522 (by decide +kernel)
theorem ml_X6_168 : Cond.methodLink RX6 168 yX0_take ∈ lw_tbl := lw_at 526 (by decide +kernel)
theorem ml_X6_172 : Cond.methodLink RX6 172 yX0_state ∈ lw_tbl := lw_at 536 (by decide +kernel)
theorem ml_X6_175 : Cond.methodLink RX6 175 yX0_letTicksGo ∈ lw_tbl := lw_at 544 (by decide +kernel)
theorem ml_X6_178 : Cond.methodLink RX6 178 yX0_settle ∈ lw_tbl := lw_at 552 (by decide +kernel)
theorem ml_X6_181 : Cond.methodLink RX6 181 yX0_currentStage ∈ lw_tbl := lw_at 557 (by decide +kernel)
theorem ml_X6_185 : Cond.methodLink RX6 185 yX0_winner ∈ lw_tbl := lw_at 558 (by decide +kernel)
theorem ml_X6_187 : Cond.methodLink RX6 187 yX3_sureFrom ∈ lw_tbl := lw_at 562 (by decide +kernel)
theorem ml_X6_190 : Cond.methodLink RX6 190 yX0_ended ∈ lw_tbl := lw_at 571 (by decide +kernel)
theorem ml_X6_193 : Cond.methodLink RX6 193 yX6_wayOfTheLine ∈ lw_tbl := lw_at 575 (by decide +kernel)
theorem ml_X6_196 : Cond.methodLink RX6 196 yX3_clashes ∈ lw_tbl := lw_at 583 (by decide +kernel)
theorem ml_X6_199 : Cond.methodLink RX6 199 yX0_timesLifted ∈ lw_tbl := lw_at 588 (by decide +kernel)
theorem ml_X6_202 : Cond.methodLink RX6 202 yX0_timesReady ∈ lw_tbl := lw_at 592 (by decide +kernel)
theorem ml_X6_205 : Cond.methodLink RX6 205 yX0_timesLost ∈ lw_tbl := lw_at 596 (by decide +kernel)
theorem ml_X6_208 : Cond.methodLink RX6 208 yX0_digitsEver ∈ lw_tbl := lw_at 600 (by decide +kernel)
theorem ml_X6_213 : Cond.methodLink RX6 213 yX6_digestOfPatterns ∈ lw_tbl := lw_at 609 (by decide +kernel)
theorem ml_X6_217 : Cond.methodLink RX6 217 yX6_digestOfClashes ∈ lw_tbl := lw_at 616 (by decide +kernel)
theorem ml_X6_222 : Cond.methodLink RX6 222 yX6_line ∈ lw_tbl := lw_at 620 (by decide +kernel)
theorem ml_X6_225 : Cond.methodLink RX6 225 yX6_count ∈ lw_tbl := lw_at 621 (by decide +kernel)
theorem ml_X6_228 : Cond.methodLink RX6 228 yX6_pattern ∈ lw_tbl := lw_at 614 (by decide +kernel)
theorem ml_X6_232 : Cond.methodLink RX6 232 yX6_lets ∈ lw_tbl := lw_at 615 (by decide +kernel)
theorem ml_X7_1 : Cond.methodLink RX7 1 Lib.objectInit ∈ lw_tbl := lw_at 627 (by decide +kernel)
theorem ml_X7_50 : Cond.methodLink RX7 50 yX7_within ∈ lw_tbl := lw_at 733 (by decide +kernel)
theorem ml_X7_68 : Cond.methodLink RX7 68 yX7_letsNext ∈ lw_tbl := lw_at 756 (by decide +kernel)
theorem ml_X7_84 : Cond.methodLink RX7 84 yX7_takesPlace ∈ lw_tbl := lw_at 752 (by decide +kernel)
theorem ml_X7_87 : Cond.methodLink RX7 87 yX7_takesSpan ∈ lw_tbl := lw_at 760 (by decide +kernel)
theorem ml_X7_90 : Cond.methodLink RX7 90 yX7_takesWay ∈ lw_tbl := lw_at 764 (by decide +kernel)
theorem ml_X7_93 : Cond.methodLink RX7 93 yX7_takesDrop ∈ lw_tbl := lw_at 768 (by decide +kernel)
theorem ml_X7_96 : Cond.methodLink RX7 96 yX7_takesAhead ∈ lw_tbl := lw_at 772 (by decide +kernel)
theorem ml_X7_99 : Cond.methodLink RX7 99 yX7_takes ∈ lw_tbl := lw_at 748 (by decide +kernel)
theorem ml_X7_102 : Cond.methodLink RX7 102 yX7_goAlong ∈ lw_tbl := lw_at 744 (by decide +kernel)
theorem ml_X7_112 : Cond.methodLink RX7 112 yX7_keepPattern ∈ lw_tbl := lw_at 780 (by decide +kernel)
theorem ml_X7_116 : Cond.methodLink RX7 116 yX7_isPattern ∈ lw_tbl := lw_at 788 (by decide +kernel)
theorem ml_X7_119 : Cond.methodLink RX7 119 yX7_copy ∈ lw_tbl := lw_at 792 (by decide +kernel)
theorem ml_X7_123 : Cond.methodLink RX7 123 yX7_aheadNumber ∈ lw_tbl := lw_at 804 (by decide +kernel)
theorem ml_X7_127 : Cond.methodLink RX7 127 yX7_patternNow ∈ lw_tbl := lw_at 800 (by decide +kernel)
theorem ml_X7_131 : Cond.methodLink RX7 131 yX7_letsOf ∈ lw_tbl := lw_at 812 (by decide +kernel)
theorem ml_X7_134 : Cond.methodLink RX7 134 yX7_ones ∈ lw_tbl := lw_at 828 (by decide +kernel)
theorem ml_X7_137 : Cond.methodLink RX7 137 yX7_wide ∈ lw_tbl := lw_at 824 (by decide +kernel)
theorem ml_X7_140 : Cond.methodLink RX7 140 yX7_compare ∈ lw_tbl := lw_at 820 (by decide +kernel)
theorem ml_X7_143 : Cond.methodLink RX7 143 yX7_areLike ∈ lw_tbl := lw_at 843 (by decide +kernel)
theorem ml_X7_147 : Cond.methodLink RX7 147 yX7_isClash ∈ lw_tbl := lw_at 839 (by decide +kernel)
theorem ml_X7_150 : Cond.methodLink RX7 150 yX7_clashAt ∈ lw_tbl := lw_at 835 (by decide +kernel)
theorem ml_X7_153 : Cond.methodLink RX7 153 yX7_begins ∈ lw_tbl := lw_at 867 (by decide +kernel)
theorem ml_X7_156 : Cond.methodLink RX7 156 yX7_fits ∈ lw_tbl := lw_at 863 (by decide +kernel)
theorem ml_X7_159 : Cond.methodLink RX7 159 yX7_leads ∈ lw_tbl := lw_at 879 (by decide +kernel)
theorem ml_X7_168 : Cond.methodLink RX7 168 yX7_fitting ∈ lw_tbl := lw_at 859 (by decide +kernel)
theorem ml_X7_171 : Cond.methodLink RX7 171 yX7_winner ∈ lw_tbl := lw_at 871 (by decide +kernel)
theorem ml_X7_174 : Cond.methodLink RX7 174 yX7_rewrite ∈ lw_tbl := lw_at 887 (by decide +kernel)
theorem ml_X7_177 : Cond.methodLink RX7 177 yX7_leading ∈ lw_tbl := lw_at 875 (by decide +kernel)
theorem ml_X7_180 : Cond.methodLink RX7 180 yX7_read ∈ lw_tbl := lw_at 883 (by decide +kernel)
theorem ml_X7_183 : Cond.methodLink RX7 183 yX7_isRow ∈ lw_tbl := lw_at 851 (by decide +kernel)
theorem ml_X7_187 : Cond.methodLink RX7 187 yX7_rowNow ∈ lw_tbl := lw_at 855 (by decide +kernel)
theorem ml_X7_202 : Cond.methodLink RX7 202 yX7_layPressed ∈ lw_tbl := lw_at 907 (by decide +kernel)
theorem ml_X7_214 : Cond.methodLink RX7 214 yX7_helps ∈ lw_tbl := lw_at 911 (by decide +kernel)
theorem ml_X7_217 : Cond.methodLink RX7 217 yX7_ends ∈ lw_tbl := lw_at 915 (by decide +kernel)
theorem ml_X7_220 : Cond.methodLink RX7 220 yX7_isSureBy ∈ lw_tbl := lw_at 947 (by decide +kernel)
theorem ml_X7_223 : Cond.methodLink RX7 223 yX7_stageNow ∈ lw_tbl := lw_at 935 (by decide +kernel)
theorem ml_X7_226 : Cond.methodLink RX7 226 yX7_winsNow ∈ lw_tbl := lw_at 939 (by decide +kernel)
theorem ml_X7_229 : Cond.methodLink RX7 229 yX7_sureNow ∈ lw_tbl := lw_at 943 (by decide +kernel)
theorem ml_X7_232 : Cond.methodLink RX7 232 yX7_wayNow ∈ lw_tbl := lw_at 951 (by decide +kernel)
theorem ml_X7_235 : Cond.methodLink RX7 235 yX7_lineNow ∈ lw_tbl := lw_at 931 (by decide +kernel)
theorem ml_X7_238 : Cond.methodLink RX7 238 yX7_clashes ∈ lw_tbl := lw_at 963 (by decide +kernel)
theorem ml_X7_241 : Cond.methodLink RX7 241 yX7_howMany ∈ lw_tbl := lw_at 959 (by decide +kernel)
theorem ml_X7_252 : Cond.methodLink RX7 252 yX7_mix ∈ lw_tbl := lw_at 972 (by decide +kernel)
theorem cn_L_7 : Cond.classLink RL 7 RX6 ∈ lw_tbl := lw_at 11 (by decide +kernel)
theorem cn_L_10 : Cond.classLink RL 10 RX7 ∈ lw_tbl := lw_at 622 (by decide +kernel)
theorem cn_X0_9 : Cond.classLink RX0 9 RX5 ∈ lw_tbl := lw_at 128 (by decide +kernel)
theorem cn_X1_18 : Cond.classLink RX1 18 RX5 ∈ lw_tbl := lw_at 48 (by decide +kernel)
theorem cn_X2_9 : Cond.classLink RX2 9 RX1 ∈ lw_tbl := lw_at 42 (by decide +kernel)
theorem cn_X3_9 : Cond.classLink RX3 9 RX1 ∈ lw_tbl := lw_at 91 (by decide +kernel)
theorem cn_X4_9 : Cond.classLink RX4 9 RX5 ∈ lw_tbl := lw_at 107 (by decide +kernel)
theorem cn_X6_7 : Cond.classLink RX6 7 RX5 ∈ lw_tbl := lw_at 19 (by decide +kernel)
theorem cn_X6_18 : Cond.classLink RX6 18 RX2 ∈ lw_tbl := lw_at 36 (by decide +kernel)
theorem cn_X6_25 : Cond.classLink RX6 25 RX3 ∈ lw_tbl := lw_at 85 (by decide +kernel)
theorem cn_X6_35 : Cond.classLink RX6 35 RX4 ∈ lw_tbl := lw_at 101 (by decide +kernel)
theorem cn_X6_42 : Cond.classLink RX6 42 RX0 ∈ lw_tbl := lw_at 122 (by decide +kernel)
theorem kl_X6_211 : Cond.constantLong RX6 211 1669 ∈ lw_tbl := lw_at 608 (by decide +kernel)
theorem kl_X6_220 : Cond.constantLong RX6 220 31 ∈ lw_tbl := lw_at 613 (by decide +kernel)
theorem kl_X7_244 : Cond.constantLong RX7 244 31 ∈ lw_tbl := lw_at 976 (by decide +kernel)
theorem kl_X7_250 : Cond.constantLong RX7 250 1669 ∈ lw_tbl := lw_at 971 (by decide +kernel)
theorem kc_J6_265 : Cond.constant RJ6 265 1431655765 ∈ lw_tbl := lw_at 251 (by decide +kernel)
theorem kc_J6_266 : Cond.constant RJ6 266 858993459 ∈ lw_tbl := lw_at 252 (by decide +kernel)
theorem kc_J6_267 : Cond.constant RJ6 267 252645135 ∈ lw_tbl := lw_at 253 (by decide +kernel)
theorem ac_i : Cond.arrayClass .int ∈ lw_tbl := lw_at 35 (by decide +kernel)
theorem ac_z : Cond.arrayClass .boolean ∈ lw_tbl := lw_at 728 (by decide +kernel)
theorem obj_inst : Cond.instanceMethod Lib.objectInit ∈ lw_tbl := lw_at 17 (by decide +kernel)
theorem obj_code : Cond.code Lib.objectInit ⟨#[0xb1]⟩ 1 none ∈ lw_tbl := lw_at 18 (by decide +kernel)
theorem max_stat : Cond.static Lib.Math.max.name ∈ lw_tbl := lw_at 26 (by decide +kernel)
theorem max_ini : Cond.initialized "java/lang/Math" ∈ lw_tbl := lw_at 3 (by decide +kernel)
theorem max_code : Cond.code Lib.Math.max.name Lib.Math.max.code 2 (some .int) ∈ lw_tbl := lw_at 27 (by decide +kernel)
theorem co_J6_bitCount_0f7a4 : Cond.code yJ6_bitCount_0f7a4 cJ6_bitCount_0f7a4 1 (some .int) ∈ lw_tbl := lw_at 250 (by decide +kernel)
theorem sm_J6_bitCount_0f7a4 : dp_Sm yJ6_bitCount_0f7a4 cJ6_bitCount_0f7a4 1 (some .int) 1 := ⟨co_J6_bitCount_0f7a4, (lw_at 10 (by decide +kernel)), by decide +kernel, by decide +kernel, by decide +kernel⟩
theorem st_J6_bitCount_0f7a4 : Cond.static yJ6_bitCount_0f7a4 ∈ lw_tbl := lw_at 249 (by decide +kernel)
theorem co_X0_currentStage : Cond.code yX0_currentStage cX0_currentStage 2 (some .int) ∈ lw_tbl := lw_at 497 (by decide +kernel)
theorem sm_X0_currentStage : dp_Sm yX0_currentStage cX0_currentStage 2 (some .int) 1 := ⟨co_X0_currentStage, (lw_at 8 (by decide +kernel)), by decide +kernel, by decide +kernel, by decide +kernel⟩
theorem in_X0_currentStage : Cond.instanceMethod yX0_currentStage ∈ lw_tbl := lw_at 495 (by decide +kernel)
theorem vm_X0_currentStage : dp_Vm yX0_currentStage RX0 cX0_currentStage 2 (some .int) 1 := ⟨co_X0_currentStage, sm_X0_currentStage.2.1, sm_X0_currentStage.2.2, in_X0_currentStage, lw_at 496 (by decide +kernel)⟩
theorem co_X0_dialled : Cond.code yX0_dialled cX0_dialled 1 (some (.object "DialPlan$Row")) ∈ lw_tbl := lw_at 512 (by decide +kernel)
theorem sm_X0_dialled : dp_Sm yX0_dialled cX0_dialled 1 (some (.object "DialPlan$Row")) 0 := ⟨co_X0_dialled, (lw_at 8 (by decide +kernel)), by decide +kernel, by decide +kernel, by decide +kernel⟩
theorem in_X0_dialled : Cond.instanceMethod yX0_dialled ∈ lw_tbl := lw_at 510 (by decide +kernel)
theorem vm_X0_dialled : dp_Vm yX0_dialled RX0 cX0_dialled 1 (some (.object "DialPlan$Row")) 0 := ⟨co_X0_dialled, sm_X0_dialled.2.1, sm_X0_dialled.2.2, in_X0_dialled, lw_at 511 (by decide +kernel)⟩
theorem co_X0_digitsEver : Cond.code yX0_digitsEver cX0_digitsEver 1 (some .int) ∈ lw_tbl := lw_at 603 (by decide +kernel)
theorem sm_X0_digitsEver : dp_Sm yX0_digitsEver cX0_digitsEver 1 (some .int) 0 := ⟨co_X0_digitsEver, (lw_at 8 (by decide +kernel)), by decide +kernel, by decide +kernel, by decide +kernel⟩
theorem in_X0_digitsEver : Cond.instanceMethod yX0_digitsEver ∈ lw_tbl := lw_at 601 (by decide +kernel)
theorem vm_X0_digitsEver : dp_Vm yX0_digitsEver RX0 cX0_digitsEver 1 (some .int) 0 := ⟨co_X0_digitsEver, sm_X0_digitsEver.2.1, sm_X0_digitsEver.2.2, in_X0_digitsEver, lw_at 602 (by decide +kernel)⟩
theorem co_X0_ended : Cond.code yX0_ended cX0_ended 1 (some .int) ∈ lw_tbl := lw_at 574 (by decide +kernel)
theorem sm_X0_ended : dp_Sm yX0_ended cX0_ended 1 (some .int) 0 := ⟨co_X0_ended, (lw_at 8 (by decide +kernel)), by decide +kernel, by decide +kernel, by decide +kernel⟩
theorem in_X0_ended : Cond.instanceMethod yX0_ended ∈ lw_tbl := lw_at 572 (by decide +kernel)
theorem vm_X0_ended : dp_Vm yX0_ended RX0 cX0_ended 1 (some .int) 0 := ⟨co_X0_ended, sm_X0_ended.2.1, sm_X0_ended.2.2, in_X0_ended, lw_at 573 (by decide +kernel)⟩
theorem co_X0_goOnWaiting : Cond.code yX0_goOnWaiting cX0_goOnWaiting 2 none ∈ lw_tbl := lw_at 493 (by decide +kernel)
theorem sm_X0_goOnWaiting : dp_Sm yX0_goOnWaiting cX0_goOnWaiting 2 none 1 := ⟨co_X0_goOnWaiting, (lw_at 8 (by decide +kernel)), by decide +kernel, by decide +kernel, by decide +kernel⟩
theorem in_X0_goOnWaiting : Cond.instanceMethod yX0_goOnWaiting ∈ lw_tbl := lw_at 492 (by decide +kernel)
theorem vm_X0_goOnWaiting : dp_Vm yX0_goOnWaiting RX0 cX0_goOnWaiting 2 none 1 := ⟨co_X0_goOnWaiting, sm_X0_goOnWaiting.2.1, sm_X0_goOnWaiting.2.2, in_X0_goOnWaiting, lw_pr 14 (by decide +kernel)⟩
theorem co_X0_init : Cond.code yX0_init cX0_init 1 none ∈ lw_tbl := lw_at 126 (by decide +kernel)
theorem sm_X0_init : dp_Sm yX0_init cX0_init 1 none 0 := ⟨co_X0_init, (lw_at 8 (by decide +kernel)), by decide +kernel, by decide +kernel, by decide +kernel⟩
theorem in_X0_init : Cond.instanceMethod yX0_init ∈ lw_tbl := lw_at 125 (by decide +kernel)
theorem co_X0_isUp : Cond.code yX0_isUp cX0_isUp 1 (some .boolean) ∈ lw_tbl := lw_at 312 (by decide +kernel)
theorem sm_X0_isUp : dp_Sm yX0_isUp cX0_isUp 1 (some .boolean) 0 := ⟨co_X0_isUp, (lw_at 8 (by decide +kernel)), by decide +kernel, by decide +kernel, by decide +kernel⟩
theorem in_X0_isUp : Cond.instanceMethod yX0_isUp ∈ lw_tbl := lw_at 310 (by decide +kernel)
theorem vm_X0_isUp : dp_Vm yX0_isUp RX0 cX0_isUp 1 (some .boolean) 0 := ⟨co_X0_isUp, sm_X0_isUp.2.1, sm_X0_isUp.2.2, in_X0_isUp, lw_at 311 (by decide +kernel)⟩
theorem co_X0_isWaiting : Cond.code yX0_isWaiting cX0_isWaiting 1 (some .boolean) ∈ lw_tbl := lw_at 525 (by decide +kernel)
theorem sm_X0_isWaiting : dp_Sm yX0_isWaiting cX0_isWaiting 1 (some .boolean) 0 := ⟨co_X0_isWaiting, (lw_at 8 (by decide +kernel)), by decide +kernel, by decide +kernel, by decide +kernel⟩
theorem in_X0_isWaiting : Cond.instanceMethod yX0_isWaiting ∈ lw_tbl := lw_at 523 (by decide +kernel)
theorem vm_X0_isWaiting : dp_Vm yX0_isWaiting RX0 cX0_isWaiting 1 (some .boolean) 0 := ⟨co_X0_isWaiting, sm_X0_isWaiting.2.1, sm_X0_isWaiting.2.2, in_X0_isWaiting, lw_at 524 (by decide +kernel)⟩
theorem co_X0_letTicksGo : Cond.code yX0_letTicksGo cX0_letTicksGo 3 none ∈ lw_tbl := lw_at 547 (by decide +kernel)
theorem sm_X0_letTicksGo : dp_Sm yX0_letTicksGo cX0_letTicksGo 3 none 2 := ⟨co_X0_letTicksGo, (lw_at 8 (by decide +kernel)), by decide +kernel, by decide +kernel, by decide +kernel⟩
theorem in_X0_letTicksGo : Cond.instanceMethod yX0_letTicksGo ∈ lw_tbl := lw_at 545 (by decide +kernel)
theorem vm_X0_letTicksGo : dp_Vm yX0_letTicksGo RX0 cX0_letTicksGo 3 none 2 := ⟨co_X0_letTicksGo, sm_X0_letTicksGo.2.1, sm_X0_letTicksGo.2.2, in_X0_letTicksGo, lw_at 546 (by decide +kernel)⟩
theorem co_X0_putDown : Cond.code yX0_putDown cX0_putDown 1 none ∈ lw_tbl := lw_at 516 (by decide +kernel)
theorem sm_X0_putDown : dp_Sm yX0_putDown cX0_putDown 1 none 0 := ⟨co_X0_putDown, (lw_at 8 (by decide +kernel)), by decide +kernel, by decide +kernel, by decide +kernel⟩
theorem in_X0_putDown : Cond.instanceMethod yX0_putDown ∈ lw_tbl := lw_at 514 (by decide +kernel)
theorem vm_X0_putDown : dp_Vm yX0_putDown RX0 cX0_putDown 1 none 0 := ⟨co_X0_putDown, sm_X0_putDown.2.1, sm_X0_putDown.2.2, in_X0_putDown, lw_at 515 (by decide +kernel)⟩
theorem co_X0_putUp : Cond.code yX0_putUp cX0_putUp 2 none ∈ lw_tbl := lw_at 489 (by decide +kernel)
theorem sm_X0_putUp : dp_Sm yX0_putUp cX0_putUp 2 none 1 := ⟨co_X0_putUp, (lw_at 8 (by decide +kernel)), by decide +kernel, by decide +kernel, by decide +kernel⟩
theorem in_X0_putUp : Cond.instanceMethod yX0_putUp ∈ lw_tbl := lw_at 487 (by decide +kernel)
theorem vm_X0_putUp : dp_Vm yX0_putUp RX0 cX0_putUp 2 none 1 := ⟨co_X0_putUp, sm_X0_putUp.2.1, sm_X0_putUp.2.2, in_X0_putUp, lw_at 488 (by decide +kernel)⟩
theorem co_X0_setTicks : Cond.code yX0_setTicks cX0_setTicks 3 none ∈ lw_tbl := lw_at 481 (by decide +kernel)
theorem sm_X0_setTicks : dp_Sm yX0_setTicks cX0_setTicks 3 none 2 := ⟨co_X0_setTicks, (lw_at 8 (by decide +kernel)), by decide +kernel, by decide +kernel, by decide +kernel⟩
theorem in_X0_setTicks : Cond.instanceMethod yX0_setTicks ∈ lw_tbl := lw_at 479 (by decide +kernel)
theorem vm_X0_setTicks : dp_Vm yX0_setTicks RX0 cX0_setTicks 3 none 2 := ⟨co_X0_setTicks, sm_X0_setTicks.2.1, sm_X0_setTicks.2.2, in_X0_setTicks, lw_at 480 (by decide +kernel)⟩
theorem co_X0_settle : Cond.code yX0_settle cX0_settle 3 none ∈ lw_tbl := lw_at 535 (by decide +kernel)
theorem sm_X0_settle : dp_Sm yX0_settle cX0_settle 3 none 2 := ⟨co_X0_settle, (lw_at 8 (by decide +kernel)), by decide +kernel, by decide +kernel, by decide +kernel⟩
theorem in_X0_settle : Cond.instanceMethod yX0_settle ∈ lw_tbl := lw_at 533 (by decide +kernel)
theorem vm_X0_settle : dp_Vm yX0_settle RX0 cX0_settle 3 none 2 := ⟨co_X0_settle, sm_X0_settle.2.1, sm_X0_settle.2.2, in_X0_settle, lw_at 534 (by decide +kernel)⟩
theorem co_X0_state : Cond.code yX0_state cX0_state 1 (some .int) ∈ lw_tbl := lw_at 539 (by decide +kernel)
theorem sm_X0_state : dp_Sm yX0_state cX0_state 1 (some .int) 0 := ⟨co_X0_state, (lw_at 8 (by decide +kernel)), by decide +kernel, by decide +kernel, by decide +kernel⟩
theorem in_X0_state : Cond.instanceMethod yX0_state ∈ lw_tbl := lw_at 537 (by decide +kernel)
theorem vm_X0_state : dp_Vm yX0_state RX0 cX0_state 1 (some .int) 0 := ⟨co_X0_state, sm_X0_state.2.1, sm_X0_state.2.2, in_X0_state, lw_at 538 (by decide +kernel)⟩
theorem co_X0_take : Cond.code yX0_take cX0_take 5 none ∈ lw_tbl := lw_at 529 (by decide +kernel)
theorem sm_X0_take : dp_Sm yX0_take cX0_take 5 none 2 := ⟨co_X0_take, (lw_at 8 (by decide +kernel)), by decide +kernel, by decide +kernel, by decide +kernel⟩
theorem in_X0_take : Cond.instanceMethod yX0_take ∈ lw_tbl := lw_at 527 (by decide +kernel)
theorem vm_X0_take : dp_Vm yX0_take RX0 cX0_take 5 none 2 := ⟨co_X0_take, sm_X0_take.2.1, sm_X0_take.2.2, in_X0_take, lw_at 528 (by decide +kernel)⟩
theorem co_X0_ticksLeft : Cond.code yX0_ticksLeft cX0_ticksLeft 1 (some .int) ∈ lw_tbl := lw_at 504 (by decide +kernel)
theorem sm_X0_ticksLeft : dp_Sm yX0_ticksLeft cX0_ticksLeft 1 (some .int) 0 := ⟨co_X0_ticksLeft, (lw_at 8 (by decide +kernel)), by decide +kernel, by decide +kernel, by decide +kernel⟩
theorem in_X0_ticksLeft : Cond.instanceMethod yX0_ticksLeft ∈ lw_tbl := lw_at 502 (by decide +kernel)
theorem vm_X0_ticksLeft : dp_Vm yX0_ticksLeft RX0 cX0_ticksLeft 1 (some .int) 0 := ⟨co_X0_ticksLeft, sm_X0_ticksLeft.2.1, sm_X0_ticksLeft.2.2, in_X0_ticksLeft, lw_at 503 (by decide +kernel)⟩
theorem co_X0_ticksOf : Cond.code yX0_ticksOf cX0_ticksOf 2 (some .int) ∈ lw_tbl := lw_at 477 (by decide +kernel)
theorem sm_X0_ticksOf : dp_Sm yX0_ticksOf cX0_ticksOf 2 (some .int) 1 := ⟨co_X0_ticksOf, (lw_at 8 (by decide +kernel)), by decide +kernel, by decide +kernel, by decide +kernel⟩
theorem in_X0_ticksOf : Cond.instanceMethod yX0_ticksOf ∈ lw_tbl := lw_at 475 (by decide +kernel)
theorem vm_X0_ticksOf : dp_Vm yX0_ticksOf RX0 cX0_ticksOf 2 (some .int) 1 := ⟨co_X0_ticksOf, sm_X0_ticksOf.2.1, sm_X0_ticksOf.2.2, in_X0_ticksOf, lw_at 476 (by decide +kernel)⟩
theorem co_X0_timesLifted : Cond.code yX0_timesLifted cX0_timesLifted 1 (some .int) ∈ lw_tbl := lw_at 591 (by decide +kernel)
theorem sm_X0_timesLifted : dp_Sm yX0_timesLifted cX0_timesLifted 1 (some .int) 0 := ⟨co_X0_timesLifted, (lw_at 8 (by decide +kernel)), by decide +kernel, by decide +kernel, by decide +kernel⟩
theorem in_X0_timesLifted : Cond.instanceMethod yX0_timesLifted ∈ lw_tbl := lw_at 589 (by decide +kernel)
theorem vm_X0_timesLifted : dp_Vm yX0_timesLifted RX0 cX0_timesLifted 1 (some .int) 0 := ⟨co_X0_timesLifted, sm_X0_timesLifted.2.1, sm_X0_timesLifted.2.2, in_X0_timesLifted, lw_at 590 (by decide +kernel)⟩
theorem co_X0_timesLost : Cond.code yX0_timesLost cX0_timesLost 1 (some .int) ∈ lw_tbl := lw_at 599 (by decide +kernel)
theorem sm_X0_timesLost : dp_Sm yX0_timesLost cX0_timesLost 1 (some .int) 0 := ⟨co_X0_timesLost, (lw_at 8 (by decide +kernel)), by decide +kernel, by decide +kernel, by decide +kernel⟩
theorem in_X0_timesLost : Cond.instanceMethod yX0_timesLost ∈ lw_tbl := lw_at 597 (by decide +kernel)
theorem vm_X0_timesLost : dp_Vm yX0_timesLost RX0 cX0_timesLost 1 (some .int) 0 := ⟨co_X0_timesLost, sm_X0_timesLost.2.1, sm_X0_timesLost.2.2, in_X0_timesLost, lw_at 598 (by decide +kernel)⟩
theorem co_X0_timesReady : Cond.code yX0_timesReady cX0_timesReady 1 (some .int) ∈ lw_tbl := lw_at 595 (by decide +kernel)
theorem sm_X0_timesReady : dp_Sm yX0_timesReady cX0_timesReady 1 (some .int) 0 := ⟨co_X0_timesReady, (lw_at 8 (by decide +kernel)), by decide +kernel, by decide +kernel, by decide +kernel⟩
theorem in_X0_timesReady : Cond.instanceMethod yX0_timesReady ∈ lw_tbl := lw_at 593 (by decide +kernel)
theorem vm_X0_timesReady : dp_Vm yX0_timesReady RX0 cX0_timesReady 1 (some .int) 0 := ⟨co_X0_timesReady, sm_X0_timesReady.2.1, sm_X0_timesReady.2.2, in_X0_timesReady, lw_at 594 (by decide +kernel)⟩
theorem co_X0_winner : Cond.code yX0_winner cX0_winner 2 (some .int) ∈ lw_tbl := lw_at 561 (by decide +kernel)
theorem sm_X0_winner : dp_Sm yX0_winner cX0_winner 2 (some .int) 1 := ⟨co_X0_winner, (lw_at 8 (by decide +kernel)), by decide +kernel, by decide +kernel, by decide +kernel⟩
theorem in_X0_winner : Cond.instanceMethod yX0_winner ∈ lw_tbl := lw_at 559 (by decide +kernel)
theorem vm_X0_winner : dp_Vm yX0_winner RX0 cX0_winner 2 (some .int) 1 := ⟨co_X0_winner, sm_X0_winner.2.1, sm_X0_winner.2.2, in_X0_winner, lw_at 560 (by decide +kernel)⟩
theorem co_X1_ahead : Cond.code yX1_ahead cX1_ahead 1 (some (.object "DialPlan$Row")) ∈ lw_tbl := lw_at 299 (by decide +kernel)
theorem sm_X1_ahead : dp_Sm yX1_ahead cX1_ahead 1 (some (.object "DialPlan$Row")) 0 := ⟨co_X1_ahead, (lw_at 5 (by decide +kernel)), by decide +kernel, by decide +kernel, by decide +kernel⟩
theorem in_X1_ahead : Cond.instanceMethod yX1_ahead ∈ lw_tbl := lw_at 297 (by decide +kernel)
theorem vm_X1_ahead : dp_Vm yX1_ahead RX1 cX1_ahead 1 (some (.object "DialPlan$Row")) 0 := ⟨co_X1_ahead, sm_X1_ahead.2.1, sm_X1_ahead.2.2, in_X1_ahead, lw_at 298 (by decide +kernel)⟩
theorem co_X1_appendPlace : Cond.code yX1_appendPlace cX1_appendPlace 5 none ∈ lw_tbl := lw_at 247 (by decide +kernel)
theorem sm_X1_appendPlace : dp_Sm yX1_appendPlace cX1_appendPlace 5 none 2 := ⟨co_X1_appendPlace, (lw_at 5 (by decide +kernel)), by decide +kernel, by decide +kernel, by decide +kernel⟩
theorem in_X1_appendPlace : Cond.instanceMethod yX1_appendPlace ∈ lw_tbl := lw_at 245 (by decide +kernel)
theorem vm_X1_appendPlace : dp_Vm yX1_appendPlace RX1 cX1_appendPlace 5 none 2 := ⟨co_X1_appendPlace, sm_X1_appendPlace.2.1, sm_X1_appendPlace.2.2, in_X1_appendPlace, lw_at 246 (by decide +kernel)⟩
theorem co_X1_clashesWith : Cond.code yX1_clashesWith cX1_clashesWith 2 (some .boolean) ∈ lw_tbl := lw_at 399 (by decide +kernel)
theorem sm_X1_clashesWith : dp_Sm yX1_clashesWith cX1_clashesWith 2 (some .boolean) 1 := ⟨co_X1_clashesWith, (lw_at 5 (by decide +kernel)), by decide +kernel, by decide +kernel, by decide +kernel⟩
theorem in_X1_clashesWith : Cond.instanceMethod yX1_clashesWith ∈ lw_tbl := lw_at 397 (by decide +kernel)
theorem vm_X1_clashesWith : dp_Vm yX1_clashesWith RX1 cX1_clashesWith 2 (some .boolean) 1 := ⟨co_X1_clashesWith, sm_X1_clashesWith.2.1, sm_X1_clashesWith.2.2, in_X1_clashesWith, lw_at 398 (by decide +kernel)⟩
theorem co_X1_clear : Cond.code yX1_clear cX1_clear 1 none ∈ lw_tbl := lw_at 208 (by decide +kernel)
theorem sm_X1_clear : dp_Sm yX1_clear cX1_clear 1 none 0 := ⟨co_X1_clear, (lw_at 5 (by decide +kernel)), by decide +kernel, by decide +kernel, by decide +kernel⟩
theorem in_X1_clear : Cond.instanceMethod yX1_clear ∈ lw_tbl := lw_at 206 (by decide +kernel)
theorem vm_X1_clear : dp_Vm yX1_clear RX1 cX1_clear 1 none 0 := ⟨co_X1_clear, sm_X1_clear.2.1, sm_X1_clear.2.2, in_X1_clear, lw_at 207 (by decide +kernel)⟩
theorem co_X1_copyFrom : Cond.code yX1_copyFrom cX1_copyFrom 3 none ∈ lw_tbl := lw_at 324 (by decide +kernel)
theorem sm_X1_copyFrom : dp_Sm yX1_copyFrom cX1_copyFrom 3 none 1 := ⟨co_X1_copyFrom, (lw_at 5 (by decide +kernel)), by decide +kernel, by decide +kernel, by decide +kernel⟩
theorem in_X1_copyFrom : Cond.instanceMethod yX1_copyFrom ∈ lw_tbl := lw_at 322 (by decide +kernel)
theorem vm_X1_copyFrom : dp_Vm yX1_copyFrom RX1 cX1_copyFrom 3 none 1 := ⟨co_X1_copyFrom, sm_X1_copyFrom.2.1, sm_X1_copyFrom.2.2, in_X1_copyFrom, lw_at 323 (by decide +kernel)⟩
theorem co_X1_digitsAt : Cond.code yX1_digitsAt cX1_digitsAt 2 (some .int) ∈ lw_tbl := lw_at 378 (by decide +kernel)
theorem sm_X1_digitsAt : dp_Sm yX1_digitsAt cX1_digitsAt 2 (some .int) 1 := ⟨co_X1_digitsAt, (lw_at 5 (by decide +kernel)), by decide +kernel, by decide +kernel, by decide +kernel⟩
theorem in_X1_digitsAt : Cond.instanceMethod yX1_digitsAt ∈ lw_tbl := lw_at 376 (by decide +kernel)
theorem vm_X1_digitsAt : dp_Vm yX1_digitsAt RX1 cX1_digitsAt 2 (some .int) 1 := ⟨co_X1_digitsAt, sm_X1_digitsAt.2.1, sm_X1_digitsAt.2.2, in_X1_digitsAt, lw_at 377 (by decide +kernel)⟩
theorem co_X1_doesLike : Cond.code yX1_doesLike cX1_doesLike 2 (some .boolean) ∈ lw_tbl := lw_at 409 (by decide +kernel)
theorem sm_X1_doesLike : dp_Sm yX1_doesLike cX1_doesLike 2 (some .boolean) 1 := ⟨co_X1_doesLike, (lw_at 5 (by decide +kernel)), by decide +kernel, by decide +kernel, by decide +kernel⟩
theorem in_X1_doesLike : Cond.instanceMethod yX1_doesLike ∈ lw_tbl := lw_at 407 (by decide +kernel)
theorem vm_X1_doesLike : dp_Vm yX1_doesLike RX1 cX1_doesLike 2 (some .boolean) 1 := ⟨co_X1_doesLike, sm_X1_doesLike.2.1, sm_X1_doesLike.2.2, in_X1_doesLike, lw_at 408 (by decide +kernel)⟩
theorem co_X1_dropped : Cond.code yX1_dropped cX1_dropped 1 (some .int) ∈ lw_tbl := lw_at 365 (by decide +kernel)
theorem sm_X1_dropped : dp_Sm yX1_dropped cX1_dropped 1 (some .int) 0 := ⟨co_X1_dropped, (lw_at 5 (by decide +kernel)), by decide +kernel, by decide +kernel, by decide +kernel⟩
theorem in_X1_dropped : Cond.instanceMethod yX1_dropped ∈ lw_tbl := lw_at 363 (by decide +kernel)
theorem vm_X1_dropped : dp_Vm yX1_dropped RX1 cX1_dropped 1 (some .int) 0 := ⟨co_X1_dropped, sm_X1_dropped.2.1, sm_X1_dropped.2.2, in_X1_dropped, lw_at 364 (by decide +kernel)⟩
theorem co_X1_hasRoom : Cond.code yX1_hasRoom cX1_hasRoom 1 (some .boolean) ∈ lw_tbl := lw_at 239 (by decide +kernel)
theorem sm_X1_hasRoom : dp_Sm yX1_hasRoom cX1_hasRoom 1 (some .boolean) 0 := ⟨co_X1_hasRoom, (lw_at 5 (by decide +kernel)), by decide +kernel, by decide +kernel, by decide +kernel⟩
theorem in_X1_hasRoom : Cond.instanceMethod yX1_hasRoom ∈ lw_tbl := lw_at 237 (by decide +kernel)
theorem vm_X1_hasRoom : dp_Vm yX1_hasRoom RX1 cX1_hasRoom 1 (some .boolean) 0 := ⟨co_X1_hasRoom, sm_X1_hasRoom.2.1, sm_X1_hasRoom.2.2, in_X1_hasRoom, lw_at 238 (by decide +kernel)⟩
theorem co_X1_init : Cond.code yX1_init cX1_init 1 none ∈ lw_tbl := lw_at 46 (by decide +kernel)
theorem sm_X1_init : dp_Sm yX1_init cX1_init 1 none 0 := ⟨co_X1_init, (lw_at 5 (by decide +kernel)), by decide +kernel, by decide +kernel, by decide +kernel⟩
theorem in_X1_init : Cond.instanceMethod yX1_init ∈ lw_tbl := lw_at 45 (by decide +kernel)
theorem co_X1_isNarrowerThan : Cond.code yX1_isNarrowerThan cX1_isNarrowerThan 3 (some .boolean) ∈ lw_tbl := lw_at 386 (by decide +kernel)
theorem sm_X1_isNarrowerThan : dp_Sm yX1_isNarrowerThan cX1_isNarrowerThan 3 (some .boolean) 1 := ⟨co_X1_isNarrowerThan, (lw_at 5 (by decide +kernel)), by decide +kernel, by decide +kernel, by decide +kernel⟩
theorem in_X1_isNarrowerThan : Cond.instanceMethod yX1_isNarrowerThan ∈ lw_tbl := lw_at 384 (by decide +kernel)
theorem vm_X1_isNarrowerThan : dp_Vm yX1_isNarrowerThan RX1 cX1_isNarrowerThan 3 (some .boolean) 1 := ⟨co_X1_isNarrowerThan, sm_X1_isNarrowerThan.2.1, sm_X1_isNarrowerThan.2.2, in_X1_isNarrowerThan, lw_at 385 (by decide +kernel)⟩
theorem co_X1_isOpen : Cond.code yX1_isOpen cX1_isOpen 1 (some .boolean) ∈ lw_tbl := lw_at 357 (by decide +kernel)
theorem sm_X1_isOpen : dp_Sm yX1_isOpen cX1_isOpen 1 (some .boolean) 0 := ⟨co_X1_isOpen, (lw_at 5 (by decide +kernel)), by decide +kernel, by decide +kernel, by decide +kernel⟩
theorem in_X1_isOpen : Cond.instanceMethod yX1_isOpen ∈ lw_tbl := lw_at 355 (by decide +kernel)
theorem vm_X1_isOpen : dp_Vm yX1_isOpen RX1 cX1_isOpen 1 (some .boolean) 0 := ⟨co_X1_isOpen, sm_X1_isOpen.2.1, sm_X1_isOpen.2.2, in_X1_isOpen, lw_at 356 (by decide +kernel)⟩
theorem co_X1_makeOpen : Cond.code yX1_makeOpen cX1_makeOpen 1 none ∈ lw_tbl := lw_at 235 (by decide +kernel)
theorem sm_X1_makeOpen : dp_Sm yX1_makeOpen cX1_makeOpen 1 none 0 := ⟨co_X1_makeOpen, (lw_at 5 (by decide +kernel)), by decide +kernel, by decide +kernel, by decide +kernel⟩
theorem in_X1_makeOpen : Cond.instanceMethod yX1_makeOpen ∈ lw_tbl := lw_at 233 (by decide +kernel)
theorem vm_X1_makeOpen : dp_Vm yX1_makeOpen RX1 cX1_makeOpen 1 none 0 := ⟨co_X1_makeOpen, sm_X1_makeOpen.2.1, sm_X1_makeOpen.2.2, in_X1_makeOpen, lw_at 234 (by decide +kernel)⟩
theorem co_X1_places : Cond.code yX1_places cX1_places 1 (some .int) ∈ lw_tbl := lw_at 231 (by decide +kernel)
theorem sm_X1_places : dp_Sm yX1_places cX1_places 1 (some .int) 0 := ⟨co_X1_places, (lw_at 5 (by decide +kernel)), by decide +kernel, by decide +kernel, by decide +kernel⟩
theorem in_X1_places : Cond.instanceMethod yX1_places ∈ lw_tbl := lw_at 229 (by decide +kernel)
theorem vm_X1_places : dp_Vm yX1_places RX1 cX1_places 1 (some .int) 0 := ⟨co_X1_places, sm_X1_places.2.1, sm_X1_places.2.2, in_X1_places, lw_at 230 (by decide +kernel)⟩
theorem co_X1_reach : Cond.code yX1_reach cX1_reach 5 (some .int) ∈ lw_tbl := lw_at 433 (by decide +kernel)
theorem sm_X1_reach : dp_Sm yX1_reach cX1_reach 5 (some .int) 2 := ⟨co_X1_reach, (lw_at 5 (by decide +kernel)), by decide +kernel, by decide +kernel, by decide +kernel⟩
theorem in_X1_reach : Cond.instanceMethod yX1_reach ∈ lw_tbl := lw_at 431 (by decide +kernel)
theorem vm_X1_reach : dp_Vm yX1_reach RX1 cX1_reach 5 (some .int) 2 := ⟨co_X1_reach, sm_X1_reach.2.1, sm_X1_reach.2.2, in_X1_reach, lw_at 432 (by decide +kernel)⟩
theorem co_X1_setDropped : Cond.code yX1_setDropped cX1_setDropped 2 none ∈ lw_tbl := lw_at 291 (by decide +kernel)
theorem sm_X1_setDropped : dp_Sm yX1_setDropped cX1_setDropped 2 none 1 := ⟨co_X1_setDropped, (lw_at 5 (by decide +kernel)), by decide +kernel, by decide +kernel, by decide +kernel⟩
theorem in_X1_setDropped : Cond.instanceMethod yX1_setDropped ∈ lw_tbl := lw_at 289 (by decide +kernel)
theorem vm_X1_setDropped : dp_Vm yX1_setDropped RX1 cX1_setDropped 2 none 1 := ⟨co_X1_setDropped, sm_X1_setDropped.2.1, sm_X1_setDropped.2.2, in_X1_setDropped, lw_at 290 (by decide +kernel)⟩
theorem co_X1_setFrom : Cond.code yX1_setFrom cX1_setFrom 5 none ∈ lw_tbl := lw_at 212 (by decide +kernel)
theorem sm_X1_setFrom : dp_Sm yX1_setFrom cX1_setFrom 5 none 3 := ⟨co_X1_setFrom, (lw_at 5 (by decide +kernel)), by decide +kernel, by decide +kernel, by decide +kernel⟩
theorem in_X1_setFrom : Cond.instanceMethod yX1_setFrom ∈ lw_tbl := lw_at 211 (by decide +kernel)
theorem vm_X1_setFrom : dp_Vm yX1_setFrom RX1 cX1_setFrom 5 none 3 := ⟨co_X1_setFrom, sm_X1_setFrom.2.1, sm_X1_setFrom.2.2, in_X1_setFrom, lw_pr 0 (by decide +kernel)⟩
theorem co_X1_setWay : Cond.code yX1_setWay cX1_setWay 2 none ∈ lw_tbl := lw_at 283 (by decide +kernel)
theorem sm_X1_setWay : dp_Sm yX1_setWay cX1_setWay 2 none 1 := ⟨co_X1_setWay, (lw_at 5 (by decide +kernel)), by decide +kernel, by decide +kernel, by decide +kernel⟩
theorem in_X1_setWay : Cond.instanceMethod yX1_setWay ∈ lw_tbl := lw_at 281 (by decide +kernel)
theorem vm_X1_setWay : dp_Vm yX1_setWay RX1 cX1_setWay 2 none 1 := ⟨co_X1_setWay, sm_X1_setWay.2.1, sm_X1_setWay.2.2, in_X1_setWay, lw_at 282 (by decide +kernel)⟩
theorem co_X1_sharesRowWith : Cond.code yX1_sharesRowWith cX1_sharesRowWith 3 (some .boolean) ∈ lw_tbl := lw_at 404 (by decide +kernel)
theorem sm_X1_sharesRowWith : dp_Sm yX1_sharesRowWith cX1_sharesRowWith 3 (some .boolean) 1 := ⟨co_X1_sharesRowWith, (lw_at 5 (by decide +kernel)), by decide +kernel, by decide +kernel, by decide +kernel⟩
theorem in_X1_sharesRowWith : Cond.instanceMethod yX1_sharesRowWith ∈ lw_tbl := lw_at 403 (by decide +kernel)
theorem vm_X1_sharesRowWith : dp_Vm yX1_sharesRowWith RX1 cX1_sharesRowWith 3 (some .boolean) 1 := ⟨co_X1_sharesRowWith, sm_X1_sharesRowWith.2.1, sm_X1_sharesRowWith.2.2, in_X1_sharesRowWith, lw_pr 11 (by decide +kernel)⟩
theorem co_X1_way : Cond.code yX1_way cX1_way 1 (some .int) ∈ lw_tbl := lw_at 361 (by decide +kernel)
theorem sm_X1_way : dp_Sm yX1_way cX1_way 1 (some .int) 0 := ⟨co_X1_way, (lw_at 5 (by decide +kernel)), by decide +kernel, by decide +kernel, by decide +kernel⟩
theorem in_X1_way : Cond.instanceMethod yX1_way ∈ lw_tbl := lw_at 359 (by decide +kernel)
theorem vm_X1_way : dp_Vm yX1_way RX1 cX1_way 1 (some .int) 0 := ⟨co_X1_way, sm_X1_way.2.1, sm_X1_way.2.2, in_X1_way, lw_at 360 (by decide +kernel)⟩
theorem co_X2_draft : Cond.code yX2_draft cX2_draft 1 (some (.object "DialPlan$Pattern")) ∈ lw_tbl := lw_at 316 (by decide +kernel)
theorem sm_X2_draft : dp_Sm yX2_draft cX2_draft 1 (some (.object "DialPlan$Pattern")) 0 := ⟨co_X2_draft, (lw_at 4 (by decide +kernel)), by decide +kernel, by decide +kernel, by decide +kernel⟩
theorem in_X2_draft : Cond.instanceMethod yX2_draft ∈ lw_tbl := lw_at 314 (by decide +kernel)
theorem vm_X2_draft : dp_Vm yX2_draft RX2 cX2_draft 1 (some (.object "DialPlan$Pattern")) 0 := ⟨co_X2_draft, sm_X2_draft.2.1, sm_X2_draft.2.2, in_X2_draft, lw_at 315 (by decide +kernel)⟩
theorem co_X2_init : Cond.code yX2_init cX2_init 1 none ∈ lw_tbl := lw_at 40 (by decide +kernel)
theorem sm_X2_init : dp_Sm yX2_init cX2_init 1 none 0 := ⟨co_X2_init, (lw_at 4 (by decide +kernel)), by decide +kernel, by decide +kernel, by decide +kernel⟩
theorem in_X2_init : Cond.instanceMethod yX2_init ∈ lw_tbl := lw_at 39 (by decide +kernel)
theorem co_X2_isWhole : Cond.code yX2_isWhole cX2_isWhole 1 (some .boolean) ∈ lw_tbl := lw_at 308 (by decide +kernel)
theorem sm_X2_isWhole : dp_Sm yX2_isWhole cX2_isWhole 1 (some .boolean) 0 := ⟨co_X2_isWhole, (lw_at 4 (by decide +kernel)), by decide +kernel, by decide +kernel, by decide +kernel⟩
theorem in_X2_isWhole : Cond.instanceMethod yX2_isWhole ∈ lw_tbl := lw_at 306 (by decide +kernel)
theorem vm_X2_isWhole : dp_Vm yX2_isWhole RX2 cX2_isWhole 1 (some .boolean) 0 := ⟨co_X2_isWhole, sm_X2_isWhole.2.1, sm_X2_isWhole.2.2, in_X2_isWhole, lw_at 307 (by decide +kernel)⟩
theorem co_X2_scan : Cond.code yX2_scan cX2_scan 3 (some .int) ∈ lw_tbl := lw_at 204 (by decide +kernel)
theorem sm_X2_scan : dp_Sm yX2_scan cX2_scan 3 (some .int) 1 := ⟨co_X2_scan, (lw_at 4 (by decide +kernel)), by decide +kernel, by decide +kernel, by decide +kernel⟩
theorem in_X2_scan : Cond.instanceMethod yX2_scan ∈ lw_tbl := lw_at 202 (by decide +kernel)
theorem vm_X2_scan : dp_Vm yX2_scan RX2 cX2_scan 3 (some .int) 1 := ⟨co_X2_scan, sm_X2_scan.2.1, sm_X2_scan.2.2, in_X2_scan, lw_at 203 (by decide +kernel)⟩
theorem co_X2_take : Cond.code yX2_take cX2_take 2 (some .boolean) ∈ lw_tbl := lw_at 223 (by decide +kernel)
theorem sm_X2_take : dp_Sm yX2_take cX2_take 2 (some .boolean) 1 := ⟨co_X2_take, (lw_at 4 (by decide +kernel)), by decide +kernel, by decide +kernel, by decide +kernel⟩
theorem in_X2_take : Cond.instanceMethod yX2_take ∈ lw_tbl := lw_at 222 (by decide +kernel)
theorem vm_X2_take : dp_Vm yX2_take RX2 cX2_take 2 (some .boolean) 1 := ⟨co_X2_take, sm_X2_take.2.1, sm_X2_take.2.2, in_X2_take, lw_pr 1 (by decide +kernel)⟩
theorem co_X2_takeAhead : Cond.code yX2_takeAhead cX2_takeAhead 2 (some .boolean) ∈ lw_tbl := lw_at 295 (by decide +kernel)
theorem sm_X2_takeAhead : dp_Sm yX2_takeAhead cX2_takeAhead 2 (some .boolean) 1 := ⟨co_X2_takeAhead, (lw_at 4 (by decide +kernel)), by decide +kernel, by decide +kernel, by decide +kernel⟩
theorem in_X2_takeAhead : Cond.instanceMethod yX2_takeAhead ∈ lw_tbl := lw_at 294 (by decide +kernel)
theorem vm_X2_takeAhead : dp_Vm yX2_takeAhead RX2 cX2_takeAhead 2 (some .boolean) 1 := ⟨co_X2_takeAhead, sm_X2_takeAhead.2.1, sm_X2_takeAhead.2.2, in_X2_takeAhead, lw_pr 10 (by decide +kernel)⟩
theorem co_X2_takeBracket : Cond.code yX2_takeBracket cX2_takeBracket 2 (some .boolean) ∈ lw_tbl := lw_at 272 (by decide +kernel)
theorem sm_X2_takeBracket : dp_Sm yX2_takeBracket cX2_takeBracket 2 (some .boolean) 1 := ⟨co_X2_takeBracket, (lw_at 4 (by decide +kernel)), by decide +kernel, by decide +kernel, by decide +kernel⟩
theorem in_X2_takeBracket : Cond.instanceMethod yX2_takeBracket ∈ lw_tbl := lw_at 271 (by decide +kernel)
theorem vm_X2_takeBracket : dp_Vm yX2_takeBracket RX2 cX2_takeBracket 2 (some .boolean) 1 := ⟨co_X2_takeBracket, sm_X2_takeBracket.2.1, sm_X2_takeBracket.2.2, in_X2_takeBracket, lw_pr 7 (by decide +kernel)⟩
theorem co_X2_takeDrop : Cond.code yX2_takeDrop cX2_takeDrop 2 (some .boolean) ∈ lw_tbl := lw_at 287 (by decide +kernel)
theorem sm_X2_takeDrop : dp_Sm yX2_takeDrop cX2_takeDrop 2 (some .boolean) 1 := ⟨co_X2_takeDrop, (lw_at 4 (by decide +kernel)), by decide +kernel, by decide +kernel, by decide +kernel⟩
theorem in_X2_takeDrop : Cond.instanceMethod yX2_takeDrop ∈ lw_tbl := lw_at 286 (by decide +kernel)
theorem vm_X2_takeDrop : dp_Vm yX2_takeDrop RX2 cX2_takeDrop 2 (some .boolean) 1 := ⟨co_X2_takeDrop, sm_X2_takeDrop.2.1, sm_X2_takeDrop.2.2, in_X2_takeDrop, lw_pr 9 (by decide +kernel)⟩
theorem co_X2_takeHigh : Cond.code yX2_takeHigh cX2_takeHigh 2 (some .boolean) ∈ lw_tbl := lw_at 268 (by decide +kernel)
theorem sm_X2_takeHigh : dp_Sm yX2_takeHigh cX2_takeHigh 2 (some .boolean) 1 := ⟨co_X2_takeHigh, (lw_at 4 (by decide +kernel)), by decide +kernel, by decide +kernel, by decide +kernel⟩
theorem in_X2_takeHigh : Cond.instanceMethod yX2_takeHigh ∈ lw_tbl := lw_at 267 (by decide +kernel)
theorem vm_X2_takeHigh : dp_Vm yX2_takeHigh RX2 cX2_takeHigh 2 (some .boolean) 1 := ⟨co_X2_takeHigh, sm_X2_takeHigh.2.1, sm_X2_takeHigh.2.2, in_X2_takeHigh, lw_pr 6 (by decide +kernel)⟩
theorem co_X2_takeLow : Cond.code yX2_takeLow cX2_takeLow 2 (some .boolean) ∈ lw_tbl := lw_at 260 (by decide +kernel)
theorem sm_X2_takeLow : dp_Sm yX2_takeLow cX2_takeLow 2 (some .boolean) 1 := ⟨co_X2_takeLow, (lw_at 4 (by decide +kernel)), by decide +kernel, by decide +kernel, by decide +kernel⟩
theorem in_X2_takeLow : Cond.instanceMethod yX2_takeLow ∈ lw_tbl := lw_at 259 (by decide +kernel)
theorem vm_X2_takeLow : dp_Vm yX2_takeLow RX2 cX2_takeLow 2 (some .boolean) 1 := ⟨co_X2_takeLow, sm_X2_takeLow.2.1, sm_X2_takeLow.2.2, in_X2_takeLow, lw_pr 4 (by decide +kernel)⟩
theorem co_X2_takePlace : Cond.code yX2_takePlace cX2_takePlace 2 (some .boolean) ∈ lw_tbl := lw_at 243 (by decide +kernel)
theorem sm_X2_takePlace : dp_Sm yX2_takePlace cX2_takePlace 2 (some .boolean) 1 := ⟨co_X2_takePlace, (lw_at 4 (by decide +kernel)), by decide +kernel, by decide +kernel, by decide +kernel⟩
theorem in_X2_takePlace : Cond.instanceMethod yX2_takePlace ∈ lw_tbl := lw_at 242 (by decide +kernel)
theorem vm_X2_takePlace : dp_Vm yX2_takePlace RX2 cX2_takePlace 2 (some .boolean) 1 := ⟨co_X2_takePlace, sm_X2_takePlace.2.1, sm_X2_takePlace.2.2, in_X2_takePlace, lw_pr 3 (by decide +kernel)⟩
theorem co_X2_takePlaceOrTail : Cond.code yX2_takePlaceOrTail cX2_takePlaceOrTail 2 (some .boolean) ∈ lw_tbl := lw_at 227 (by decide +kernel)
theorem sm_X2_takePlaceOrTail : dp_Sm yX2_takePlaceOrTail cX2_takePlaceOrTail 2 (some .boolean) 1 := ⟨co_X2_takePlaceOrTail, (lw_at 4 (by decide +kernel)), by decide +kernel, by decide +kernel, by decide +kernel⟩
theorem in_X2_takePlaceOrTail : Cond.instanceMethod yX2_takePlaceOrTail ∈ lw_tbl := lw_at 226 (by decide +kernel)
theorem vm_X2_takePlaceOrTail : dp_Vm yX2_takePlaceOrTail RX2 cX2_takePlaceOrTail 2 (some .boolean) 1 := ⟨co_X2_takePlaceOrTail, sm_X2_takePlaceOrTail.2.1, sm_X2_takePlaceOrTail.2.2, in_X2_takePlaceOrTail, lw_pr 2 (by decide +kernel)⟩
theorem co_X2_takeSign : Cond.code yX2_takeSign cX2_takeSign 4 (some .boolean) ∈ lw_tbl := lw_at 264 (by decide +kernel)
theorem sm_X2_takeSign : dp_Sm yX2_takeSign cX2_takeSign 4 (some .boolean) 3 := ⟨co_X2_takeSign, (lw_at 4 (by decide +kernel)), by decide +kernel, by decide +kernel, by decide +kernel⟩
theorem in_X2_takeSign : Cond.instanceMethod yX2_takeSign ∈ lw_tbl := lw_at 263 (by decide +kernel)
theorem vm_X2_takeSign : dp_Vm yX2_takeSign RX2 cX2_takeSign 4 (some .boolean) 3 := ⟨co_X2_takeSign, sm_X2_takeSign.2.1, sm_X2_takeSign.2.2, in_X2_takeSign, lw_pr 5 (by decide +kernel)⟩
theorem co_X2_takeWay : Cond.code yX2_takeWay cX2_takeWay 3 (some .boolean) ∈ lw_tbl := lw_at 276 (by decide +kernel)
theorem sm_X2_takeWay : dp_Sm yX2_takeWay cX2_takeWay 3 (some .boolean) 1 := ⟨co_X2_takeWay, (lw_at 4 (by decide +kernel)), by decide +kernel, by decide +kernel, by decide +kernel⟩
theorem in_X2_takeWay : Cond.instanceMethod yX2_takeWay ∈ lw_tbl := lw_at 275 (by decide +kernel)
theorem vm_X2_takeWay : dp_Vm yX2_takeWay RX2 cX2_takeWay 3 (some .boolean) 1 := ⟨co_X2_takeWay, sm_X2_takeWay.2.1, sm_X2_takeWay.2.2, in_X2_takeWay, lw_pr 8 (by decide +kernel)⟩
theorem co_X2_wayOf : Cond.code yX2_wayOf cX2_wayOf 1 (some .int) ∈ lw_tbl := lw_at 279 (by decide +kernel)
theorem sm_X2_wayOf : dp_Sm yX2_wayOf cX2_wayOf 1 (some .int) 1 := ⟨co_X2_wayOf, (lw_at 4 (by decide +kernel)), by decide +kernel, by decide +kernel, by decide +kernel⟩
theorem st_X2_wayOf : Cond.static yX2_wayOf ∈ lw_tbl := lw_at 278 (by decide +kernel)
theorem co_X3_append : Cond.code yX3_append cX3_append 3 (some .boolean) ∈ lw_tbl := lw_at 320 (by decide +kernel)
theorem sm_X3_append : dp_Sm yX3_append cX3_append 3 (some .boolean) 1 := ⟨co_X3_append, (lw_at 6 (by decide +kernel)), by decide +kernel, by decide +kernel, by decide +kernel⟩
theorem in_X3_append : Cond.instanceMethod yX3_append ∈ lw_tbl := lw_at 318 (by decide +kernel)
theorem vm_X3_append : dp_Vm yX3_append RX3 cX3_append 3 (some .boolean) 1 := ⟨co_X3_append, sm_X3_append.2.1, sm_X3_append.2.2, in_X3_append, lw_at 319 (by decide +kernel)⟩
theorem co_X3_at : Cond.code yX3_at cX3_at 3 (some (.object "DialPlan$Pattern")) ∈ lw_tbl := lw_at 344 (by decide +kernel)
theorem sm_X3_at : dp_Sm yX3_at cX3_at 3 (some (.object "DialPlan$Pattern")) 1 := ⟨co_X3_at, (lw_at 6 (by decide +kernel)), by decide +kernel, by decide +kernel, by decide +kernel⟩
theorem in_X3_at : Cond.instanceMethod yX3_at ∈ lw_tbl := lw_at 342 (by decide +kernel)
theorem vm_X3_at : dp_Vm yX3_at RX3 cX3_at 3 (some (.object "DialPlan$Pattern")) 1 := ⟨co_X3_at, sm_X3_at.2.1, sm_X3_at.2.2, in_X3_at, lw_at 343 (by decide +kernel)⟩
theorem co_X3_clashes : Cond.code yX3_clashes cX3_clashes 4 (some .int) ∈ lw_tbl := lw_at 586 (by decide +kernel)
theorem sm_X3_clashes : dp_Sm yX3_clashes cX3_clashes 4 (some .int) 0 := ⟨co_X3_clashes, (lw_at 6 (by decide +kernel)), by decide +kernel, by decide +kernel, by decide +kernel⟩
theorem in_X3_clashes : Cond.instanceMethod yX3_clashes ∈ lw_tbl := lw_at 584 (by decide +kernel)
theorem vm_X3_clashes : dp_Vm yX3_clashes RX3 cX3_clashes 4 (some .int) 0 := ⟨co_X3_clashes, sm_X3_clashes.2.1, sm_X3_clashes.2.2, in_X3_clashes, lw_at 585 (by decide +kernel)⟩
theorem co_X3_init : Cond.code yX3_init cX3_init 2 none ∈ lw_tbl := lw_at 89 (by decide +kernel)
theorem sm_X3_init : dp_Sm yX3_init cX3_init 2 none 0 := ⟨co_X3_init, (lw_at 6 (by decide +kernel)), by decide +kernel, by decide +kernel, by decide +kernel⟩
theorem in_X3_init : Cond.instanceMethod yX3_init ∈ lw_tbl := lw_at 88 (by decide +kernel)
theorem co_X3_isClash : Cond.code yX3_isClash cX3_isClash 5 (some .boolean) ∈ lw_tbl := lw_at 394 (by decide +kernel)
theorem sm_X3_isClash : dp_Sm yX3_isClash cX3_isClash 5 (some .boolean) 2 := ⟨co_X3_isClash, (lw_at 6 (by decide +kernel)), by decide +kernel, by decide +kernel, by decide +kernel⟩
theorem in_X3_isClash : Cond.instanceMethod yX3_isClash ∈ lw_tbl := lw_at 392 (by decide +kernel)
theorem vm_X3_isClash : dp_Vm yX3_isClash RX3 cX3_isClash 5 (some .boolean) 2 := ⟨co_X3_isClash, sm_X3_isClash.2.1, sm_X3_isClash.2.2, in_X3_isClash, lw_at 393 (by decide +kernel)⟩
theorem co_X3_isSureBy : Cond.code yX3_isSureBy cX3_isSureBy 6 (some .boolean) ∈ lw_tbl := lw_at 569 (by decide +kernel)
theorem sm_X3_isSureBy : dp_Sm yX3_isSureBy cX3_isSureBy 6 (some .boolean) 2 := ⟨co_X3_isSureBy, (lw_at 6 (by decide +kernel)), by decide +kernel, by decide +kernel, by decide +kernel⟩
theorem in_X3_isSureBy : Cond.instanceMethod yX3_isSureBy ∈ lw_tbl := lw_at 568 (by decide +kernel)
theorem vm_X3_isSureBy : dp_Vm yX3_isSureBy RX3 cX3_isSureBy 6 (some .boolean) 2 := ⟨co_X3_isSureBy, sm_X3_isSureBy.2.1, sm_X3_isSureBy.2.2, in_X3_isSureBy, lw_pr 15 (by decide +kernel)⟩
theorem co_X3_reached : Cond.code yX3_reached cX3_reached 6 (some .int) ∈ lw_tbl := lw_at 439 (by decide +kernel)
theorem sm_X3_reached : dp_Sm yX3_reached cX3_reached 6 (some .int) 2 := ⟨co_X3_reached, (lw_at 6 (by decide +kernel)), by decide +kernel, by decide +kernel, by decide +kernel⟩
theorem in_X3_reached : Cond.instanceMethod yX3_reached ∈ lw_tbl := lw_at 437 (by decide +kernel)
theorem vm_X3_reached : dp_Vm yX3_reached RX3 cX3_reached 6 (some .int) 2 := ⟨co_X3_reached, sm_X3_reached.2.1, sm_X3_reached.2.2, in_X3_reached, lw_at 438 (by decide +kernel)⟩
theorem co_X3_remove : Cond.code yX3_remove cX3_remove 4 none ∈ lw_tbl := lw_at 348 (by decide +kernel)
theorem sm_X3_remove : dp_Sm yX3_remove cX3_remove 4 none 1 := ⟨co_X3_remove, (lw_at 6 (by decide +kernel)), by decide +kernel, by decide +kernel, by decide +kernel⟩
theorem in_X3_remove : Cond.instanceMethod yX3_remove ∈ lw_tbl := lw_at 346 (by decide +kernel)
theorem vm_X3_remove : dp_Vm yX3_remove RX3 cX3_remove 4 none 1 := ⟨co_X3_remove, sm_X3_remove.2.1, sm_X3_remove.2.2, in_X3_remove, lw_at 347 (by decide +kernel)⟩
theorem co_X3_size : Cond.code yX3_size cX3_size 1 (some .int) ∈ lw_tbl := lw_at 336 (by decide +kernel)
theorem sm_X3_size : dp_Sm yX3_size cX3_size 1 (some .int) 0 := ⟨co_X3_size, (lw_at 6 (by decide +kernel)), by decide +kernel, by decide +kernel, by decide +kernel⟩
theorem in_X3_size : Cond.instanceMethod yX3_size ∈ lw_tbl := lw_at 334 (by decide +kernel)
theorem vm_X3_size : dp_Vm yX3_size RX3 cX3_size 1 (some .int) 0 := ⟨co_X3_size, sm_X3_size.2.1, sm_X3_size.2.2, in_X3_size, lw_at 335 (by decide +kernel)⟩
theorem co_X3_sureFrom : Cond.code yX3_sureFrom cX3_sureFrom 3 (some .int) ∈ lw_tbl := lw_at 565 (by decide +kernel)
theorem sm_X3_sureFrom : dp_Sm yX3_sureFrom cX3_sureFrom 3 (some .int) 1 := ⟨co_X3_sureFrom, (lw_at 6 (by decide +kernel)), by decide +kernel, by decide +kernel, by decide +kernel⟩
theorem in_X3_sureFrom : Cond.instanceMethod yX3_sureFrom ∈ lw_tbl := lw_at 563 (by decide +kernel)
theorem vm_X3_sureFrom : dp_Vm yX3_sureFrom RX3 cX3_sureFrom 3 (some .int) 1 := ⟨co_X3_sureFrom, sm_X3_sureFrom.2.1, sm_X3_sureFrom.2.2, in_X3_sureFrom, lw_at 564 (by decide +kernel)⟩
theorem co_X3_winner : Cond.code yX3_winner cX3_winner 7 (some .int) ∈ lw_tbl := lw_at 427 (by decide +kernel)
theorem sm_X3_winner : dp_Sm yX3_winner cX3_winner 7 (some .int) 2 := ⟨co_X3_winner, (lw_at 6 (by decide +kernel)), by decide +kernel, by decide +kernel, by decide +kernel⟩
theorem in_X3_winner : Cond.instanceMethod yX3_winner ∈ lw_tbl := lw_at 425 (by decide +kernel)
theorem vm_X3_winner : dp_Vm yX3_winner RX3 cX3_winner 7 (some .int) 2 := ⟨co_X3_winner, sm_X3_winner.2.1, sm_X3_winner.2.2, in_X3_winner, lw_at 426 (by decide +kernel)⟩
theorem co_X4_init : Cond.code yX4_init cX4_init 1 none ∈ lw_tbl := lw_at 105 (by decide +kernel)
theorem sm_X4_init : dp_Sm yX4_init cX4_init 1 none 0 := ⟨co_X4_init, (lw_at 7 (by decide +kernel)), by decide +kernel, by decide +kernel, by decide +kernel⟩
theorem in_X4_init : Cond.instanceMethod yX4_init ∈ lw_tbl := lw_at 104 (by decide +kernel)
theorem co_X4_read : Cond.code yX4_read cX4_read 4 none ∈ lw_tbl := lw_at 443 (by decide +kernel)
theorem sm_X4_read : dp_Sm yX4_read cX4_read 4 none 2 := ⟨co_X4_read, (lw_at 7 (by decide +kernel)), by decide +kernel, by decide +kernel, by decide +kernel⟩
theorem in_X4_read : Cond.instanceMethod yX4_read ∈ lw_tbl := lw_at 441 (by decide +kernel)
theorem vm_X4_read : dp_Vm yX4_read RX4 cX4_read 4 none 2 := ⟨co_X4_read, sm_X4_read.2.1, sm_X4_read.2.2, in_X4_read, lw_at 442 (by decide +kernel)⟩
theorem co_X4_result : Cond.code yX4_result cX4_result 1 (some (.object "DialPlan$Row")) ∈ lw_tbl := lw_at 469 (by decide +kernel)
theorem sm_X4_result : dp_Sm yX4_result cX4_result 1 (some (.object "DialPlan$Row")) 0 := ⟨co_X4_result, (lw_at 7 (by decide +kernel)), by decide +kernel, by decide +kernel, by decide +kernel⟩
theorem in_X4_result : Cond.instanceMethod yX4_result ∈ lw_tbl := lw_at 467 (by decide +kernel)
theorem vm_X4_result : dp_Vm yX4_result RX4 cX4_result 1 (some (.object "DialPlan$Row")) 0 := ⟨co_X4_result, sm_X4_result.2.1, sm_X4_result.2.2, in_X4_result, lw_at 468 (by decide +kernel)⟩
theorem co_X4_rewrite : Cond.code yX4_rewrite cX4_rewrite 4 (some .boolean) ∈ lw_tbl := lw_at 450 (by decide +kernel)
theorem sm_X4_rewrite : dp_Sm yX4_rewrite cX4_rewrite 4 (some .boolean) 1 := ⟨co_X4_rewrite, (lw_at 7 (by decide +kernel)), by decide +kernel, by decide +kernel, by decide +kernel⟩
theorem in_X4_rewrite : Cond.instanceMethod yX4_rewrite ∈ lw_tbl := lw_at 449 (by decide +kernel)
theorem vm_X4_rewrite : dp_Vm yX4_rewrite RX4 cX4_rewrite 4 (some .boolean) 1 := ⟨co_X4_rewrite, sm_X4_rewrite.2.1, sm_X4_rewrite.2.2, in_X4_rewrite, lw_pr 13 (by decide +kernel)⟩
theorem co_X4_times : Cond.code yX4_times cX4_times 1 (some .int) ∈ lw_tbl := lw_at 465 (by decide +kernel)
theorem sm_X4_times : dp_Sm yX4_times cX4_times 1 (some .int) 0 := ⟨co_X4_times, (lw_at 7 (by decide +kernel)), by decide +kernel, by decide +kernel, by decide +kernel⟩
theorem in_X4_times : Cond.instanceMethod yX4_times ∈ lw_tbl := lw_at 463 (by decide +kernel)
theorem vm_X4_times : dp_Vm yX4_times RX4 cX4_times 1 (some .int) 0 := ⟨co_X4_times, sm_X4_times.2.1, sm_X4_times.2.2, in_X4_times, lw_at 464 (by decide +kernel)⟩
theorem co_X4_way : Cond.code yX4_way cX4_way 1 (some .int) ∈ lw_tbl := lw_at 461 (by decide +kernel)
theorem sm_X4_way : dp_Sm yX4_way cX4_way 1 (some .int) 0 := ⟨co_X4_way, (lw_at 7 (by decide +kernel)), by decide +kernel, by decide +kernel, by decide +kernel⟩
theorem in_X4_way : Cond.instanceMethod yX4_way ∈ lw_tbl := lw_at 459 (by decide +kernel)
theorem vm_X4_way : dp_Vm yX4_way RX4 cX4_way 1 (some .int) 0 := ⟨co_X4_way, sm_X4_way.2.1, sm_X4_way.2.2, in_X4_way, lw_at 460 (by decide +kernel)⟩
theorem co_X5_append : Cond.code yX5_append cX5_append 2 (some .boolean) ∈ lw_tbl := lw_at 184 (by decide +kernel)
theorem sm_X5_append : dp_Sm yX5_append cX5_append 2 (some .boolean) 1 := ⟨co_X5_append, (lw_at 2 (by decide +kernel)), by decide +kernel, by decide +kernel, by decide +kernel⟩
theorem in_X5_append : Cond.instanceMethod yX5_append ∈ lw_tbl := lw_at 182 (by decide +kernel)
theorem vm_X5_append : dp_Vm yX5_append RX5 cX5_append 2 (some .boolean) 1 := ⟨co_X5_append, sm_X5_append.2.1, sm_X5_append.2.2, in_X5_append, lw_at 183 (by decide +kernel)⟩
theorem co_X5_asNumber : Cond.code yX5_asNumber cX5_asNumber 3 (some .int) ∈ lw_tbl := lw_at 370 (by decide +kernel)
theorem sm_X5_asNumber : dp_Sm yX5_asNumber cX5_asNumber 3 (some .int) 0 := ⟨co_X5_asNumber, (lw_at 2 (by decide +kernel)), by decide +kernel, by decide +kernel, by decide +kernel⟩
theorem in_X5_asNumber : Cond.instanceMethod yX5_asNumber ∈ lw_tbl := lw_at 368 (by decide +kernel)
theorem vm_X5_asNumber : dp_Vm yX5_asNumber RX5 cX5_asNumber 3 (some .int) 0 := ⟨co_X5_asNumber, sm_X5_asNumber.2.1, sm_X5_asNumber.2.2, in_X5_asNumber, lw_at 369 (by decide +kernel)⟩
theorem co_X5_at : Cond.code yX5_at cX5_at 3 (some .int) ∈ lw_tbl := lw_at 219 (by decide +kernel)
theorem sm_X5_at : dp_Sm yX5_at cX5_at 3 (some .int) 1 := ⟨co_X5_at, (lw_at 2 (by decide +kernel)), by decide +kernel, by decide +kernel, by decide +kernel⟩
theorem in_X5_at : Cond.instanceMethod yX5_at ∈ lw_tbl := lw_at 217 (by decide +kernel)
theorem vm_X5_at : dp_Vm yX5_at RX5 cX5_at 3 (some .int) 1 := ⟨co_X5_at, sm_X5_at.2.1, sm_X5_at.2.2, in_X5_at, lw_at 218 (by decide +kernel)⟩
theorem co_X5_clear : Cond.code yX5_clear cX5_clear 1 none ∈ lw_tbl := lw_at 196 (by decide +kernel)
theorem sm_X5_clear : dp_Sm yX5_clear cX5_clear 1 none 0 := ⟨co_X5_clear, (lw_at 2 (by decide +kernel)), by decide +kernel, by decide +kernel, by decide +kernel⟩
theorem in_X5_clear : Cond.instanceMethod yX5_clear ∈ lw_tbl := lw_at 194 (by decide +kernel)
theorem vm_X5_clear : dp_Vm yX5_clear RX5 cX5_clear 1 none 0 := ⟨co_X5_clear, sm_X5_clear.2.1, sm_X5_clear.2.2, in_X5_clear, lw_at 195 (by decide +kernel)⟩
theorem co_X5_copyFrom : Cond.code yX5_copyFrom cX5_copyFrom 3 none ∈ lw_tbl := lw_at 328 (by decide +kernel)
theorem sm_X5_copyFrom : dp_Sm yX5_copyFrom cX5_copyFrom 3 none 1 := ⟨co_X5_copyFrom, (lw_at 2 (by decide +kernel)), by decide +kernel, by decide +kernel, by decide +kernel⟩
theorem in_X5_copyFrom : Cond.instanceMethod yX5_copyFrom ∈ lw_tbl := lw_at 326 (by decide +kernel)
theorem vm_X5_copyFrom : dp_Vm yX5_copyFrom RX5 cX5_copyFrom 3 none 1 := ⟨co_X5_copyFrom, sm_X5_copyFrom.2.1, sm_X5_copyFrom.2.2, in_X5_copyFrom, lw_at 327 (by decide +kernel)⟩
theorem co_X5_init : Cond.code yX5_init cX5_init 2 none ∈ lw_tbl := lw_at 23 (by decide +kernel)
theorem sm_X5_init : dp_Sm yX5_init cX5_init 2 none 1 := ⟨co_X5_init, (lw_at 2 (by decide +kernel)), by decide +kernel, by decide +kernel, by decide +kernel⟩
theorem in_X5_init : Cond.instanceMethod yX5_init ∈ lw_tbl := lw_at 22 (by decide +kernel)
theorem co_X5_isLike : Cond.code yX5_isLike cX5_isLike 3 (some .boolean) ∈ lw_tbl := lw_at 413 (by decide +kernel)
theorem sm_X5_isLike : dp_Sm yX5_isLike cX5_isLike 3 (some .boolean) 1 := ⟨co_X5_isLike, (lw_at 2 (by decide +kernel)), by decide +kernel, by decide +kernel, by decide +kernel⟩
theorem in_X5_isLike : Cond.instanceMethod yX5_isLike ∈ lw_tbl := lw_at 411 (by decide +kernel)
theorem vm_X5_isLike : dp_Vm yX5_isLike RX5 cX5_isLike 3 (some .boolean) 1 := ⟨co_X5_isLike, sm_X5_isLike.2.1, sm_X5_isLike.2.2, in_X5_isLike, lw_at 412 (by decide +kernel)⟩
theorem co_X5_size : Cond.code yX5_size cX5_size 1 (some .int) ∈ lw_tbl := lw_at 188 (by decide +kernel)
theorem sm_X5_size : dp_Sm yX5_size cX5_size 1 (some .int) 0 := ⟨co_X5_size, (lw_at 2 (by decide +kernel)), by decide +kernel, by decide +kernel, by decide +kernel⟩
theorem in_X5_size : Cond.instanceMethod yX5_size ∈ lw_tbl := lw_at 186 (by decide +kernel)
theorem vm_X5_size : dp_Vm yX5_size RX5 cX5_size 1 (some .int) 0 := ⟨co_X5_size, sm_X5_size.2.1, sm_X5_size.2.2, in_X5_size, lw_at 187 (by decide +kernel)⟩
theorem co_X6_add : Cond.code yX6_add cX6_add 2 (some .int) ∈ lw_tbl := lw_at 304 (by decide +kernel)
theorem sm_X6_add : dp_Sm yX6_add cX6_add 2 (some .int) 0 := ⟨co_X6_add, (lw_at 1 (by decide +kernel)), by decide +kernel, by decide +kernel, by decide +kernel⟩
theorem in_X6_add : Cond.instanceMethod yX6_add ∈ lw_tbl := lw_at 302 (by decide +kernel)
theorem vm_X6_add : dp_Vm yX6_add RX6 cX6_add 2 (some .int) 0 := ⟨co_X6_add, sm_X6_add.2.1, sm_X6_add.2.2, in_X6_add, lw_at 303 (by decide +kernel)⟩
theorem co_X6_blank : Cond.code yX6_blank cX6_blank 2 (some .int) ∈ lw_tbl := lw_at 192 (by decide +kernel)
theorem sm_X6_blank : dp_Sm yX6_blank cX6_blank 2 (some .int) 0 := ⟨co_X6_blank, (lw_at 1 (by decide +kernel)), by decide +kernel, by decide +kernel, by decide +kernel⟩
theorem in_X6_blank : Cond.instanceMethod yX6_blank ∈ lw_tbl := lw_at 190 (by decide +kernel)
theorem vm_X6_blank : dp_Vm yX6_blank RX6 cX6_blank 2 (some .int) 0 := ⟨co_X6_blank, sm_X6_blank.2.1, sm_X6_blank.2.2, in_X6_blank, lw_at 191 (by decide +kernel)⟩
theorem co_X6_clash : Cond.code yX6_clash cX6_clash 5 (some .int) ∈ lw_tbl := lw_at 390 (by decide +kernel)
theorem sm_X6_clash : dp_Sm yX6_clash cX6_clash 5 (some .int) 1 := ⟨co_X6_clash, (lw_at 1 (by decide +kernel)), by decide +kernel, by decide +kernel, by decide +kernel⟩
theorem in_X6_clash : Cond.instanceMethod yX6_clash ∈ lw_tbl := lw_at 388 (by decide +kernel)
theorem vm_X6_clash : dp_Vm yX6_clash RX6 cX6_clash 5 (some .int) 1 := ⟨co_X6_clash, sm_X6_clash.2.1, sm_X6_clash.2.2, in_X6_clash, lw_at 389 (by decide +kernel)⟩
theorem co_X6_count : Cond.code yX6_count cX6_count 2 (some .int) ∈ lw_tbl := lw_at 582 (by decide +kernel)
theorem sm_X6_count : dp_Sm yX6_count cX6_count 2 (some .int) 1 := ⟨co_X6_count, (lw_at 1 (by decide +kernel)), by decide +kernel, by decide +kernel, by decide +kernel⟩
theorem in_X6_count : Cond.instanceMethod yX6_count ∈ lw_tbl := lw_at 580 (by decide +kernel)
theorem vm_X6_count : dp_Vm yX6_count RX6 cX6_count 2 (some .int) 1 := ⟨co_X6_count, sm_X6_count.2.1, sm_X6_count.2.2, in_X6_count, lw_at 581 (by decide +kernel)⟩
theorem co_X6_digest : Cond.code yX6_digest cX6_digest 4 (some .long) ∈ lw_tbl := lw_at 607 (by decide +kernel)
theorem sm_X6_digest : dp_Sm yX6_digest cX6_digest 4 (some .long) 0 := ⟨co_X6_digest, (lw_at 1 (by decide +kernel)), by decide +kernel, by decide +kernel, by decide +kernel⟩
theorem in_X6_digest : Cond.instanceMethod yX6_digest ∈ lw_tbl := lw_at 605 (by decide +kernel)
theorem vm_X6_digest : dp_Vm yX6_digest RX6 cX6_digest 4 (some .long) 0 := ⟨co_X6_digest, sm_X6_digest.2.1, sm_X6_digest.2.2, in_X6_digest, lw_at 606 (by decide +kernel)⟩
theorem co_X6_digestOfClashes : Cond.code yX6_digestOfClashes cX6_digestOfClashes 7 (some .long) ∈ lw_tbl := lw_at 619 (by decide +kernel)
theorem sm_X6_digestOfClashes : dp_Sm yX6_digestOfClashes cX6_digestOfClashes 7 (some .long) 1 := ⟨co_X6_digestOfClashes, (lw_at 1 (by decide +kernel)), by decide +kernel, by decide +kernel, by decide +kernel⟩
theorem in_X6_digestOfClashes : Cond.instanceMethod yX6_digestOfClashes ∈ lw_tbl := lw_at 618 (by decide +kernel)
theorem vm_X6_digestOfClashes : dp_Vm yX6_digestOfClashes RX6 cX6_digestOfClashes 7 (some .long) 1 := ⟨co_X6_digestOfClashes, sm_X6_digestOfClashes.2.1, sm_X6_digestOfClashes.2.2, in_X6_digestOfClashes, lw_pr 18 (by decide +kernel)⟩
theorem co_X6_digestOfPatterns : Cond.code yX6_digestOfPatterns cX6_digestOfPatterns 7 (some .long) ∈ lw_tbl := lw_at 612 (by decide +kernel)
theorem sm_X6_digestOfPatterns : dp_Sm yX6_digestOfPatterns cX6_digestOfPatterns 7 (some .long) 1 := ⟨co_X6_digestOfPatterns, (lw_at 1 (by decide +kernel)), by decide +kernel, by decide +kernel, by decide +kernel⟩
theorem in_X6_digestOfPatterns : Cond.instanceMethod yX6_digestOfPatterns ∈ lw_tbl := lw_at 611 (by decide +kernel)
theorem vm_X6_digestOfPatterns : dp_Vm yX6_digestOfPatterns RX6 cX6_digestOfPatterns 7 (some .long) 1 := ⟨co_X6_digestOfPatterns, sm_X6_digestOfPatterns.2.1, sm_X6_digestOfPatterns.2.2, in_X6_digestOfPatterns, lw_pr 17 (by decide +kernel)⟩
theorem co_X6_drop : Cond.code yX6_drop cX6_drop 2 (some .int) ∈ lw_tbl := lw_at 340 (by decide +kernel)
theorem sm_X6_drop : dp_Sm yX6_drop cX6_drop 2 (some .int) 1 := ⟨co_X6_drop, (lw_at 1 (by decide +kernel)), by decide +kernel, by decide +kernel, by decide +kernel⟩
theorem in_X6_drop : Cond.instanceMethod yX6_drop ∈ lw_tbl := lw_at 338 (by decide +kernel)
theorem vm_X6_drop : dp_Vm yX6_drop RX6 cX6_drop 2 (some .int) 1 := ⟨co_X6_drop, sm_X6_drop.2.1, sm_X6_drop.2.2, in_X6_drop, lw_at 339 (by decide +kernel)⟩
theorem co_X6_end : Cond.code yX6_end cX6_end 1 (some .int) ∈ lw_tbl := lw_at 551 (by decide +kernel)
theorem sm_X6_end : dp_Sm yX6_end cX6_end 1 (some .int) 0 := ⟨co_X6_end, (lw_at 1 (by decide +kernel)), by decide +kernel, by decide +kernel, by decide +kernel⟩
theorem in_X6_end : Cond.instanceMethod yX6_end ∈ lw_tbl := lw_at 549 (by decide +kernel)
theorem vm_X6_end : dp_Vm yX6_end RX6 cX6_end 1 (some .int) 0 := ⟨co_X6_end, sm_X6_end.2.1, sm_X6_end.2.2, in_X6_end, lw_at 550 (by decide +kernel)⟩
theorem co_X6_fault : Cond.code yX6_fault cX6_fault 1 (some .int) ∈ lw_tbl := lw_at 200 (by decide +kernel)
theorem sm_X6_fault : dp_Sm yX6_fault cX6_fault 1 (some .int) 0 := ⟨co_X6_fault, (lw_at 1 (by decide +kernel)), by decide +kernel, by decide +kernel, by decide +kernel⟩
theorem in_X6_fault : Cond.instanceMethod yX6_fault ∈ lw_tbl := lw_at 198 (by decide +kernel)
theorem vm_X6_fault : dp_Vm yX6_fault RX6 cX6_fault 1 (some .int) 0 := ⟨co_X6_fault, sm_X6_fault.2.1, sm_X6_fault.2.2, in_X6_fault, lw_at 199 (by decide +kernel)⟩
theorem co_X6_hang : Cond.code yX6_hang cX6_hang 2 (some .int) ∈ lw_tbl := lw_at 508 (by decide +kernel)
theorem sm_X6_hang : dp_Sm yX6_hang cX6_hang 2 (some .int) 0 := ⟨co_X6_hang, (lw_at 1 (by decide +kernel)), by decide +kernel, by decide +kernel, by decide +kernel⟩
theorem in_X6_hang : Cond.instanceMethod yX6_hang ∈ lw_tbl := lw_at 506 (by decide +kernel)
theorem vm_X6_hang : dp_Vm yX6_hang RX6 cX6_hang 2 (some .int) 0 := ⟨co_X6_hang, sm_X6_hang.2.1, sm_X6_hang.2.2, in_X6_hang, lw_at 507 (by decide +kernel)⟩
theorem co_X6_init : Cond.code yX6_init cX6_init 1 none ∈ lw_tbl := lw_at 15 (by decide +kernel)
theorem sm_X6_init : dp_Sm yX6_init cX6_init 1 none 0 := ⟨co_X6_init, (lw_at 1 (by decide +kernel)), by decide +kernel, by decide +kernel, by decide +kernel⟩
theorem in_X6_init : Cond.instanceMethod yX6_init ∈ lw_tbl := lw_at 14 (by decide +kernel)
theorem co_X6_isFigure : Cond.code yX6_isFigure cX6_isFigure 1 (some .boolean) ∈ lw_tbl := lw_at 256 (by decide +kernel)
theorem sm_X6_isFigure : dp_Sm yX6_isFigure cX6_isFigure 1 (some .boolean) 1 := ⟨co_X6_isFigure, (lw_at 1 (by decide +kernel)), by decide +kernel, by decide +kernel, by decide +kernel⟩
theorem st_X6_isFigure : Cond.static yX6_isFigure ∈ lw_tbl := lw_at 255 (by decide +kernel)
theorem co_X6_lets : Cond.code yX6_lets cX6_lets 4 (some .int) ∈ lw_tbl := lw_at 374 (by decide +kernel)
theorem sm_X6_lets : dp_Sm yX6_lets cX6_lets 4 (some .int) 2 := ⟨co_X6_lets, (lw_at 1 (by decide +kernel)), by decide +kernel, by decide +kernel, by decide +kernel⟩
theorem in_X6_lets : Cond.instanceMethod yX6_lets ∈ lw_tbl := lw_at 372 (by decide +kernel)
theorem vm_X6_lets : dp_Vm yX6_lets RX6 cX6_lets 4 (some .int) 2 := ⟨co_X6_lets, sm_X6_lets.2.1, sm_X6_lets.2.2, in_X6_lets, lw_at 373 (by decide +kernel)⟩
theorem co_X6_letter : Cond.code yX6_letter cX6_letter 2 (some .int) ∈ lw_tbl := lw_at 180 (by decide +kernel)
theorem sm_X6_letter : dp_Sm yX6_letter cX6_letter 2 (some .int) 1 := ⟨co_X6_letter, (lw_at 1 (by decide +kernel)), by decide +kernel, by decide +kernel, by decide +kernel⟩
theorem in_X6_letter : Cond.instanceMethod yX6_letter ∈ lw_tbl := lw_at 178 (by decide +kernel)
theorem vm_X6_letter : dp_Vm yX6_letter RX6 cX6_letter 2 (some .int) 1 := ⟨co_X6_letter, sm_X6_letter.2.1, sm_X6_letter.2.2, in_X6_letter, lw_at 179 (by decide +kernel)⟩
theorem co_X6_lift : Cond.code yX6_lift cX6_lift 1 (some .int) ∈ lw_tbl := lw_at 485 (by decide +kernel)
theorem sm_X6_lift : dp_Sm yX6_lift cX6_lift 1 (some .int) 0 := ⟨co_X6_lift, (lw_at 1 (by decide +kernel)), by decide +kernel, by decide +kernel, by decide +kernel⟩
theorem in_X6_lift : Cond.instanceMethod yX6_lift ∈ lw_tbl := lw_at 483 (by decide +kernel)
theorem vm_X6_lift : dp_Vm yX6_lift RX6 cX6_lift 1 (some .int) 0 := ⟨co_X6_lift, sm_X6_lift.2.1, sm_X6_lift.2.2, in_X6_lift, lw_at 484 (by decide +kernel)⟩
theorem co_X6_line : Cond.code yX6_line cX6_line 2 (some .int) ∈ lw_tbl := lw_at 556 (by decide +kernel)
theorem sm_X6_line : dp_Sm yX6_line cX6_line 2 (some .int) 1 := ⟨co_X6_line, (lw_at 1 (by decide +kernel)), by decide +kernel, by decide +kernel, by decide +kernel⟩
theorem in_X6_line : Cond.instanceMethod yX6_line ∈ lw_tbl := lw_at 554 (by decide +kernel)
theorem vm_X6_line : dp_Vm yX6_line RX6 cX6_line 2 (some .int) 1 := ⟨co_X6_line, sm_X6_line.2.1, sm_X6_line.2.2, in_X6_line, lw_at 555 (by decide +kernel)⟩
theorem co_X6_narrower : Cond.code yX6_narrower cX6_narrower 5 (some .int) ∈ lw_tbl := lw_at 382 (by decide +kernel)
theorem sm_X6_narrower : dp_Sm yX6_narrower cX6_narrower 5 (some .int) 2 := ⟨co_X6_narrower, (lw_at 1 (by decide +kernel)), by decide +kernel, by decide +kernel, by decide +kernel⟩
theorem in_X6_narrower : Cond.instanceMethod yX6_narrower ∈ lw_tbl := lw_at 380 (by decide +kernel)
theorem vm_X6_narrower : dp_Vm yX6_narrower RX6 cX6_narrower 5 (some .int) 2 := ⟨co_X6_narrower, sm_X6_narrower.2.1, sm_X6_narrower.2.2, in_X6_narrower, lw_at 381 (by decide +kernel)⟩
theorem co_X6_pass : Cond.code yX6_pass cX6_pass 2 (some .int) ∈ lw_tbl := lw_at 543 (by decide +kernel)
theorem sm_X6_pass : dp_Sm yX6_pass cX6_pass 2 (some .int) 1 := ⟨co_X6_pass, (lw_at 1 (by decide +kernel)), by decide +kernel, by decide +kernel, by decide +kernel⟩
theorem in_X6_pass : Cond.instanceMethod yX6_pass ∈ lw_tbl := lw_at 541 (by decide +kernel)
theorem vm_X6_pass : dp_Vm yX6_pass RX6 cX6_pass 2 (some .int) 1 := ⟨co_X6_pass, sm_X6_pass.2.1, sm_X6_pass.2.2, in_X6_pass, lw_at 542 (by decide +kernel)⟩
theorem co_X6_pattern : Cond.code yX6_pattern cX6_pattern 4 (some .int) ∈ lw_tbl := lw_at 352 (by decide +kernel)
theorem sm_X6_pattern : dp_Sm yX6_pattern cX6_pattern 4 (some .int) 2 := ⟨co_X6_pattern, (lw_at 1 (by decide +kernel)), by decide +kernel, by decide +kernel, by decide +kernel⟩
theorem in_X6_pattern : Cond.instanceMethod yX6_pattern ∈ lw_tbl := lw_at 350 (by decide +kernel)
theorem vm_X6_pattern : dp_Vm yX6_pattern RX6 cX6_pattern 4 (some .int) 2 := ⟨co_X6_pattern, sm_X6_pattern.2.1, sm_X6_pattern.2.2, in_X6_pattern, lw_at 351 (by decide +kernel)⟩
theorem co_X6_press : Cond.code yX6_press cX6_press 2 (some .int) ∈ lw_tbl := lw_at 521 (by decide +kernel)
theorem sm_X6_press : dp_Sm yX6_press cX6_press 2 (some .int) 1 := ⟨co_X6_press, (lw_at 1 (by decide +kernel)), by decide +kernel, by decide +kernel, by decide +kernel⟩
theorem in_X6_press : Cond.instanceMethod yX6_press ∈ lw_tbl := lw_at 519 (by decide +kernel)
theorem vm_X6_press : dp_Vm yX6_press RX6 cX6_press 2 (some .int) 1 := ⟨co_X6_press, sm_X6_press.2.1, sm_X6_press.2.2, in_X6_press, lw_at 520 (by decide +kernel)⟩
theorem co_X6_readsPageAsRow : Cond.code yX6_readsPageAsRow cX6_readsPageAsRow 2 (some .boolean) ∈ lw_tbl := lw_at 421 (by decide +kernel)
theorem sm_X6_readsPageAsRow : dp_Sm yX6_readsPageAsRow cX6_readsPageAsRow 2 (some .boolean) 0 := ⟨co_X6_readsPageAsRow, (lw_at 1 (by decide +kernel)), by decide +kernel, by decide +kernel, by decide +kernel⟩
theorem in_X6_readsPageAsRow : Cond.instanceMethod yX6_readsPageAsRow ∈ lw_tbl := lw_at 420 (by decide +kernel)
theorem vm_X6_readsPageAsRow : dp_Vm yX6_readsPageAsRow RX6 cX6_readsPageAsRow 2 (some .boolean) 0 := ⟨co_X6_readsPageAsRow, sm_X6_readsPageAsRow.2.1, sm_X6_readsPageAsRow.2.2, in_X6_readsPageAsRow, lw_pr 12 (by decide +kernel)⟩
theorem co_X6_row : Cond.code yX6_row cX6_row 3 (some .int) ∈ lw_tbl := lw_at 417 (by decide +kernel)
theorem sm_X6_row : dp_Sm yX6_row cX6_row 3 (some .int) 1 := ⟨co_X6_row, (lw_at 1 (by decide +kernel)), by decide +kernel, by decide +kernel, by decide +kernel⟩
theorem in_X6_row : Cond.instanceMethod yX6_row ∈ lw_tbl := lw_at 415 (by decide +kernel)
theorem vm_X6_row : dp_Vm yX6_row RX6 cX6_row 3 (some .int) 1 := ⟨co_X6_row, sm_X6_row.2.1, sm_X6_row.2.2, in_X6_row, lw_at 416 (by decide +kernel)⟩
theorem co_X6_stage : Cond.code yX6_stage cX6_stage 4 (some .int) ∈ lw_tbl := lw_at 473 (by decide +kernel)
theorem sm_X6_stage : dp_Sm yX6_stage cX6_stage 4 (some .int) 2 := ⟨co_X6_stage, (lw_at 1 (by decide +kernel)), by decide +kernel, by decide +kernel, by decide +kernel⟩
theorem in_X6_stage : Cond.instanceMethod yX6_stage ∈ lw_tbl := lw_at 471 (by decide +kernel)
theorem vm_X6_stage : dp_Vm yX6_stage RX6 cX6_stage 4 (some .int) 2 := ⟨co_X6_stage, sm_X6_stage.2.1, sm_X6_stage.2.2, in_X6_stage, lw_at 472 (by decide +kernel)⟩
theorem co_X6_wayOfTheLine : Cond.code yX6_wayOfTheLine cX6_wayOfTheLine 1 (some .int) ∈ lw_tbl := lw_at 578 (by decide +kernel)
theorem sm_X6_wayOfTheLine : dp_Sm yX6_wayOfTheLine cX6_wayOfTheLine 1 (some .int) 0 := ⟨co_X6_wayOfTheLine, (lw_at 1 (by decide +kernel)), by decide +kernel, by decide +kernel, by decide +kernel⟩
theorem in_X6_wayOfTheLine : Cond.instanceMethod yX6_wayOfTheLine ∈ lw_tbl := lw_at 577 (by decide +kernel)
theorem vm_X6_wayOfTheLine : dp_Vm yX6_wayOfTheLine RX6 cX6_wayOfTheLine 1 (some .int) 0 := ⟨co_X6_wayOfTheLine, sm_X6_wayOfTheLine.2.1, sm_X6_wayOfTheLine.2.2, in_X6_wayOfTheLine, lw_pr 16 (by decide +kernel)⟩
theorem co_X7_add : Cond.code yX7_add cX7_add 1 (some .int) ∈ lw_tbl := lw_at 779 (by decide +kernel)
theorem sm_X7_add : dp_Sm yX7_add cX7_add 1 (some .int) 0 := ⟨co_X7_add, (lw_at 9 (by decide +kernel)), by decide +kernel, by decide +kernel, by decide +kernel⟩
theorem in_X7_add : Cond.instanceMethod yX7_add ∈ lw_tbl := lw_at 777 (by decide +kernel)
theorem vm_X7_add : dp_Vm yX7_add RX7 cX7_add 1 (some .int) 0 := ⟨co_X7_add, sm_X7_add.2.1, sm_X7_add.2.2, in_X7_add, lw_at 778 (by decide +kernel)⟩
theorem co_X7_aheadNumber : Cond.code yX7_aheadNumber cX7_aheadNumber 4 (some .int) ∈ lw_tbl := lw_at 807 (by decide +kernel)
theorem sm_X7_aheadNumber : dp_Sm yX7_aheadNumber cX7_aheadNumber 4 (some .int) 1 := ⟨co_X7_aheadNumber, (lw_at 9 (by decide +kernel)), by decide +kernel, by decide +kernel, by decide +kernel⟩
theorem in_X7_aheadNumber : Cond.instanceMethod yX7_aheadNumber ∈ lw_tbl := lw_at 806 (by decide +kernel)
theorem vm_X7_aheadNumber : dp_Vm yX7_aheadNumber RX7 cX7_aheadNumber 4 (some .int) 1 := ⟨co_X7_aheadNumber, sm_X7_aheadNumber.2.1, sm_X7_aheadNumber.2.2, in_X7_aheadNumber, lw_pr 31 (by decide +kernel)⟩
theorem co_X7_areLike : Cond.code yX7_areLike cX7_areLike 4 (some .boolean) ∈ lw_tbl := lw_at 846 (by decide +kernel)
theorem sm_X7_areLike : dp_Sm yX7_areLike cX7_areLike 4 (some .boolean) 2 := ⟨co_X7_areLike, (lw_at 9 (by decide +kernel)), by decide +kernel, by decide +kernel, by decide +kernel⟩
theorem in_X7_areLike : Cond.instanceMethod yX7_areLike ∈ lw_tbl := lw_at 845 (by decide +kernel)
theorem vm_X7_areLike : dp_Vm yX7_areLike RX7 cX7_areLike 4 (some .boolean) 2 := ⟨co_X7_areLike, sm_X7_areLike.2.1, sm_X7_areLike.2.2, in_X7_areLike, lw_pr 37 (by decide +kernel)⟩
theorem co_X7_begins : Cond.code yX7_begins cX7_begins 5 (some .boolean) ∈ lw_tbl := lw_at 870 (by decide +kernel)
theorem sm_X7_begins : dp_Sm yX7_begins cX7_begins 5 (some .boolean) 2 := ⟨co_X7_begins, (lw_at 9 (by decide +kernel)), by decide +kernel, by decide +kernel, by decide +kernel⟩
theorem in_X7_begins : Cond.instanceMethod yX7_begins ∈ lw_tbl := lw_at 869 (by decide +kernel)
theorem vm_X7_begins : dp_Vm yX7_begins RX7 cX7_begins 5 (some .boolean) 2 := ⟨co_X7_begins, sm_X7_begins.2.1, sm_X7_begins.2.2, in_X7_begins, lw_pr 42 (by decide +kernel)⟩
theorem co_X7_blank : Cond.code yX7_blank cX7_blank 2 (some .int) ∈ lw_tbl := lw_at 739 (by decide +kernel)
theorem sm_X7_blank : dp_Sm yX7_blank cX7_blank 2 (some .int) 0 := ⟨co_X7_blank, (lw_at 9 (by decide +kernel)), by decide +kernel, by decide +kernel, by decide +kernel⟩
theorem in_X7_blank : Cond.instanceMethod yX7_blank ∈ lw_tbl := lw_at 737 (by decide +kernel)
theorem vm_X7_blank : dp_Vm yX7_blank RX7 cX7_blank 2 (some .int) 0 := ⟨co_X7_blank, sm_X7_blank.2.1, sm_X7_blank.2.2, in_X7_blank, lw_at 738 (by decide +kernel)⟩
theorem co_X7_clash : Cond.code yX7_clash cX7_clash 3 (some .int) ∈ lw_tbl := lw_at 834 (by decide +kernel)
theorem sm_X7_clash : dp_Sm yX7_clash cX7_clash 3 (some .int) 1 := ⟨co_X7_clash, (lw_at 9 (by decide +kernel)), by decide +kernel, by decide +kernel, by decide +kernel⟩
theorem in_X7_clash : Cond.instanceMethod yX7_clash ∈ lw_tbl := lw_at 832 (by decide +kernel)
theorem vm_X7_clash : dp_Vm yX7_clash RX7 cX7_clash 3 (some .int) 1 := ⟨co_X7_clash, sm_X7_clash.2.1, sm_X7_clash.2.2, in_X7_clash, lw_at 833 (by decide +kernel)⟩
theorem co_X7_clashAt : Cond.code yX7_clashAt cX7_clashAt 5 (some .int) ∈ lw_tbl := lw_at 838 (by decide +kernel)
theorem sm_X7_clashAt : dp_Sm yX7_clashAt cX7_clashAt 5 (some .int) 1 := ⟨co_X7_clashAt, (lw_at 9 (by decide +kernel)), by decide +kernel, by decide +kernel, by decide +kernel⟩
theorem in_X7_clashAt : Cond.instanceMethod yX7_clashAt ∈ lw_tbl := lw_at 837 (by decide +kernel)
theorem vm_X7_clashAt : dp_Vm yX7_clashAt RX7 cX7_clashAt 5 (some .int) 1 := ⟨co_X7_clashAt, sm_X7_clashAt.2.1, sm_X7_clashAt.2.2, in_X7_clashAt, lw_pr 35 (by decide +kernel)⟩
theorem co_X7_clashes : Cond.code yX7_clashes cX7_clashes 4 (some .int) ∈ lw_tbl := lw_at 966 (by decide +kernel)
theorem sm_X7_clashes : dp_Sm yX7_clashes cX7_clashes 4 (some .int) 0 := ⟨co_X7_clashes, (lw_at 9 (by decide +kernel)), by decide +kernel, by decide +kernel, by decide +kernel⟩
theorem in_X7_clashes : Cond.instanceMethod yX7_clashes ∈ lw_tbl := lw_at 965 (by decide +kernel)
theorem vm_X7_clashes : dp_Vm yX7_clashes RX7 cX7_clashes 4 (some .int) 0 := ⟨co_X7_clashes, sm_X7_clashes.2.1, sm_X7_clashes.2.2, in_X7_clashes, lw_pr 58 (by decide +kernel)⟩
theorem co_X7_compare : Cond.code yX7_compare cX7_compare 5 (some .int) ∈ lw_tbl := lw_at 823 (by decide +kernel)
theorem sm_X7_compare : dp_Sm yX7_compare cX7_compare 5 (some .int) 2 := ⟨co_X7_compare, (lw_at 9 (by decide +kernel)), by decide +kernel, by decide +kernel, by decide +kernel⟩
theorem in_X7_compare : Cond.instanceMethod yX7_compare ∈ lw_tbl := lw_at 822 (by decide +kernel)
theorem vm_X7_compare : dp_Vm yX7_compare RX7 cX7_compare 5 (some .int) 2 := ⟨co_X7_compare, sm_X7_compare.2.1, sm_X7_compare.2.2, in_X7_compare, lw_pr 33 (by decide +kernel)⟩
theorem co_X7_copy : Cond.code yX7_copy cX7_copy 4 none ∈ lw_tbl := lw_at 795 (by decide +kernel)
theorem sm_X7_copy : dp_Sm yX7_copy cX7_copy 4 none 2 := ⟨co_X7_copy, (lw_at 9 (by decide +kernel)), by decide +kernel, by decide +kernel, by decide +kernel⟩
theorem in_X7_copy : Cond.instanceMethod yX7_copy ∈ lw_tbl := lw_at 794 (by decide +kernel)
theorem vm_X7_copy : dp_Vm yX7_copy RX7 cX7_copy 4 none 2 := ⟨co_X7_copy, sm_X7_copy.2.1, sm_X7_copy.2.2, in_X7_copy, lw_pr 29 (by decide +kernel)⟩
theorem co_X7_count : Cond.code yX7_count cX7_count 2 (some .int) ∈ lw_tbl := lw_at 958 (by decide +kernel)
theorem sm_X7_count : dp_Sm yX7_count cX7_count 2 (some .int) 1 := ⟨co_X7_count, (lw_at 9 (by decide +kernel)), by decide +kernel, by decide +kernel, by decide +kernel⟩
theorem in_X7_count : Cond.instanceMethod yX7_count ∈ lw_tbl := lw_at 956 (by decide +kernel)
theorem vm_X7_count : dp_Vm yX7_count RX7 cX7_count 2 (some .int) 1 := ⟨co_X7_count, sm_X7_count.2.1, sm_X7_count.2.2, in_X7_count, lw_at 957 (by decide +kernel)⟩
theorem co_X7_digest : Cond.code yX7_digest cX7_digest 3 (some .long) ∈ lw_tbl := lw_at 970 (by decide +kernel)
theorem sm_X7_digest : dp_Sm yX7_digest cX7_digest 3 (some .long) 0 := ⟨co_X7_digest, (lw_at 9 (by decide +kernel)), by decide +kernel, by decide +kernel, by decide +kernel⟩
theorem in_X7_digest : Cond.instanceMethod yX7_digest ∈ lw_tbl := lw_at 968 (by decide +kernel)
theorem vm_X7_digest : dp_Vm yX7_digest RX7 cX7_digest 3 (some .long) 0 := ⟨co_X7_digest, sm_X7_digest.2.1, sm_X7_digest.2.2, in_X7_digest, lw_at 969 (by decide +kernel)⟩
theorem co_X7_drop : Cond.code yX7_drop cX7_drop 3 (some .int) ∈ lw_tbl := lw_at 787 (by decide +kernel)
theorem sm_X7_drop : dp_Sm yX7_drop cX7_drop 3 (some .int) 1 := ⟨co_X7_drop, (lw_at 9 (by decide +kernel)), by decide +kernel, by decide +kernel, by decide +kernel⟩
theorem in_X7_drop : Cond.instanceMethod yX7_drop ∈ lw_tbl := lw_at 785 (by decide +kernel)
theorem vm_X7_drop : dp_Vm yX7_drop RX7 cX7_drop 3 (some .int) 1 := ⟨co_X7_drop, sm_X7_drop.2.1, sm_X7_drop.2.2, in_X7_drop, lw_at 786 (by decide +kernel)⟩
theorem co_X7_end : Cond.code yX7_end cX7_end 1 (some .int) ∈ lw_tbl := lw_at 926 (by decide +kernel)
theorem sm_X7_end : dp_Sm yX7_end cX7_end 1 (some .int) 0 := ⟨co_X7_end, (lw_at 9 (by decide +kernel)), by decide +kernel, by decide +kernel, by decide +kernel⟩
theorem in_X7_end : Cond.instanceMethod yX7_end ∈ lw_tbl := lw_at 924 (by decide +kernel)
theorem vm_X7_end : dp_Vm yX7_end RX7 cX7_end 1 (some .int) 0 := ⟨co_X7_end, sm_X7_end.2.1, sm_X7_end.2.2, in_X7_end, lw_at 925 (by decide +kernel)⟩
theorem co_X7_ends : Cond.code yX7_ends cX7_ends 2 (some .int) ∈ lw_tbl := lw_at 918 (by decide +kernel)
theorem sm_X7_ends : dp_Sm yX7_ends cX7_ends 2 (some .int) 1 := ⟨co_X7_ends, (lw_at 9 (by decide +kernel)), by decide +kernel, by decide +kernel, by decide +kernel⟩
theorem in_X7_ends : Cond.instanceMethod yX7_ends ∈ lw_tbl := lw_at 917 (by decide +kernel)
theorem vm_X7_ends : dp_Vm yX7_ends RX7 cX7_ends 2 (some .int) 1 := ⟨co_X7_ends, sm_X7_ends.2.1, sm_X7_ends.2.2, in_X7_ends, lw_pr 50 (by decide +kernel)⟩
theorem co_X7_fault : Cond.code yX7_fault cX7_fault 1 (some .int) ∈ lw_tbl := lw_at 743 (by decide +kernel)
theorem sm_X7_fault : dp_Sm yX7_fault cX7_fault 1 (some .int) 0 := ⟨co_X7_fault, (lw_at 9 (by decide +kernel)), by decide +kernel, by decide +kernel, by decide +kernel⟩
theorem in_X7_fault : Cond.instanceMethod yX7_fault ∈ lw_tbl := lw_at 741 (by decide +kernel)
theorem vm_X7_fault : dp_Vm yX7_fault RX7 cX7_fault 1 (some .int) 0 := ⟨co_X7_fault, sm_X7_fault.2.1, sm_X7_fault.2.2, in_X7_fault, lw_at 742 (by decide +kernel)⟩
theorem co_X7_fits : Cond.code yX7_fits cX7_fits 3 (some .boolean) ∈ lw_tbl := lw_at 866 (by decide +kernel)
theorem sm_X7_fits : dp_Sm yX7_fits cX7_fits 3 (some .boolean) 2 := ⟨co_X7_fits, (lw_at 9 (by decide +kernel)), by decide +kernel, by decide +kernel, by decide +kernel⟩
theorem in_X7_fits : Cond.instanceMethod yX7_fits ∈ lw_tbl := lw_at 865 (by decide +kernel)
theorem vm_X7_fits : dp_Vm yX7_fits RX7 cX7_fits 3 (some .boolean) 2 := ⟨co_X7_fits, sm_X7_fits.2.1, sm_X7_fits.2.2, in_X7_fits, lw_pr 41 (by decide +kernel)⟩
theorem co_X7_fitting : Cond.code yX7_fitting cX7_fitting 4 (some .int) ∈ lw_tbl := lw_at 862 (by decide +kernel)
theorem sm_X7_fitting : dp_Sm yX7_fitting cX7_fitting 4 (some .int) 1 := ⟨co_X7_fitting, (lw_at 9 (by decide +kernel)), by decide +kernel, by decide +kernel, by decide +kernel⟩
theorem in_X7_fitting : Cond.instanceMethod yX7_fitting ∈ lw_tbl := lw_at 861 (by decide +kernel)
theorem vm_X7_fitting : dp_Vm yX7_fitting RX7 cX7_fitting 4 (some .int) 1 := ⟨co_X7_fitting, sm_X7_fitting.2.1, sm_X7_fitting.2.2, in_X7_fitting, lw_pr 40 (by decide +kernel)⟩
theorem co_X7_goAlong : Cond.code yX7_goAlong cX7_goAlong 2 (some .int) ∈ lw_tbl := lw_at 747 (by decide +kernel)
theorem sm_X7_goAlong : dp_Sm yX7_goAlong cX7_goAlong 2 (some .int) 0 := ⟨co_X7_goAlong, (lw_at 9 (by decide +kernel)), by decide +kernel, by decide +kernel, by decide +kernel⟩
theorem in_X7_goAlong : Cond.instanceMethod yX7_goAlong ∈ lw_tbl := lw_at 746 (by decide +kernel)
theorem vm_X7_goAlong : dp_Vm yX7_goAlong RX7 cX7_goAlong 2 (some .int) 0 := ⟨co_X7_goAlong, sm_X7_goAlong.2.1, sm_X7_goAlong.2.2, in_X7_goAlong, lw_pr 19 (by decide +kernel)⟩
theorem co_X7_hang : Cond.code yX7_hang cX7_hang 2 (some .int) ∈ lw_tbl := lw_at 902 (by decide +kernel)
theorem sm_X7_hang : dp_Sm yX7_hang cX7_hang 2 (some .int) 0 := ⟨co_X7_hang, (lw_at 9 (by decide +kernel)), by decide +kernel, by decide +kernel, by decide +kernel⟩
theorem in_X7_hang : Cond.instanceMethod yX7_hang ∈ lw_tbl := lw_at 900 (by decide +kernel)
theorem vm_X7_hang : dp_Vm yX7_hang RX7 cX7_hang 2 (some .int) 0 := ⟨co_X7_hang, sm_X7_hang.2.1, sm_X7_hang.2.2, in_X7_hang, lw_at 901 (by decide +kernel)⟩
theorem co_X7_helps : Cond.code yX7_helps cX7_helps 4 (some .int) ∈ lw_tbl := lw_at 914 (by decide +kernel)
theorem sm_X7_helps : dp_Sm yX7_helps cX7_helps 4 (some .int) 1 := ⟨co_X7_helps, (lw_at 9 (by decide +kernel)), by decide +kernel, by decide +kernel, by decide +kernel⟩
theorem in_X7_helps : Cond.instanceMethod yX7_helps ∈ lw_tbl := lw_at 913 (by decide +kernel)
theorem vm_X7_helps : dp_Vm yX7_helps RX7 cX7_helps 4 (some .int) 1 := ⟨co_X7_helps, sm_X7_helps.2.1, sm_X7_helps.2.2, in_X7_helps, lw_pr 49 (by decide +kernel)⟩
theorem co_X7_howMany : Cond.code yX7_howMany cX7_howMany 2 (some .int) ∈ lw_tbl := lw_at 962 (by decide +kernel)
theorem sm_X7_howMany : dp_Sm yX7_howMany cX7_howMany 2 (some .int) 1 := ⟨co_X7_howMany, (lw_at 9 (by decide +kernel)), by decide +kernel, by decide +kernel, by decide +kernel⟩
theorem in_X7_howMany : Cond.instanceMethod yX7_howMany ∈ lw_tbl := lw_at 961 (by decide +kernel)
theorem vm_X7_howMany : dp_Vm yX7_howMany RX7 cX7_howMany 2 (some .int) 1 := ⟨co_X7_howMany, sm_X7_howMany.2.1, sm_X7_howMany.2.2, in_X7_howMany, lw_pr 57 (by decide +kernel)⟩
theorem co_X7_init : Cond.code yX7_init cX7_init 1 none ∈ lw_tbl := lw_at 626 (by decide +kernel)
theorem sm_X7_init : dp_Sm yX7_init cX7_init 1 none 0 := ⟨co_X7_init, (lw_at 9 (by decide +kernel)), by decide +kernel, by decide +kernel, by decide +kernel⟩
theorem in_X7_init : Cond.instanceMethod yX7_init ∈ lw_tbl := lw_at 625 (by decide +kernel)
theorem co_X7_isClash : Cond.code yX7_isClash cX7_isClash 5 (some .boolean) ∈ lw_tbl := lw_at 842 (by decide +kernel)
theorem sm_X7_isClash : dp_Sm yX7_isClash cX7_isClash 5 (some .boolean) 2 := ⟨co_X7_isClash, (lw_at 9 (by decide +kernel)), by decide +kernel, by decide +kernel, by decide +kernel⟩
theorem in_X7_isClash : Cond.instanceMethod yX7_isClash ∈ lw_tbl := lw_at 841 (by decide +kernel)
theorem vm_X7_isClash : dp_Vm yX7_isClash RX7 cX7_isClash 5 (some .boolean) 2 := ⟨co_X7_isClash, sm_X7_isClash.2.1, sm_X7_isClash.2.2, in_X7_isClash, lw_pr 36 (by decide +kernel)⟩
theorem co_X7_isPattern : Cond.code yX7_isPattern cX7_isPattern 2 (some .boolean) ∈ lw_tbl := lw_at 791 (by decide +kernel)
theorem sm_X7_isPattern : dp_Sm yX7_isPattern cX7_isPattern 2 (some .boolean) 1 := ⟨co_X7_isPattern, (lw_at 9 (by decide +kernel)), by decide +kernel, by decide +kernel, by decide +kernel⟩
theorem in_X7_isPattern : Cond.instanceMethod yX7_isPattern ∈ lw_tbl := lw_at 790 (by decide +kernel)
theorem vm_X7_isPattern : dp_Vm yX7_isPattern RX7 cX7_isPattern 2 (some .boolean) 1 := ⟨co_X7_isPattern, sm_X7_isPattern.2.1, sm_X7_isPattern.2.2, in_X7_isPattern, lw_pr 28 (by decide +kernel)⟩
theorem co_X7_isRow : Cond.code yX7_isRow cX7_isRow 3 (some .boolean) ∈ lw_tbl := lw_at 854 (by decide +kernel)
theorem sm_X7_isRow : dp_Sm yX7_isRow cX7_isRow 3 (some .boolean) 0 := ⟨co_X7_isRow, (lw_at 9 (by decide +kernel)), by decide +kernel, by decide +kernel, by decide +kernel⟩
theorem in_X7_isRow : Cond.instanceMethod yX7_isRow ∈ lw_tbl := lw_at 853 (by decide +kernel)
theorem vm_X7_isRow : dp_Vm yX7_isRow RX7 cX7_isRow 3 (some .boolean) 0 := ⟨co_X7_isRow, sm_X7_isRow.2.1, sm_X7_isRow.2.2, in_X7_isRow, lw_pr 38 (by decide +kernel)⟩
theorem co_X7_isSureBy : Cond.code yX7_isSureBy cX7_isSureBy 6 (some .boolean) ∈ lw_tbl := lw_at 950 (by decide +kernel)
theorem sm_X7_isSureBy : dp_Sm yX7_isSureBy cX7_isSureBy 6 (some .boolean) 1 := ⟨co_X7_isSureBy, (lw_at 9 (by decide +kernel)), by decide +kernel, by decide +kernel, by decide +kernel⟩
theorem in_X7_isSureBy : Cond.instanceMethod yX7_isSureBy ∈ lw_tbl := lw_at 949 (by decide +kernel)
theorem vm_X7_isSureBy : dp_Vm yX7_isSureBy RX7 cX7_isSureBy 6 (some .boolean) 1 := ⟨co_X7_isSureBy, sm_X7_isSureBy.2.1, sm_X7_isSureBy.2.2, in_X7_isSureBy, lw_pr 55 (by decide +kernel)⟩
theorem co_X7_keepPattern : Cond.code yX7_keepPattern cX7_keepPattern 3 none ∈ lw_tbl := lw_at 783 (by decide +kernel)
theorem sm_X7_keepPattern : dp_Sm yX7_keepPattern cX7_keepPattern 3 none 1 := ⟨co_X7_keepPattern, (lw_at 9 (by decide +kernel)), by decide +kernel, by decide +kernel, by decide +kernel⟩
theorem in_X7_keepPattern : Cond.instanceMethod yX7_keepPattern ∈ lw_tbl := lw_at 782 (by decide +kernel)
theorem vm_X7_keepPattern : dp_Vm yX7_keepPattern RX7 cX7_keepPattern 3 none 1 := ⟨co_X7_keepPattern, sm_X7_keepPattern.2.1, sm_X7_keepPattern.2.2, in_X7_keepPattern, lw_pr 27 (by decide +kernel)⟩
theorem co_X7_layPressed : Cond.code yX7_layPressed cX7_layPressed 2 none ∈ lw_tbl := lw_at 910 (by decide +kernel)
theorem sm_X7_layPressed : dp_Sm yX7_layPressed cX7_layPressed 2 none 0 := ⟨co_X7_layPressed, (lw_at 9 (by decide +kernel)), by decide +kernel, by decide +kernel, by decide +kernel⟩
theorem in_X7_layPressed : Cond.instanceMethod yX7_layPressed ∈ lw_tbl := lw_at 909 (by decide +kernel)
theorem vm_X7_layPressed : dp_Vm yX7_layPressed RX7 cX7_layPressed 2 none 0 := ⟨co_X7_layPressed, sm_X7_layPressed.2.1, sm_X7_layPressed.2.2, in_X7_layPressed, lw_pr 48 (by decide +kernel)⟩
theorem co_X7_leading : Cond.code yX7_leading cX7_leading 4 (some .int) ∈ lw_tbl := lw_at 878 (by decide +kernel)
theorem sm_X7_leading : dp_Sm yX7_leading cX7_leading 4 (some .int) 1 := ⟨co_X7_leading, (lw_at 9 (by decide +kernel)), by decide +kernel, by decide +kernel, by decide +kernel⟩
theorem in_X7_leading : Cond.instanceMethod yX7_leading ∈ lw_tbl := lw_at 877 (by decide +kernel)
theorem vm_X7_leading : dp_Vm yX7_leading RX7 cX7_leading 4 (some .int) 1 := ⟨co_X7_leading, sm_X7_leading.2.1, sm_X7_leading.2.2, in_X7_leading, lw_pr 44 (by decide +kernel)⟩
theorem co_X7_leads : Cond.code yX7_leads cX7_leads 3 (some .boolean) ∈ lw_tbl := lw_at 882 (by decide +kernel)
theorem sm_X7_leads : dp_Sm yX7_leads cX7_leads 3 (some .boolean) 2 := ⟨co_X7_leads, (lw_at 9 (by decide +kernel)), by decide +kernel, by decide +kernel, by decide +kernel⟩
theorem in_X7_leads : Cond.instanceMethod yX7_leads ∈ lw_tbl := lw_at 881 (by decide +kernel)
theorem vm_X7_leads : dp_Vm yX7_leads RX7 cX7_leads 3 (some .boolean) 2 := ⟨co_X7_leads, sm_X7_leads.2.1, sm_X7_leads.2.2, in_X7_leads, lw_pr 45 (by decide +kernel)⟩
theorem co_X7_lets : Cond.code yX7_lets cX7_lets 3 (some .int) ∈ lw_tbl := lw_at 811 (by decide +kernel)
theorem sm_X7_lets : dp_Sm yX7_lets cX7_lets 3 (some .int) 2 := ⟨co_X7_lets, (lw_at 9 (by decide +kernel)), by decide +kernel, by decide +kernel, by decide +kernel⟩
theorem in_X7_lets : Cond.instanceMethod yX7_lets ∈ lw_tbl := lw_at 809 (by decide +kernel)
theorem vm_X7_lets : dp_Vm yX7_lets RX7 cX7_lets 3 (some .int) 2 := ⟨co_X7_lets, sm_X7_lets.2.1, sm_X7_lets.2.2, in_X7_lets, lw_at 810 (by decide +kernel)⟩
theorem co_X7_letsNext : Cond.code yX7_letsNext cX7_letsNext 2 (some .boolean) ∈ lw_tbl := lw_at 759 (by decide +kernel)
theorem sm_X7_letsNext : dp_Sm yX7_letsNext cX7_letsNext 2 (some .boolean) 1 := ⟨co_X7_letsNext, (lw_at 9 (by decide +kernel)), by decide +kernel, by decide +kernel, by decide +kernel⟩
theorem in_X7_letsNext : Cond.instanceMethod yX7_letsNext ∈ lw_tbl := lw_at 758 (by decide +kernel)
theorem vm_X7_letsNext : dp_Vm yX7_letsNext RX7 cX7_letsNext 2 (some .boolean) 1 := ⟨co_X7_letsNext, sm_X7_letsNext.2.1, sm_X7_letsNext.2.2, in_X7_letsNext, lw_pr 22 (by decide +kernel)⟩
theorem co_X7_letsOf : Cond.code yX7_letsOf cX7_letsOf 3 (some .int) ∈ lw_tbl := lw_at 815 (by decide +kernel)
theorem sm_X7_letsOf : dp_Sm yX7_letsOf cX7_letsOf 3 (some .int) 2 := ⟨co_X7_letsOf, (lw_at 9 (by decide +kernel)), by decide +kernel, by decide +kernel, by decide +kernel⟩
theorem in_X7_letsOf : Cond.instanceMethod yX7_letsOf ∈ lw_tbl := lw_at 814 (by decide +kernel)
theorem vm_X7_letsOf : dp_Vm yX7_letsOf RX7 cX7_letsOf 3 (some .int) 2 := ⟨co_X7_letsOf, sm_X7_letsOf.2.1, sm_X7_letsOf.2.2, in_X7_letsOf, lw_pr 32 (by decide +kernel)⟩
theorem co_X7_letter : Cond.code yX7_letter cX7_letter 2 (some .int) ∈ lw_tbl := lw_at 732 (by decide +kernel)
theorem sm_X7_letter : dp_Sm yX7_letter cX7_letter 2 (some .int) 1 := ⟨co_X7_letter, (lw_at 9 (by decide +kernel)), by decide +kernel, by decide +kernel, by decide +kernel⟩
theorem in_X7_letter : Cond.instanceMethod yX7_letter ∈ lw_tbl := lw_at 730 (by decide +kernel)
theorem vm_X7_letter : dp_Vm yX7_letter RX7 cX7_letter 2 (some .int) 1 := ⟨co_X7_letter, sm_X7_letter.2.1, sm_X7_letter.2.2, in_X7_letter, lw_at 731 (by decide +kernel)⟩
theorem co_X7_lift : Cond.code yX7_lift cX7_lift 1 (some .int) ∈ lw_tbl := lw_at 898 (by decide +kernel)
theorem sm_X7_lift : dp_Sm yX7_lift cX7_lift 1 (some .int) 0 := ⟨co_X7_lift, (lw_at 9 (by decide +kernel)), by decide +kernel, by decide +kernel, by decide +kernel⟩
theorem in_X7_lift : Cond.instanceMethod yX7_lift ∈ lw_tbl := lw_at 896 (by decide +kernel)
theorem vm_X7_lift : dp_Vm yX7_lift RX7 cX7_lift 1 (some .int) 0 := ⟨co_X7_lift, sm_X7_lift.2.1, sm_X7_lift.2.2, in_X7_lift, lw_at 897 (by decide +kernel)⟩
theorem co_X7_line : Cond.code yX7_line cX7_line 2 (some .int) ∈ lw_tbl := lw_at 930 (by decide +kernel)
theorem sm_X7_line : dp_Sm yX7_line cX7_line 2 (some .int) 1 := ⟨co_X7_line, (lw_at 9 (by decide +kernel)), by decide +kernel, by decide +kernel, by decide +kernel⟩
theorem in_X7_line : Cond.instanceMethod yX7_line ∈ lw_tbl := lw_at 928 (by decide +kernel)
theorem vm_X7_line : dp_Vm yX7_line RX7 cX7_line 2 (some .int) 1 := ⟨co_X7_line, sm_X7_line.2.1, sm_X7_line.2.2, in_X7_line, lw_at 929 (by decide +kernel)⟩
theorem co_X7_lineNow : Cond.code yX7_lineNow cX7_lineNow 2 (some .int) ∈ lw_tbl := lw_at 934 (by decide +kernel)
theorem sm_X7_lineNow : dp_Sm yX7_lineNow cX7_lineNow 2 (some .int) 1 := ⟨co_X7_lineNow, (lw_at 9 (by decide +kernel)), by decide +kernel, by decide +kernel, by decide +kernel⟩
theorem in_X7_lineNow : Cond.instanceMethod yX7_lineNow ∈ lw_tbl := lw_at 933 (by decide +kernel)
theorem vm_X7_lineNow : dp_Vm yX7_lineNow RX7 cX7_lineNow 2 (some .int) 1 := ⟨co_X7_lineNow, sm_X7_lineNow.2.1, sm_X7_lineNow.2.2, in_X7_lineNow, lw_pr 51 (by decide +kernel)⟩
theorem co_X7_mix : Cond.code yX7_mix cX7_mix 3 none ∈ lw_tbl := lw_at 975 (by decide +kernel)
theorem sm_X7_mix : dp_Sm yX7_mix cX7_mix 3 none 1 := ⟨co_X7_mix, (lw_at 9 (by decide +kernel)), by decide +kernel, by decide +kernel, by decide +kernel⟩
theorem in_X7_mix : Cond.instanceMethod yX7_mix ∈ lw_tbl := lw_at 974 (by decide +kernel)
theorem vm_X7_mix : dp_Vm yX7_mix RX7 cX7_mix 3 none 1 := ⟨co_X7_mix, sm_X7_mix.2.1, sm_X7_mix.2.2, in_X7_mix, lw_pr 59 (by decide +kernel)⟩
theorem co_X7_narrower : Cond.code yX7_narrower cX7_narrower 4 (some .int) ∈ lw_tbl := lw_at 819 (by decide +kernel)
theorem sm_X7_narrower : dp_Sm yX7_narrower cX7_narrower 4 (some .int) 2 := ⟨co_X7_narrower, (lw_at 9 (by decide +kernel)), by decide +kernel, by decide +kernel, by decide +kernel⟩
theorem in_X7_narrower : Cond.instanceMethod yX7_narrower ∈ lw_tbl := lw_at 817 (by decide +kernel)
theorem vm_X7_narrower : dp_Vm yX7_narrower RX7 cX7_narrower 4 (some .int) 2 := ⟨co_X7_narrower, sm_X7_narrower.2.1, sm_X7_narrower.2.2, in_X7_narrower, lw_at 818 (by decide +kernel)⟩
theorem co_X7_ones : Cond.code yX7_ones cX7_ones 3 (some .int) ∈ lw_tbl := lw_at 830 (by decide +kernel)
theorem sm_X7_ones : dp_Sm yX7_ones cX7_ones 3 (some .int) 1 := ⟨co_X7_ones, (lw_at 9 (by decide +kernel)), by decide +kernel, by decide +kernel, by decide +kernel⟩
theorem st_X7_ones : Cond.static yX7_ones ∈ lw_tbl := lw_at 829 (by decide +kernel)
theorem co_X7_pass : Cond.code yX7_pass cX7_pass 2 (some .int) ∈ lw_tbl := lw_at 922 (by decide +kernel)
theorem sm_X7_pass : dp_Sm yX7_pass cX7_pass 2 (some .int) 1 := ⟨co_X7_pass, (lw_at 9 (by decide +kernel)), by decide +kernel, by decide +kernel, by decide +kernel⟩
theorem in_X7_pass : Cond.instanceMethod yX7_pass ∈ lw_tbl := lw_at 920 (by decide +kernel)
theorem vm_X7_pass : dp_Vm yX7_pass RX7 cX7_pass 2 (some .int) 1 := ⟨co_X7_pass, sm_X7_pass.2.1, sm_X7_pass.2.2, in_X7_pass, lw_at 921 (by decide +kernel)⟩
theorem co_X7_pattern : Cond.code yX7_pattern cX7_pattern 3 (some .int) ∈ lw_tbl := lw_at 799 (by decide +kernel)
theorem sm_X7_pattern : dp_Sm yX7_pattern cX7_pattern 3 (some .int) 2 := ⟨co_X7_pattern, (lw_at 9 (by decide +kernel)), by decide +kernel, by decide +kernel, by decide +kernel⟩
theorem in_X7_pattern : Cond.instanceMethod yX7_pattern ∈ lw_tbl := lw_at 797 (by decide +kernel)
theorem vm_X7_pattern : dp_Vm yX7_pattern RX7 cX7_pattern 3 (some .int) 2 := ⟨co_X7_pattern, sm_X7_pattern.2.1, sm_X7_pattern.2.2, in_X7_pattern, lw_at 798 (by decide +kernel)⟩
theorem co_X7_patternNow : Cond.code yX7_patternNow cX7_patternNow 3 (some .int) ∈ lw_tbl := lw_at 803 (by decide +kernel)
theorem sm_X7_patternNow : dp_Sm yX7_patternNow cX7_patternNow 3 (some .int) 2 := ⟨co_X7_patternNow, (lw_at 9 (by decide +kernel)), by decide +kernel, by decide +kernel, by decide +kernel⟩
theorem in_X7_patternNow : Cond.instanceMethod yX7_patternNow ∈ lw_tbl := lw_at 802 (by decide +kernel)
theorem vm_X7_patternNow : dp_Vm yX7_patternNow RX7 cX7_patternNow 3 (some .int) 2 := ⟨co_X7_patternNow, sm_X7_patternNow.2.1, sm_X7_patternNow.2.2, in_X7_patternNow, lw_pr 30 (by decide +kernel)⟩
theorem co_X7_press : Cond.code yX7_press cX7_press 3 (some .int) ∈ lw_tbl := lw_at 906 (by decide +kernel)
theorem sm_X7_press : dp_Sm yX7_press cX7_press 3 (some .int) 1 := ⟨co_X7_press, (lw_at 9 (by decide +kernel)), by decide +kernel, by decide +kernel, by decide +kernel⟩
theorem in_X7_press : Cond.instanceMethod yX7_press ∈ lw_tbl := lw_at 904 (by decide +kernel)
theorem vm_X7_press : dp_Vm yX7_press RX7 cX7_press 3 (some .int) 1 := ⟨co_X7_press, sm_X7_press.2.1, sm_X7_press.2.2, in_X7_press, lw_at 905 (by decide +kernel)⟩
theorem co_X7_read : Cond.code yX7_read cX7_read 3 (some .int) ∈ lw_tbl := lw_at 886 (by decide +kernel)
theorem sm_X7_read : dp_Sm yX7_read cX7_read 3 (some .int) 0 := ⟨co_X7_read, (lw_at 9 (by decide +kernel)), by decide +kernel, by decide +kernel, by decide +kernel⟩
theorem in_X7_read : Cond.instanceMethod yX7_read ∈ lw_tbl := lw_at 885 (by decide +kernel)
theorem vm_X7_read : dp_Vm yX7_read RX7 cX7_read 3 (some .int) 0 := ⟨co_X7_read, sm_X7_read.2.1, sm_X7_read.2.2, in_X7_read, lw_pr 46 (by decide +kernel)⟩
theorem co_X7_rewrite : Cond.code yX7_rewrite cX7_rewrite 7 none ∈ lw_tbl := lw_at 890 (by decide +kernel)
theorem sm_X7_rewrite : dp_Sm yX7_rewrite cX7_rewrite 7 none 1 := ⟨co_X7_rewrite, (lw_at 9 (by decide +kernel)), by decide +kernel, by decide +kernel, by decide +kernel⟩
theorem in_X7_rewrite : Cond.instanceMethod yX7_rewrite ∈ lw_tbl := lw_at 889 (by decide +kernel)
theorem vm_X7_rewrite : dp_Vm yX7_rewrite RX7 cX7_rewrite 7 none 1 := ⟨co_X7_rewrite, sm_X7_rewrite.2.1, sm_X7_rewrite.2.2, in_X7_rewrite, lw_pr 47 (by decide +kernel)⟩
theorem co_X7_row : Cond.code yX7_row cX7_row 2 (some .int) ∈ lw_tbl := lw_at 850 (by decide +kernel)
theorem sm_X7_row : dp_Sm yX7_row cX7_row 2 (some .int) 1 := ⟨co_X7_row, (lw_at 9 (by decide +kernel)), by decide +kernel, by decide +kernel, by decide +kernel⟩
theorem in_X7_row : Cond.instanceMethod yX7_row ∈ lw_tbl := lw_at 848 (by decide +kernel)
theorem vm_X7_row : dp_Vm yX7_row RX7 cX7_row 2 (some .int) 1 := ⟨co_X7_row, sm_X7_row.2.1, sm_X7_row.2.2, in_X7_row, lw_at 849 (by decide +kernel)⟩
theorem co_X7_rowNow : Cond.code yX7_rowNow cX7_rowNow 4 (some .int) ∈ lw_tbl := lw_at 858 (by decide +kernel)
theorem sm_X7_rowNow : dp_Sm yX7_rowNow cX7_rowNow 4 (some .int) 1 := ⟨co_X7_rowNow, (lw_at 9 (by decide +kernel)), by decide +kernel, by decide +kernel, by decide +kernel⟩
theorem in_X7_rowNow : Cond.instanceMethod yX7_rowNow ∈ lw_tbl := lw_at 857 (by decide +kernel)
theorem vm_X7_rowNow : dp_Vm yX7_rowNow RX7 cX7_rowNow 4 (some .int) 1 := ⟨co_X7_rowNow, sm_X7_rowNow.2.1, sm_X7_rowNow.2.2, in_X7_rowNow, lw_pr 39 (by decide +kernel)⟩
theorem co_X7_stage : Cond.code yX7_stage cX7_stage 4 (some .int) ∈ lw_tbl := lw_at 894 (by decide +kernel)
theorem sm_X7_stage : dp_Sm yX7_stage cX7_stage 4 (some .int) 2 := ⟨co_X7_stage, (lw_at 9 (by decide +kernel)), by decide +kernel, by decide +kernel, by decide +kernel⟩
theorem in_X7_stage : Cond.instanceMethod yX7_stage ∈ lw_tbl := lw_at 892 (by decide +kernel)
theorem vm_X7_stage : dp_Vm yX7_stage RX7 cX7_stage 4 (some .int) 2 := ⟨co_X7_stage, sm_X7_stage.2.1, sm_X7_stage.2.2, in_X7_stage, lw_at 893 (by decide +kernel)⟩
theorem co_X7_stageNow : Cond.code yX7_stageNow cX7_stageNow 1 (some .int) ∈ lw_tbl := lw_at 938 (by decide +kernel)
theorem sm_X7_stageNow : dp_Sm yX7_stageNow cX7_stageNow 1 (some .int) 0 := ⟨co_X7_stageNow, (lw_at 9 (by decide +kernel)), by decide +kernel, by decide +kernel, by decide +kernel⟩
theorem in_X7_stageNow : Cond.instanceMethod yX7_stageNow ∈ lw_tbl := lw_at 937 (by decide +kernel)
theorem vm_X7_stageNow : dp_Vm yX7_stageNow RX7 cX7_stageNow 1 (some .int) 0 := ⟨co_X7_stageNow, sm_X7_stageNow.2.1, sm_X7_stageNow.2.2, in_X7_stageNow, lw_pr 52 (by decide +kernel)⟩
theorem co_X7_sureNow : Cond.code yX7_sureNow cX7_sureNow 3 (some .int) ∈ lw_tbl := lw_at 946 (by decide +kernel)
theorem sm_X7_sureNow : dp_Sm yX7_sureNow cX7_sureNow 3 (some .int) 0 := ⟨co_X7_sureNow, (lw_at 9 (by decide +kernel)), by decide +kernel, by decide +kernel, by decide +kernel⟩
theorem in_X7_sureNow : Cond.instanceMethod yX7_sureNow ∈ lw_tbl := lw_at 945 (by decide +kernel)
theorem vm_X7_sureNow : dp_Vm yX7_sureNow RX7 cX7_sureNow 3 (some .int) 0 := ⟨co_X7_sureNow, sm_X7_sureNow.2.1, sm_X7_sureNow.2.2, in_X7_sureNow, lw_pr 54 (by decide +kernel)⟩
theorem co_X7_takes : Cond.code yX7_takes cX7_takes 2 (some .boolean) ∈ lw_tbl := lw_at 751 (by decide +kernel)
theorem sm_X7_takes : dp_Sm yX7_takes cX7_takes 2 (some .boolean) 1 := ⟨co_X7_takes, (lw_at 9 (by decide +kernel)), by decide +kernel, by decide +kernel, by decide +kernel⟩
theorem in_X7_takes : Cond.instanceMethod yX7_takes ∈ lw_tbl := lw_at 750 (by decide +kernel)
theorem vm_X7_takes : dp_Vm yX7_takes RX7 cX7_takes 2 (some .boolean) 1 := ⟨co_X7_takes, sm_X7_takes.2.1, sm_X7_takes.2.2, in_X7_takes, lw_pr 20 (by decide +kernel)⟩
theorem co_X7_takesAhead : Cond.code yX7_takesAhead cX7_takesAhead 3 (some .boolean) ∈ lw_tbl := lw_at 775 (by decide +kernel)
theorem sm_X7_takesAhead : dp_Sm yX7_takesAhead cX7_takesAhead 3 (some .boolean) 1 := ⟨co_X7_takesAhead, (lw_at 9 (by decide +kernel)), by decide +kernel, by decide +kernel, by decide +kernel⟩
theorem in_X7_takesAhead : Cond.instanceMethod yX7_takesAhead ∈ lw_tbl := lw_at 774 (by decide +kernel)
theorem vm_X7_takesAhead : dp_Vm yX7_takesAhead RX7 cX7_takesAhead 3 (some .boolean) 1 := ⟨co_X7_takesAhead, sm_X7_takesAhead.2.1, sm_X7_takesAhead.2.2, in_X7_takesAhead, lw_pr 26 (by decide +kernel)⟩
theorem co_X7_takesDrop : Cond.code yX7_takesDrop cX7_takesDrop 2 (some .boolean) ∈ lw_tbl := lw_at 771 (by decide +kernel)
theorem sm_X7_takesDrop : dp_Sm yX7_takesDrop cX7_takesDrop 2 (some .boolean) 1 := ⟨co_X7_takesDrop, (lw_at 9 (by decide +kernel)), by decide +kernel, by decide +kernel, by decide +kernel⟩
theorem in_X7_takesDrop : Cond.instanceMethod yX7_takesDrop ∈ lw_tbl := lw_at 770 (by decide +kernel)
theorem vm_X7_takesDrop : dp_Vm yX7_takesDrop RX7 cX7_takesDrop 2 (some .boolean) 1 := ⟨co_X7_takesDrop, sm_X7_takesDrop.2.1, sm_X7_takesDrop.2.2, in_X7_takesDrop, lw_pr 25 (by decide +kernel)⟩
theorem co_X7_takesPlace : Cond.code yX7_takesPlace cX7_takesPlace 3 (some .boolean) ∈ lw_tbl := lw_at 755 (by decide +kernel)
theorem sm_X7_takesPlace : dp_Sm yX7_takesPlace cX7_takesPlace 3 (some .boolean) 1 := ⟨co_X7_takesPlace, (lw_at 9 (by decide +kernel)), by decide +kernel, by decide +kernel, by decide +kernel⟩
theorem in_X7_takesPlace : Cond.instanceMethod yX7_takesPlace ∈ lw_tbl := lw_at 754 (by decide +kernel)
theorem vm_X7_takesPlace : dp_Vm yX7_takesPlace RX7 cX7_takesPlace 3 (some .boolean) 1 := ⟨co_X7_takesPlace, sm_X7_takesPlace.2.1, sm_X7_takesPlace.2.2, in_X7_takesPlace, lw_pr 21 (by decide +kernel)⟩
theorem co_X7_takesSpan : Cond.code yX7_takesSpan cX7_takesSpan 4 (some .boolean) ∈ lw_tbl := lw_at 763 (by decide +kernel)
theorem sm_X7_takesSpan : dp_Sm yX7_takesSpan cX7_takesSpan 4 (some .boolean) 1 := ⟨co_X7_takesSpan, (lw_at 9 (by decide +kernel)), by decide +kernel, by decide +kernel, by decide +kernel⟩
theorem in_X7_takesSpan : Cond.instanceMethod yX7_takesSpan ∈ lw_tbl := lw_at 762 (by decide +kernel)
theorem vm_X7_takesSpan : dp_Vm yX7_takesSpan RX7 cX7_takesSpan 4 (some .boolean) 1 := ⟨co_X7_takesSpan, sm_X7_takesSpan.2.1, sm_X7_takesSpan.2.2, in_X7_takesSpan, lw_pr 23 (by decide +kernel)⟩
theorem co_X7_takesWay : Cond.code yX7_takesWay cX7_takesWay 2 (some .boolean) ∈ lw_tbl := lw_at 767 (by decide +kernel)
theorem sm_X7_takesWay : dp_Sm yX7_takesWay cX7_takesWay 2 (some .boolean) 1 := ⟨co_X7_takesWay, (lw_at 9 (by decide +kernel)), by decide +kernel, by decide +kernel, by decide +kernel⟩
theorem in_X7_takesWay : Cond.instanceMethod yX7_takesWay ∈ lw_tbl := lw_at 766 (by decide +kernel)
theorem vm_X7_takesWay : dp_Vm yX7_takesWay RX7 cX7_takesWay 2 (some .boolean) 1 := ⟨co_X7_takesWay, sm_X7_takesWay.2.1, sm_X7_takesWay.2.2, in_X7_takesWay, lw_pr 24 (by decide +kernel)⟩
theorem co_X7_wayNow : Cond.code yX7_wayNow cX7_wayNow 1 (some .int) ∈ lw_tbl := lw_at 954 (by decide +kernel)
theorem sm_X7_wayNow : dp_Sm yX7_wayNow cX7_wayNow 1 (some .int) 0 := ⟨co_X7_wayNow, (lw_at 9 (by decide +kernel)), by decide +kernel, by decide +kernel, by decide +kernel⟩
theorem in_X7_wayNow : Cond.instanceMethod yX7_wayNow ∈ lw_tbl := lw_at 953 (by decide +kernel)
theorem vm_X7_wayNow : dp_Vm yX7_wayNow RX7 cX7_wayNow 1 (some .int) 0 := ⟨co_X7_wayNow, sm_X7_wayNow.2.1, sm_X7_wayNow.2.2, in_X7_wayNow, lw_pr 56 (by decide +kernel)⟩
theorem co_X7_wide : Cond.code yX7_wide cX7_wide 3 (some .int) ∈ lw_tbl := lw_at 827 (by decide +kernel)
theorem sm_X7_wide : dp_Sm yX7_wide cX7_wide 3 (some .int) 2 := ⟨co_X7_wide, (lw_at 9 (by decide +kernel)), by decide +kernel, by decide +kernel, by decide +kernel⟩
theorem in_X7_wide : Cond.instanceMethod yX7_wide ∈ lw_tbl := lw_at 826 (by decide +kernel)
theorem vm_X7_wide : dp_Vm yX7_wide RX7 cX7_wide 3 (some .int) 2 := ⟨co_X7_wide, sm_X7_wide.2.1, sm_X7_wide.2.2, in_X7_wide, lw_pr 34 (by decide +kernel)⟩
theorem co_X7_winner : Cond.code yX7_winner cX7_winner 5 (some .int) ∈ lw_tbl := lw_at 874 (by decide +kernel)
theorem sm_X7_winner : dp_Sm yX7_winner cX7_winner 5 (some .int) 1 := ⟨co_X7_winner, (lw_at 9 (by decide +kernel)), by decide +kernel, by decide +kernel, by decide +kernel⟩
theorem in_X7_winner : Cond.instanceMethod yX7_winner ∈ lw_tbl := lw_at 873 (by decide +kernel)
theorem vm_X7_winner : dp_Vm yX7_winner RX7 cX7_winner 5 (some .int) 1 := ⟨co_X7_winner, sm_X7_winner.2.1, sm_X7_winner.2.2, in_X7_winner, lw_pr 43 (by decide +kernel)⟩
theorem co_X7_winsNow : Cond.code yX7_winsNow cX7_winsNow 1 (some .int) ∈ lw_tbl := lw_at 942 (by decide +kernel)
theorem sm_X7_winsNow : dp_Sm yX7_winsNow cX7_winsNow 1 (some .int) 0 := ⟨co_X7_winsNow, (lw_at 9 (by decide +kernel)), by decide +kernel, by decide +kernel, by decide +kernel⟩
theorem in_X7_winsNow : Cond.instanceMethod yX7_winsNow ∈ lw_tbl := lw_at 941 (by decide +kernel)
theorem vm_X7_winsNow : dp_Vm yX7_winsNow RX7 cX7_winsNow 1 (some .int) 0 := ⟨co_X7_winsNow, sm_X7_winsNow.2.1, sm_X7_winsNow.2.2, in_X7_winsNow, lw_pr 53 (by decide +kernel)⟩
theorem co_X7_within : Cond.code yX7_within cX7_within 3 (some .boolean) ∈ lw_tbl := lw_at 735 (by decide +kernel)
theorem sm_X7_within : dp_Sm yX7_within cX7_within 3 (some .boolean) 3 := ⟨co_X7_within, (lw_at 9 (by decide +kernel)), by decide +kernel, by decide +kernel, by decide +kernel⟩
theorem st_X7_within : Cond.static yX7_within ∈ lw_tbl := lw_at 734 (by decide +kernel)
end
section
def dp_b2 {α β : Type} (o : Option (dp_H × α)) (f : dp_H → α → Option β) : Option β := o.bind (fun q => f q.1 q.2)
theorem dp_ob2 {α β : Type} {o : Option (dp_H × α)} {f : dp_H → α → Option β} {b : β} (h : dp_b2 o f = some b) : ∃ h' v, o = some (h', v) ∧ f h' v = some b := by
  obtain ⟨⟨x, y⟩, h1, h2⟩ := dp_ob h
  exact ⟨x, y, h1, h2⟩
def dp_nw (h : dp_H) (ci : Nat) (fs : List dp_V) : Option dp_H := some (h ++ [.inl (ci, fs)])
section DPN
variable {p : Program} {l : Launch} {e : Env} {R : Room} {s : State} {m : MethodId} {args : Array Value} {below : List Frame} {meth : Method} {c : Code} {H : Heap} {locs : List Loc} {cells slots : Nat} {Q : State → Prop}
variable {cc : ByteArray} {nL pc : Nat} {ls : Array Slot} {rest : List Value} {D : va_G} {a : dp_A} {B : Nat} {own : String} {h : dp_H}
theorem dp_newc (X : dp_X p s m meth c cc nL own D a B) (hw : dp_w D a B h s.heap H locs) {C : String} {T : u_T} {N ci index : Nat} {ty : Nat → FieldType} (hC : dp_Cl ci C T N ty) (hcl : Cond.classLink own index C ∈ lw_tbl) (hinst : Cond.instantiable C N ∈ lw_tbl) (hini : Cond.initialized C ∈ lw_tbl) {fs : List dp_V} (hfs : ∀ j, j < N → defaultValue (ty j) = vp_V (fs.map (dp_ev B)) j) {h' : dp_H} (hg : dp_nw h ci fs = some h') (hcells : cells + 1 ≤ R.cells) (hslots : slots + N ≤ R.slots) (hdg : decode cc pc = .ok (.new index, 3))
    (kk : ∀ (H1 : Heap), dp_w D a B h' s.heap H1 locs → W p l e R s m args below meth c H1 locs (cells + 1) (slots + N) Q (F0 m (pc + 3) ls (.ref (B + h.length) :: rest))) : W p l e R s m args below meth c H locs cells slots Q (F0 m pc ls rest) := by
  cases hg
  exact dp_new X hw hC hcl hinst hini hfs hcells hslots hdg kk
end DPN
abbrev rm_J6_bitCount_0f7a4 : Room := { frames := 0, cells := 0, slots := 0, locals := 0 }
def m_J6_bitCount_0f7a4 (h : dp_H) (x0 : Int32) : Option Int32 := some ((((((((x0 - (((Int32.toUInt32 x0 >>> (Int32.toUInt32 1 &&& Int32.toUInt32 31)).toInt32) &&& 1431655765)) &&& 858993459) + (((Int32.toUInt32 (x0 - (((Int32.toUInt32 x0 >>> (Int32.toUInt32 1 &&& Int32.toUInt32 31)).toInt32) &&& 1431655765)) >>> (Int32.toUInt32 2 &&& Int32.toUInt32 31)).toInt32) &&& 858993459)) + ((Int32.toUInt32 (((x0 - (((Int32.toUInt32 x0 >>> (Int32.toUInt32 1 &&& Int32.toUInt32 31)).toInt32) &&& 1431655765)) &&& 858993459) + (((Int32.toUInt32 (x0 - (((Int32.toUInt32 x0 >>> (Int32.toUInt32 1 &&& Int32.toUInt32 31)).toInt32) &&& 1431655765)) >>> (Int32.toUInt32 2 &&& Int32.toUInt32 31)).toInt32) &&& 858993459)) >>> (Int32.toUInt32 4 &&& Int32.toUInt32 31)).toInt32)) &&& 252645135) + ((Int32.toUInt32 (((((x0 - (((Int32.toUInt32 x0 >>> (Int32.toUInt32 1 &&& Int32.toUInt32 31)).toInt32) &&& 1431655765)) &&& 858993459) + (((Int32.toUInt32 (x0 - (((Int32.toUInt32 x0 >>> (Int32.toUInt32 1 &&& Int32.toUInt32 31)).toInt32) &&& 1431655765)) >>> (Int32.toUInt32 2 &&& Int32.toUInt32 31)).toInt32) &&& 858993459)) + ((Int32.toUInt32 (((x0 - (((Int32.toUInt32 x0 >>> (Int32.toUInt32 1 &&& Int32.toUInt32 31)).toInt32) &&& 1431655765)) &&& 858993459) + (((Int32.toUInt32 (x0 - (((Int32.toUInt32 x0 >>> (Int32.toUInt32 1 &&& Int32.toUInt32 31)).toInt32) &&& 1431655765)) >>> (Int32.toUInt32 2 &&& Int32.toUInt32 31)).toInt32) &&& 858993459)) >>> (Int32.toUInt32 4 &&& Int32.toUInt32 31)).toInt32)) &&& 252645135) >>> (Int32.toUInt32 8 &&& Int32.toUInt32 31)).toInt32)) + ((Int32.toUInt32 ((((((x0 - (((Int32.toUInt32 x0 >>> (Int32.toUInt32 1 &&& Int32.toUInt32 31)).toInt32) &&& 1431655765)) &&& 858993459) + (((Int32.toUInt32 (x0 - (((Int32.toUInt32 x0 >>> (Int32.toUInt32 1 &&& Int32.toUInt32 31)).toInt32) &&& 1431655765)) >>> (Int32.toUInt32 2 &&& Int32.toUInt32 31)).toInt32) &&& 858993459)) + ((Int32.toUInt32 (((x0 - (((Int32.toUInt32 x0 >>> (Int32.toUInt32 1 &&& Int32.toUInt32 31)).toInt32) &&& 1431655765)) &&& 858993459) + (((Int32.toUInt32 (x0 - (((Int32.toUInt32 x0 >>> (Int32.toUInt32 1 &&& Int32.toUInt32 31)).toInt32) &&& 1431655765)) >>> (Int32.toUInt32 2 &&& Int32.toUInt32 31)).toInt32) &&& 858993459)) >>> (Int32.toUInt32 4 &&& Int32.toUInt32 31)).toInt32)) &&& 252645135) + ((Int32.toUInt32 (((((x0 - (((Int32.toUInt32 x0 >>> (Int32.toUInt32 1 &&& Int32.toUInt32 31)).toInt32) &&& 1431655765)) &&& 858993459) + (((Int32.toUInt32 (x0 - (((Int32.toUInt32 x0 >>> (Int32.toUInt32 1 &&& Int32.toUInt32 31)).toInt32) &&& 1431655765)) >>> (Int32.toUInt32 2 &&& Int32.toUInt32 31)).toInt32) &&& 858993459)) + ((Int32.toUInt32 (((x0 - (((Int32.toUInt32 x0 >>> (Int32.toUInt32 1 &&& Int32.toUInt32 31)).toInt32) &&& 1431655765)) &&& 858993459) + (((Int32.toUInt32 (x0 - (((Int32.toUInt32 x0 >>> (Int32.toUInt32 1 &&& Int32.toUInt32 31)).toInt32) &&& 1431655765)) >>> (Int32.toUInt32 2 &&& Int32.toUInt32 31)).toInt32) &&& 858993459)) >>> (Int32.toUInt32 4 &&& Int32.toUInt32 31)).toInt32)) &&& 252645135) >>> (Int32.toUInt32 8 &&& Int32.toUInt32 31)).toInt32)) >>> (Int32.toUInt32 16 &&& Int32.toUInt32 31)).toInt32)) &&& 63)
abbrev rm_X5_init : Room := { frames := 1, cells := 1, slots := 80, locals := 21 }
def m_X5_init (h : dp_H) (x0 : Nat) (x1 : Int32) : Option dp_H := dp_ck h x0 5 ((dp_na false h (if x1 < 0 then 0 else x1)).bind fun h1 => (dp_p h1 x0 5 0 (.inr (.inr (some (List.length h))))).bind fun h2 => some h2)
abbrev rm_X0_init : Room := { frames := 2, cells := 3, slots := 162, locals := 42 }
def m_X0_init (h : dp_H) (x0 : Nat) : Option dp_H := dp_ck h x0 0 ((dp_nw h 5 bl_X5).bind fun h1 => (m_X5_init h1 (List.length h) 10).bind fun h2 => (dp_p h2 x0 0 0 (.inr (.inr (some (List.length h))))).bind fun h3 => (dp_na false h3 3).bind fun h4 => (dp_si false h4 (List.length h3) 0 15).bind fun h5 => (dp_si false h5 (List.length h3) 1 8).bind fun h6 => (dp_si false h6 (List.length h3) 2 4).bind fun h7 => (dp_p h7 x0 0 1 (.inr (.inr (some (List.length h3))))).bind fun h8 => (dp_p h8 x0 0 2 (.inl 0)).bind fun h9 => (dp_p h9 x0 0 3 (.inl 0)).bind fun h10 => some h10)
abbrev rm_X0_dialled : Room := { frames := 0, cells := 0, slots := 0, locals := 0 }
def m_X0_dialled (h : dp_H) (x0 : Nat) : Option Nat := dp_ck h x0 0 ((dp_gr h x0 0 0).bind fun v1 => some v1)
abbrev rm_X0_state : Room := { frames := 0, cells := 0, slots := 0, locals := 0 }
def m_X0_state (h : dp_H) (x0 : Nat) : Option Int32 := dp_ck h x0 0 ((dp_gi h x0 0 2).bind fun v1 => some v1)
abbrev rm_X0_isUp : Room := { frames := 0, cells := 0, slots := 0, locals := 0 }
def m_X0_isUp (h : dp_H) (x0 : Nat) : Option Int32 := dp_ck h x0 0 ((dp_gi h x0 0 2).bind fun v1 => if v1 = 0 then (some 0) else (some 1))
abbrev rm_X0_isWaiting : Room := { frames := 0, cells := 0, slots := 0, locals := 0 }
def m_X0_isWaiting (h : dp_H) (x0 : Nat) : Option Int32 := dp_ck h x0 0 ((dp_gi h x0 0 2).bind fun v1 => if v1 = 1 then (some 1) else (some 0))
abbrev rm_X0_ended : Room := { frames := 0, cells := 0, slots := 0, locals := 0 }
def m_X0_ended (h : dp_H) (x0 : Nat) : Option Int32 := dp_ck h x0 0 ((dp_gi h x0 0 3).bind fun v1 => some v1)
abbrev rm_X0_ticksLeft : Room := { frames := 0, cells := 0, slots := 0, locals := 0 }
def m_X0_ticksLeft (h : dp_H) (x0 : Nat) : Option Int32 := dp_ck h x0 0 ((dp_gi h x0 0 4).bind fun v1 => some v1)
abbrev rm_X0_timesLifted : Room := { frames := 0, cells := 0, slots := 0, locals := 0 }
def m_X0_timesLifted (h : dp_H) (x0 : Nat) : Option Int32 := dp_ck h x0 0 ((dp_gi h x0 0 5).bind fun v1 => some v1)
abbrev rm_X0_timesReady : Room := { frames := 0, cells := 0, slots := 0, locals := 0 }
def m_X0_timesReady (h : dp_H) (x0 : Nat) : Option Int32 := dp_ck h x0 0 ((dp_gi h x0 0 6).bind fun v1 => some v1)
abbrev rm_X0_timesLost : Room := { frames := 0, cells := 0, slots := 0, locals := 0 }
def m_X0_timesLost (h : dp_H) (x0 : Nat) : Option Int32 := dp_ck h x0 0 ((dp_gi h x0 0 7).bind fun v1 => some v1)
abbrev rm_X0_digitsEver : Room := { frames := 0, cells := 0, slots := 0, locals := 0 }
def m_X0_digitsEver (h : dp_H) (x0 : Nat) : Option Int32 := dp_ck h x0 0 ((dp_gi h x0 0 8).bind fun v1 => some v1)
abbrev rm_X0_ticksOf : Room := { frames := 0, cells := 0, slots := 0, locals := 0 }
def m_X0_ticksOf (h : dp_H) (x0 : Nat) (x1 : Int32) : Option Int32 := dp_ck h x0 0 (if x1 < 0 then (some 0) else ((dp_gr h x0 0 1).bind fun v1 => (dp_ln h v1).bind fun v2 => if v2 ≤ x1 then (some 0) else ((dp_gr h x0 0 1).bind fun v3 => (dp_ai false h v3 x1).bind fun v4 => some v4)))
abbrev rm_X0_setTicks : Room := { frames := 0, cells := 0, slots := 0, locals := 0 }
def m_X0_setTicks (h : dp_H) (x0 : Nat) (x1 : Int32) (x2 : Int32) : Option dp_H := dp_ck h x0 0 (if x1 < 0 then (some h) else ((dp_gr h x0 0 1).bind fun v1 => (dp_ln h v1).bind fun v2 => if v2 ≤ x1 then (some h) else ((dp_gr h x0 0 1).bind fun v3 => (dp_si false h v3 x1 x2).bind fun h4 => some h4)))
abbrev rm_X5_size : Room := { frames := 0, cells := 0, slots := 0, locals := 0 }
def m_X5_size (h : dp_H) (x0 : Nat) : Option Int32 := dp_ck h x0 5 ((dp_gi h x0 5 1).bind fun v1 => some v1)
abbrev rm_X3_at : Room := { frames := 0, cells := 0, slots := 0, locals := 0 }
def m_X3_at (h : dp_H) (x0 : Nat) (x1 : Int32) : Option (Option Nat) := dp_ck h x0 3 (if x1 < 0 then (some none) else ((dp_gi h x0 3 1).bind fun v1 => if v1 ≤ x1 then (some none) else ((dp_gr h x0 3 0).bind fun v2 => (dp_ln h v2).bind fun v3 => if v3 ≤ x1 then (some none) else ((dp_gr h x0 3 0).bind fun v4 => (dp_ar h v4 x1).bind fun v5 => some (some v5)))))
abbrev rm_X5_at : Room := { frames := 0, cells := 0, slots := 0, locals := 0 }
def m_X5_at (h : dp_H) (x0 : Nat) (x1 : Int32) : Option Int32 := dp_ck h x0 5 (if x1 < 0 then (some (-1)) else ((dp_gi h x0 5 1).bind fun v1 => if v1 ≤ x1 then (some (-1)) else ((dp_gr h x0 5 0).bind fun v2 => (dp_ln h v2).bind fun v3 => if v3 ≤ x1 then (some (-1)) else ((dp_gr h x0 5 0).bind fun v4 => (dp_ai false h v4 x1).bind fun v5 => some v5))))
abbrev rm_X1_reach : Room := { frames := 1, cells := 0, slots := 0, locals := 22 }
def b_X1_reach_87 (h : dp_H)  (x0 : Nat) (x2 : Int32) (x3 : Int32) : Option Int32 := (dp_gi h x0 1 3).bind fun v1 => if x2 < v1 then (some (x3 ||| 2)) else ((dp_gi h x0 1 4).bind fun v2 => if v2 = 0 then (some x3) else (if 10 ≤ x2 then (some x3) else (some (x3 ||| 2))))
def b_X1_reach_58 (h : dp_H)  (x0 : Nat) (x2 : Int32) : Option Int32 := (dp_gi h x0 1 3).bind fun v1 => if x2 = v1 then (b_X1_reach_87 h x0 x2 (0 ||| 1)) else ((dp_gi h x0 1 4).bind fun v2 => if v2 = 0 then (b_X1_reach_87 h x0 x2 0) else ((dp_gi h x0 1 3).bind fun v3 => if x2 ≤ v3 then (b_X1_reach_87 h x0 x2 0) else (b_X1_reach_87 h x0 x2 (0 ||| 1))))
def b_X1_reach_2 (h : dp_H) (k2 : Nat → Nat → Int32 → Int32 → Option Int32) (x0 : Nat) (x1 : Nat) (x2 : Int32) (x3 : Int32) : Option Int32 := if x2 ≤ x3 then (b_X1_reach_58 h x0 x2) else ((dp_gi h x0 1 3).bind fun v1 => if v1 ≤ x3 then (b_X1_reach_58 h x0 x2) else ((dp_gr h x0 1 0).bind fun v2 => (dp_ln h v2).bind fun v3 => if v3 ≤ x3 then (b_X1_reach_58 h x0 x2) else ((m_X5_at h x1 x3).bind fun v4 => if v4 < 0 then (some 0) else ((dp_gr h x0 1 0).bind fun v5 => (dp_ai false h v5 x3).bind fun v6 => if ((v6 >>> (v4 &&& 31)) &&& 1) = 0 then (some 0) else (k2 x0 x1 x2 (x3 + 1))))))
def m_X1_reach_2 (h : dp_H)  : Nat → Nat → Nat → Int32 → Int32 → Option Int32
  | 0 => fun _ _ _ _ => none
  | n + 1 => fun x0 x1 x2 x3 => b_X1_reach_2 h (m_X1_reach_2 h  n) x0 x1 x2 x3
def m_X1_reach (h : dp_H) (x0 : Nat) (x1 : Nat) (x2 : Int32) : Option Int32 := dp_ck h x0 1 (m_X1_reach_2 h 64 x0 x1 x2 0)
abbrev rm_X3_reached : Room := { frames := 2, cells := 0, slots := 0, locals := 46 }
def b_X3_reached_5 (h : dp_H) (k5 : Nat → Nat → Int32 → Int32 → Int32 → Option Int32) (x0 : Nat) (x1 : Nat) (x2 : Int32) (x3 : Int32) (x4 : Int32) : Option Int32 := (dp_gi h x0 3 1).bind fun v1 => if v1 ≤ x4 then (some x3) else ((m_X3_at h x0 x4).bind fun v2 => dp_om v2 (k5 x0 x1 x2 x3 (x4 + 1)) (fun u3 => (m_X5_size h x1).bind fun v4 => (m_X1_reach h u3 x1 v4).bind fun v5 => if (v5 &&& x2) = 0 then (k5 x0 x1 x2 x3 (x4 + 1)) else (k5 x0 x1 x2 (x3 ||| (1 <<< (x4 &&& 31))) (x4 + 1))))
def m_X3_reached_5 (h : dp_H)  : Nat → Nat → Nat → Int32 → Int32 → Int32 → Option Int32
  | 0 => fun _ _ _ _ _ => none
  | n + 1 => fun x0 x1 x2 x3 x4 => b_X3_reached_5 h (m_X3_reached_5 h  n) x0 x1 x2 x3 x4
def m_X3_reached (h : dp_H) (x0 : Nat) (x1 : Nat) (x2 : Int32) : Option Int32 := dp_ck h x0 3 (m_X3_reached_5 h 64 x0 x1 x2 0 0)
abbrev rm_X0_currentStage : Room := { frames := 3, cells := 0, slots := 0, locals := 71 }
def m_X0_currentStage (h : dp_H) (x0 : Nat) (x1 : Nat) : Option Int32 := dp_ck h x0 0 ((dp_gr h x0 0 0).bind fun v1 => (m_X5_size h v1).bind fun v2 => if v2 = 0 then (some 0) else ((dp_gr h x0 0 0).bind fun v3 => (m_X3_reached h x1 v3 1).bind fun v4 => if v4 = 0 then (some 1) else (some 2)))
abbrev rm_X1_way : Room := { frames := 0, cells := 0, slots := 0, locals := 0 }
def m_X1_way (h : dp_H) (x0 : Nat) : Option Int32 := dp_ck h x0 1 ((dp_gi h x0 1 5).bind fun v1 => some v1)
abbrev rm_X1_isNarrowerThan : Room := { frames := 0, cells := 0, slots := 0, locals := 0 }
def b_X1_isNarrowerThan_2 (h : dp_H) (k2 : Nat → Nat → Int32 → Option Int32) (x0 : Nat) (x1 : Nat) (x2 : Int32) : Option Int32 := (dp_gr h x0 1 1).bind fun v1 => (dp_ln h v1).bind fun v2 => if v2 ≤ x2 then (some 0) else ((dp_gr h x1 1 1).bind fun v3 => (dp_ln h v3).bind fun v4 => if v4 ≤ x2 then (some 0) else ((dp_gr h x0 1 1).bind fun v5 => (dp_ai false h v5 x2).bind fun v6 => (dp_gr h x1 1 1).bind fun v7 => (dp_ai false h v7 x2).bind fun v8 => if v6 = v8 then (k2 x0 x1 (x2 + 1)) else ((dp_gr h x0 1 1).bind fun v9 => (dp_ai false h v9 x2).bind fun v10 => (dp_gr h x1 1 1).bind fun v11 => (dp_ai false h v11 x2).bind fun v12 => if v12 ≤ v10 then (some 0) else (some 1))))
def m_X1_isNarrowerThan_2 (h : dp_H)  : Nat → Nat → Nat → Int32 → Option Int32
  | 0 => fun _ _ _ => none
  | n + 1 => fun x0 x1 x2 => b_X1_isNarrowerThan_2 h (m_X1_isNarrowerThan_2 h  n) x0 x1 x2
def m_X1_isNarrowerThan (h : dp_H) (x0 : Nat) (x1 : Nat) : Option Int32 := dp_ck h x0 1 (m_X1_isNarrowerThan_2 h 64 x0 x1 0)
abbrev rm_X3_winner : Room := { frames := 2, cells := 0, slots := 0, locals := 46 }
def b_X3_winner_44 (h : dp_H) (k8 : Nat → Nat → Int32 → Int32 → Option Nat → Int32 → Option Int32) (x0 : Nat) (x1 : Nat) (x2 : Int32) (x3 : Int32) (x4 : Option Nat) (x5 : Int32) (x6 : Nat) : Option Int32 := (m_X5_size h x1).bind fun v1 => (m_X1_reach h x6 x1 v1).bind fun v2 => if (v2 &&& 1) = 0 then (k8 x0 x1 x2 x3 x4 (x5 + 1)) else (dp_om x4 (k8 x0 x1 x2 x5 (some x6) (x5 + 1)) (fun u3 => (m_X1_isNarrowerThan h x6 u3).bind fun v4 => if v4 = 0 then (k8 x0 x1 x2 x3 (some u3) (x5 + 1)) else (k8 x0 x1 x2 x5 (some x6) (x5 + 1))))
def b_X3_winner_8 (h : dp_H) (k8 : Nat → Nat → Int32 → Int32 → Option Nat → Int32 → Option Int32) (x0 : Nat) (x1 : Nat) (x2 : Int32) (x3 : Int32) (x4 : Option Nat) (x5 : Int32) : Option Int32 := (dp_gi h x0 3 1).bind fun v1 => if v1 ≤ x5 then (some x3) else ((m_X3_at h x0 x5).bind fun v2 => dp_om v2 (k8 x0 x1 x2 x3 x4 (x5 + 1)) (fun u3 => if x2 = 0 then (b_X3_winner_44 h k8 x0 x1 x2 x3 x4 x5 u3) else ((m_X1_way h u3).bind fun v4 => if v4 = 9 then (b_X3_winner_44 h k8 x0 x1 x2 x3 x4 x5 u3) else (k8 x0 x1 x2 x3 x4 (x5 + 1)))))
def m_X3_winner_8 (h : dp_H)  : Nat → Nat → Nat → Int32 → Int32 → Option Nat → Int32 → Option Int32
  | 0 => fun _ _ _ _ _ _ => none
  | n + 1 => fun x0 x1 x2 x3 x4 x5 => b_X3_winner_8 h (m_X3_winner_8 h  n) x0 x1 x2 x3 x4 x5
def m_X3_winner (h : dp_H) (x0 : Nat) (x1 : Nat) (x2 : Int32) : Option Int32 := dp_ck h x0 3 (m_X3_winner_8 h 64 x0 x1 x2 (-1) none 0)
abbrev rm_X0_winner : Room := { frames := 3, cells := 0, slots := 0, locals := 72 }
def m_X0_winner (h : dp_H) (x0 : Nat) (x1 : Nat) : Option Int32 := dp_ck h x0 0 ((dp_gi h x0 0 2).bind fun v1 => if v1 = 2 then ((dp_gr h x0 0 0).bind fun v2 => (dp_gi h x0 0 3).bind fun v3 => if v3 = 4 then ((m_X3_winner h x1 v2 1).bind fun v5 => some v5) else ((m_X3_winner h x1 v2 0).bind fun v4 => some v4)) else (some (-1)))
abbrev rm_X0_goOnWaiting : Room := { frames := 4, cells := 0, slots := 0, locals := 92 }
def m_X0_goOnWaiting (h : dp_H) (x0 : Nat) (x1 : Nat) : Option dp_H := dp_ck h x0 0 ((dp_p h x0 0 2 (.inl 1)).bind fun h1 => (m_X0_currentStage h1 x0 x1).bind fun v2 => (m_X0_ticksOf h1 x0 v2).bind fun v3 => (dp_p h1 x0 0 4 (.inl v3)).bind fun h4 => some h4)
abbrev rm_X0_putUp : Room := { frames := 5, cells := 0, slots := 0, locals := 113 }
def m_X0_putUp (h : dp_H) (x0 : Nat) (x1 : Nat) : Option dp_H := dp_ck h x0 0 ((dp_gi h x0 0 5).bind fun v1 => (dp_p h x0 0 5 (.inl (v1 + 1))).bind fun h2 => (m_X0_goOnWaiting h2 x0 x1).bind fun h3 => some h3)
abbrev rm_X5_clear : Room := { frames := 0, cells := 0, slots := 0, locals := 0 }
def m_X5_clear (h : dp_H) (x0 : Nat) : Option dp_H := dp_ck h x0 5 ((dp_p h x0 5 1 (.inl 0)).bind fun h1 => some h1)
abbrev rm_X0_putDown : Room := { frames := 1, cells := 0, slots := 0, locals := 20 }
def m_X0_putDown (h : dp_H) (x0 : Nat) : Option dp_H := dp_ck h x0 0 ((dp_gr h x0 0 0).bind fun v1 => (m_X5_clear h v1).bind fun h2 => (dp_p h2 x0 0 3 (.inl 0)).bind fun h3 => (dp_p h3 x0 0 4 (.inl 0)).bind fun h4 => (dp_p h4 x0 0 2 (.inl 0)).bind fun h5 => some h5)
abbrev rm_X5_append : Room := { frames := 0, cells := 0, slots := 0, locals := 0 }
def m_X5_append (h : dp_H) (x0 : Nat) (x1 : Int32) : Option (dp_H × Int32) := dp_ck h x0 5 ((dp_gi h x0 5 1).bind fun v1 => if v1 < 0 then (some (h, 0)) else ((dp_gi h x0 5 1).bind fun v2 => (dp_gr h x0 5 0).bind fun v3 => (dp_ln h v3).bind fun v4 => if v2 < v4 then ((dp_gr h x0 5 0).bind fun v5 => (dp_gi h x0 5 1).bind fun v6 => (dp_si false h v5 v6 x1).bind fun h7 => (dp_gi h7 x0 5 1).bind fun v8 => (dp_p h7 x0 5 1 (.inl (v8 + 1))).bind fun h9 => some (h9, 1)) else (some (h, 0))))
abbrev rm_X0_settle : Room := { frames := 3, cells := 0, slots := 0, locals := 71 }
def m_X0_settle (h : dp_H) (x0 : Nat) (x1 : Int32) (x2 : Nat) : Option dp_H := dp_ck h x0 0 ((dp_p h x0 0 3 (.inl x1)).bind fun h1 => (dp_p h1 x0 0 4 (.inl 0)).bind fun h2 => (dp_gr h2 x0 0 0).bind fun v3 => (m_X3_reached h2 x2 v3 1).bind fun v4 => if v4 = 0 then ((dp_p h2 x0 0 2 (.inl 3)).bind fun h5 => (dp_gi h5 x0 0 7).bind fun v6 => (dp_p h5 x0 0 7 (.inl (v6 + 1))).bind fun h7 => some h7) else ((dp_p h2 x0 0 2 (.inl 2)).bind fun h8 => (dp_gi h8 x0 0 6).bind fun v9 => (dp_p h8 x0 0 6 (.inl (v9 + 1))).bind fun h10 => some h10))
abbrev rm_X0_take : Room := { frames := 5, cells := 0, slots := 0, locals := 113 }
def b_X0_take_70  (h : dp_H) (x0 : Nat) (x2 : Nat) (x3 : Int32) (y0 : Int32) : Option dp_H := if x3 = 0 then (if y0 = 0 then ((m_X0_goOnWaiting h x0 x2).bind fun h1 => some h1) else ((m_X0_settle h x0 1 x2).bind fun h2 => some h2)) else ((m_X0_settle h x0 4 x2).bind fun h3 => some h3)
def b_X0_take_40  (h : dp_H) (x0 : Nat) (x2 : Nat) (y0 : Int32) : Option dp_H := (dp_gr h x0 0 0).bind fun v1 => (m_X5_size h v1).bind fun v2 => if 10 ≤ v2 then (b_X0_take_70 h x0 x2 y0 1) else ((dp_gr h x0 0 0).bind fun v3 => (m_X3_reached h x2 v3 2).bind fun v4 => if v4 = 0 then (b_X0_take_70 h x0 x2 y0 1) else (b_X0_take_70 h x0 x2 y0 0))
def m_X0_take (h : dp_H) (x0 : Nat) (x1 : Int32) (x2 : Nat) : Option dp_H := dp_ck h x0 0 ((dp_gr h x0 0 0).bind fun v1 => dp_b2 (m_X5_append h v1 x1) fun h2 v3 => if v3 = 0 then (some h2) else ((dp_gi h2 x0 0 8).bind fun v4 => (dp_p h2 x0 0 8 (.inl (v4 + 1))).bind fun h5 => (dp_gr h5 x0 0 0).bind fun v6 => (m_X3_winner h5 x2 v6 1).bind fun v7 => if v7 = (-1) then (b_X0_take_40 h5 x0 x2 0) else (b_X0_take_40 h5 x0 x2 1)))
abbrev rm_X0_letTicksGo : Room := { frames := 4, cells := 0, slots := 0, locals := 93 }
def m_X0_letTicksGo (h : dp_H) (x0 : Nat) (x1 : Int32) (x2 : Nat) : Option dp_H := dp_ck h x0 0 ((dp_gi h x0 0 4).bind fun v1 => if v1 ≤ x1 then ((m_X0_settle h x0 2 x2).bind fun h2 => some h2) else ((dp_gi h x0 0 4).bind fun v3 => (dp_p h x0 0 4 (.inl (v3 - x1))).bind fun h4 => some h4))
abbrev rm_X1_init : Room := { frames := 2, cells := 4, slots := 242, locals := 42 }
def m_X1_init (h : dp_H) (x0 : Nat) : Option dp_H := dp_ck h x0 1 ((dp_na false h 10).bind fun h1 => (dp_p h1 x0 1 0 (.inr (.inr (some (List.length h))))).bind fun h2 => (dp_na false h2 10).bind fun h3 => (dp_p h3 x0 1 1 (.inr (.inr (some (List.length h2))))).bind fun h4 => (dp_nw h4 5 bl_X5).bind fun h5 => (m_X5_init h5 (List.length h4) 4).bind fun h6 => (dp_p h6 x0 1 2 (.inr (.inr (some (List.length h4))))).bind fun h7 => some h7)
abbrev rm_X1_places : Room := { frames := 0, cells := 0, slots := 0, locals := 0 }
def m_X1_places (h : dp_H) (x0 : Nat) : Option Int32 := dp_ck h x0 1 ((dp_gi h x0 1 3).bind fun v1 => some v1)
abbrev rm_X1_isOpen : Room := { frames := 0, cells := 0, slots := 0, locals := 0 }
def m_X1_isOpen (h : dp_H) (x0 : Nat) : Option Int32 := dp_ck h x0 1 ((dp_gi h x0 1 4).bind fun v1 => dp_b v1 (some v1))
abbrev rm_X1_dropped : Room := { frames := 0, cells := 0, slots := 0, locals := 0 }
def m_X1_dropped (h : dp_H) (x0 : Nat) : Option Int32 := dp_ck h x0 1 ((dp_gi h x0 1 6).bind fun v1 => some v1)
abbrev rm_X1_ahead : Room := { frames := 0, cells := 0, slots := 0, locals := 0 }
def m_X1_ahead (h : dp_H) (x0 : Nat) : Option Nat := dp_ck h x0 1 ((dp_gr h x0 1 2).bind fun v1 => some v1)
abbrev rm_X1_digitsAt : Room := { frames := 0, cells := 0, slots := 0, locals := 0 }
def m_X1_digitsAt (h : dp_H) (x0 : Nat) (x1 : Int32) : Option Int32 := dp_ck h x0 1 (if x1 < 0 then (some 0) else ((dp_gr h x0 1 0).bind fun v1 => (dp_ln h v1).bind fun v2 => if v2 ≤ x1 then (some 0) else ((dp_gr h x0 1 0).bind fun v3 => (dp_ai false h v3 x1).bind fun v4 => some v4)))
abbrev rm_X1_setFrom : Room := { frames := 1, cells := 0, slots := 0, locals := 21 }
def b_X1_setFrom_7 (k7 : dp_H → Nat → Int32 → Int32 → Int32 → Option dp_H) (h : dp_H) (x0 : Nat) (x2 : Int32) (x3 : Int32) (x4 : Int32) : Option dp_H := (dp_gr h x0 1 0).bind fun v1 => (dp_ln h v1).bind fun v2 => if v2 ≤ x4 then (some h) else ((dp_gr h x0 1 1).bind fun v3 => (dp_ln h v3).bind fun v4 => if v4 ≤ x4 then (some h) else ((dp_gr h x0 1 0).bind fun v5 => (dp_si false h v5 x4 x2).bind fun h6 => (dp_gr h6 x0 1 1).bind fun v7 => (dp_si false h6 v7 x4 x3).bind fun h8 => k7 h8 x0 x2 x3 (x4 + 1)))
def m_X1_setFrom_7  : Nat → dp_H → Nat → Int32 → Int32 → Int32 → Option dp_H
  | 0 => fun _ _ _ _ _ => none
  | n + 1 => fun h x0 x2 x3 x4 => b_X1_setFrom_7 (m_X1_setFrom_7  n) h x0 x2 x3 x4
def m_X1_setFrom (h : dp_H) (x0 : Nat) (x1 : Int32) (x2 : Int32) (x3 : Int32) : Option dp_H := dp_ck h x0 1 (m_X1_setFrom_7 64 h x0 x2 x3 (if x1 < 0 then 0 else x1))
abbrev rm_X1_clear : Room := { frames := 2, cells := 0, slots := 0, locals := 45 }
def m_X1_clear (h : dp_H) (x0 : Nat) : Option dp_H := dp_ck h x0 1 ((m_X1_setFrom h x0 0 0 0).bind fun h1 => (dp_gr h1 x0 1 2).bind fun v2 => (m_X5_clear h1 v2).bind fun h3 => (dp_p h3 x0 1 3 (.inl 0)).bind fun h4 => (dp_p h4 x0 1 4 (.inl 0)).bind fun h5 => (dp_p h5 x0 1 5 (.inl 0)).bind fun h6 => (dp_p h6 x0 1 6 (.inl 0)).bind fun h7 => some h7)
abbrev rm_X1_hasRoom : Room := { frames := 0, cells := 0, slots := 0, locals := 0 }
def m_X1_hasRoom (h : dp_H) (x0 : Nat) : Option Int32 := dp_ck h x0 1 ((dp_gi h x0 1 3).bind fun v1 => if v1 < 0 then (some 0) else ((dp_gi h x0 1 3).bind fun v2 => if 8 ≤ v2 then (some 0) else (some 1)))
abbrev rm_X1_appendPlace : Room := { frames := 1, cells := 0, slots := 0, locals := 21 }
def b_X1_appendPlace_76  (h : dp_H) (x0 : Nat) (x3 : Int32) : Option dp_H := (dp_gr h x0 1 0).bind fun v1 => (dp_gi h x0 1 3).bind fun v2 => (dp_si false h v1 v2 x3).bind fun h3 => (dp_gr h3 x0 1 1).bind fun v4 => (dp_gi h3 x0 1 3).bind fun v5 => (m_J6_bitCount_0f7a4 h3 x3).bind fun v6 => (dp_si false h3 v4 v5 v6).bind fun h7 => (dp_gi h7 x0 1 3).bind fun v8 => (dp_p h7 x0 1 3 (.inl (v8 + 1))).bind fun h9 => some h9
def b_X1_appendPlace_50 (k50 : dp_H → Nat → Int32 → Int32 → Int32 → Option dp_H) (h : dp_H) (x0 : Nat) (x2 : Int32) (x3 : Int32) (x4 : Int32) : Option dp_H := if x2 < x4 then (b_X1_appendPlace_76 h x0 x3) else (if 9 < x4 then (b_X1_appendPlace_76 h x0 x3) else (k50 h x0 x2 (x3 ||| (1 <<< (x4 &&& 31))) (x4 + 1)))
def m_X1_appendPlace_50  : Nat → dp_H → Nat → Int32 → Int32 → Int32 → Option dp_H
  | 0 => fun _ _ _ _ _ => none
  | n + 1 => fun h x0 x2 x3 x4 => b_X1_appendPlace_50 (m_X1_appendPlace_50  n) h x0 x2 x3 x4
def m_X1_appendPlace (h : dp_H) (x0 : Nat) (x1 : Int32) (x2 : Int32) : Option dp_H := dp_ck h x0 1 ((dp_gi h x0 1 3).bind fun v1 => if v1 < 0 then (some h) else ((dp_gi h x0 1 3).bind fun v2 => if 8 ≤ v2 then (some h) else ((dp_gi h x0 1 3).bind fun v3 => (dp_gr h x0 1 0).bind fun v4 => (dp_ln h v4).bind fun v5 => if v5 ≤ v3 then (some h) else ((dp_gi h x0 1 3).bind fun v6 => (dp_gr h x0 1 1).bind fun v7 => (dp_ln h v7).bind fun v8 => if v6 < v8 then (m_X1_appendPlace_50 64 h x0 x2 0 (if x1 < 0 then 0 else x1)) else (some h)))))
abbrev rm_X1_makeOpen : Room := { frames := 2, cells := 0, slots := 0, locals := 45 }
def m_X1_makeOpen (h : dp_H) (x0 : Nat) : Option dp_H := dp_ck h x0 1 ((dp_p h x0 1 4 (.inl 1)).bind fun h1 => (dp_gi h1 x0 1 3).bind fun v2 => (m_X1_setFrom h1 x0 v2 1023 11).bind fun h3 => some h3)
abbrev rm_X1_setWay : Room := { frames := 0, cells := 0, slots := 0, locals := 0 }
def m_X1_setWay (h : dp_H) (x0 : Nat) (x1 : Int32) : Option dp_H := dp_ck h x0 1 ((dp_p h x0 1 5 (.inl x1)).bind fun h1 => some h1)
abbrev rm_X1_setDropped : Room := { frames := 0, cells := 0, slots := 0, locals := 0 }
def m_X1_setDropped (h : dp_H) (x0 : Nat) (x1 : Int32) : Option dp_H := dp_ck h x0 1 ((dp_p h x0 1 6 (.inl x1)).bind fun h1 => some h1)
abbrev rm_X5_copyFrom : Room := { frames := 1, cells := 0, slots := 0, locals := 22 }
def b_X5_copyFrom_6 (k6 : dp_H → Nat → Nat → Int32 → Option dp_H) (h : dp_H) (x0 : Nat) (x1 : Nat) (x2 : Int32) : Option dp_H := (m_X5_size h x1).bind fun v1 => if v1 ≤ x2 then (some h) else ((m_X5_at h x1 x2).bind fun v2 => dp_b2 (m_X5_append h x0 v2) fun h3 v4 => k6 h3 x0 x1 (x2 + 1))
def m_X5_copyFrom_6  : Nat → dp_H → Nat → Nat → Int32 → Option dp_H
  | 0 => fun _ _ _ _ => none
  | n + 1 => fun h x0 x1 x2 => b_X5_copyFrom_6 (m_X5_copyFrom_6  n) h x0 x1 x2
def m_X5_copyFrom (h : dp_H) (x0 : Nat) (x1 : Nat) : Option dp_H := dp_ck h x0 5 ((m_X5_clear h x0).bind fun h1 => m_X5_copyFrom_6 64 h1 x0 x1 0)
abbrev rm_X1_copyFrom : Room := { frames := 2, cells := 0, slots := 0, locals := 44 }
def b_X1_copyFrom_76  (h : dp_H) (x0 : Nat) (x1 : Nat) : Option dp_H := (dp_gr h x0 1 2).bind fun v1 => (dp_gr h x1 1 2).bind fun v2 => (m_X5_copyFrom h v1 v2).bind fun h3 => (dp_gi h3 x1 1 3).bind fun v4 => (dp_p h3 x0 1 3 (.inl v4)).bind fun h5 => (dp_gi h5 x1 1 4).bind fun v6 => dp_b v6 ((dp_p h5 x0 1 4 (.inl v6)).bind fun h7 => (dp_gi h7 x1 1 5).bind fun v8 => (dp_p h7 x0 1 5 (.inl v8)).bind fun h9 => (dp_gi h9 x1 1 6).bind fun v10 => (dp_p h9 x0 1 6 (.inl v10)).bind fun h11 => some h11)
def b_X1_copyFrom_40 (k40 : dp_H → Nat → Nat → Int32 → Option dp_H) (h : dp_H) (x0 : Nat) (x1 : Nat) (x2 : Int32) : Option dp_H := (dp_gr h x0 1 1).bind fun v1 => (dp_ln h v1).bind fun v2 => if v2 ≤ x2 then (b_X1_copyFrom_76 h x0 x1) else ((dp_gr h x1 1 1).bind fun v3 => (dp_ln h v3).bind fun v4 => if v4 ≤ x2 then (b_X1_copyFrom_76 h x0 x1) else ((dp_gr h x0 1 1).bind fun v5 => (dp_gr h x1 1 1).bind fun v6 => (dp_ai false h v6 x2).bind fun v7 => (dp_si false h v5 x2 v7).bind fun h8 => k40 h8 x0 x1 (x2 + 1)))
def m_X1_copyFrom_40  : Nat → dp_H → Nat → Nat → Int32 → Option dp_H
  | 0 => fun _ _ _ _ => none
  | n + 1 => fun h x0 x1 x2 => b_X1_copyFrom_40 (m_X1_copyFrom_40  n) h x0 x1 x2
def b_X1_copyFrom_2 (k2 : dp_H → Nat → Nat → Int32 → Option dp_H) (h : dp_H) (x0 : Nat) (x1 : Nat) (x2 : Int32) : Option dp_H := (dp_gr h x0 1 0).bind fun v1 => (dp_ln h v1).bind fun v2 => if v2 ≤ x2 then (m_X1_copyFrom_40 64 h x0 x1 0) else ((dp_gr h x1 1 0).bind fun v3 => (dp_ln h v3).bind fun v4 => if v4 ≤ x2 then (m_X1_copyFrom_40 64 h x0 x1 0) else ((dp_gr h x0 1 0).bind fun v5 => (dp_gr h x1 1 0).bind fun v6 => (dp_ai false h v6 x2).bind fun v7 => (dp_si false h v5 x2 v7).bind fun h8 => k2 h8 x0 x1 (x2 + 1)))
def m_X1_copyFrom_2  : Nat → dp_H → Nat → Nat → Int32 → Option dp_H
  | 0 => fun _ _ _ _ => none
  | n + 1 => fun h x0 x1 x2 => b_X1_copyFrom_2 (m_X1_copyFrom_2  n) h x0 x1 x2
def m_X1_copyFrom (h : dp_H) (x0 : Nat) (x1 : Nat) : Option dp_H := dp_ck h x0 1 (m_X1_copyFrom_2 64 h x0 x1 0)
abbrev rm_X5_isLike : Room := { frames := 1, cells := 0, slots := 0, locals := 22 }
def b_X5_isLike_15 (h : dp_H) (k15 : Nat → Nat → Int32 → Option Int32) (x0 : Nat) (x1 : Nat) (x2 : Int32) : Option Int32 := (dp_gi h x0 5 1).bind fun v1 => if v1 ≤ x2 then (some 1) else ((m_X5_at h x0 x2).bind fun v2 => (m_X5_at h x1 x2).bind fun v3 => if v2 = v3 then (k15 x0 x1 (x2 + 1)) else (some 0))
def m_X5_isLike_15 (h : dp_H)  : Nat → Nat → Nat → Int32 → Option Int32
  | 0 => fun _ _ _ => none
  | n + 1 => fun x0 x1 x2 => b_X5_isLike_15 h (m_X5_isLike_15 h  n) x0 x1 x2
def m_X5_isLike (h : dp_H) (x0 : Nat) (x1 : Nat) : Option Int32 := dp_ck h x0 5 ((dp_gi h x0 5 1).bind fun v1 => (m_X5_size h x1).bind fun v2 => if v1 = v2 then (m_X5_isLike_15 h 64 x0 x1 0) else (some 0))
abbrev rm_X1_doesLike : Room := { frames := 2, cells := 0, slots := 0, locals := 44 }
def m_X1_doesLike (h : dp_H) (x0 : Nat) (x1 : Nat) : Option Int32 := dp_ck h x0 1 ((dp_gi h x0 1 5).bind fun v1 => (dp_gi h x1 1 5).bind fun v2 => if v1 = v2 then ((dp_gi h x0 1 6).bind fun v3 => (dp_gi h x1 1 6).bind fun v4 => if v3 = v4 then ((dp_gr h x0 1 2).bind fun v5 => (dp_gr h x1 1 2).bind fun v6 => (m_X5_isLike h v5 v6).bind fun v7 => if v7 = 0 then (some 0) else (some 1)) else (some 0)) else (some 0))
abbrev rm_X1_sharesRowWith : Room := { frames := 1, cells := 0, slots := 0, locals := 21 }
def b_X1_sharesRowWith_2 (h : dp_H) (k2 : Nat → Nat → Int32 → Option Int32) (x0 : Nat) (x1 : Nat) (x2 : Int32) : Option Int32 := (dp_gi h x0 1 3).bind fun v1 => if v1 ≤ x2 then (some 1) else ((m_X1_digitsAt h x0 x2).bind fun v2 => (m_X1_digitsAt h x1 x2).bind fun v3 => if (v2 &&& v3) = 0 then (some 0) else (k2 x0 x1 (x2 + 1)))
def m_X1_sharesRowWith_2 (h : dp_H)  : Nat → Nat → Nat → Int32 → Option Int32
  | 0 => fun _ _ _ => none
  | n + 1 => fun x0 x1 x2 => b_X1_sharesRowWith_2 h (m_X1_sharesRowWith_2 h  n) x0 x1 x2
def m_X1_sharesRowWith (h : dp_H) (x0 : Nat) (x1 : Nat) : Option Int32 := dp_ck h x0 1 (m_X1_sharesRowWith_2 h 64 x0 x1 0)
abbrev rm_X1_clashesWith : Room := { frames := 3, cells := 0, slots := 0, locals := 65 }
def m_X1_clashesWith (h : dp_H) (x0 : Nat) (x1 : Nat) : Option Int32 := dp_ck h x0 1 ((m_X1_isNarrowerThan h x0 x1).bind fun v1 => if v1 = 0 then ((m_X1_isNarrowerThan h x1 x0).bind fun v2 => if v2 = 0 then ((m_X1_sharesRowWith h x0 x1).bind fun v3 => if v3 = 0 then (some 0) else ((m_X1_doesLike h x0 x1).bind fun v4 => if v4 = 0 then (some 1) else (some 0))) else (some 0)) else (some 0))
abbrev rm_X2_init : Room := { frames := 3, cells := 5, slots := 249, locals := 62 }
def m_X2_init (h : dp_H) (x0 : Nat) : Option dp_H := dp_ck h x0 2 ((dp_nw h 1 bl_X1).bind fun h1 => (m_X1_init h1 (List.length h)).bind fun h2 => (dp_p h2 x0 2 0 (.inr (.inr (some (List.length h))))).bind fun h3 => some h3)
abbrev rm_X2_draft : Room := { frames := 0, cells := 0, slots := 0, locals := 0 }
def m_X2_draft (h : dp_H) (x0 : Nat) : Option Nat := dp_ck h x0 2 ((dp_gr h x0 2 0).bind fun v1 => some v1)
abbrev rm_X2_isWhole : Room := { frames := 0, cells := 0, slots := 0, locals := 0 }
def m_X2_isWhole (h : dp_H) (x0 : Nat) : Option Int32 := dp_ck h x0 2 ((dp_gi h x0 2 1).bind fun v1 => if v1 = 9 then (some 1) else (some 0))
abbrev rm_X6_isFigure : Room := { frames := 0, cells := 0, slots := 0, locals := 0 }
def m_X6_isFigure (h : dp_H) (x0 : Int32) : Option Int32 := if x0 < 48 then (some 0) else (if 57 < x0 then (some 0) else (some 1))
abbrev rm_X2_takePlace : Room := { frames := 2, cells := 0, slots := 0, locals := 45 }
def m_X2_takePlace (h : dp_H) (x0 : Nat) (x1 : Int32) : Option (dp_H × Int32) := dp_ck h x0 2 (if x1 = 91 then ((dp_p h x0 2 1 (.inl 1)).bind fun h8 => some (h8, 1)) else (if x1 = 78 then ((dp_gr h x0 2 0).bind fun v6 => (m_X1_appendPlace h v6 2 9).bind fun h7 => some (h7, 1)) else (if x1 = 88 then ((dp_gr h x0 2 0).bind fun v4 => (m_X1_appendPlace h v4 0 9).bind fun h5 => some (h5, 1)) else ((m_X6_isFigure h x1).bind fun v1 => if v1 = 0 then (some (h, 0)) else ((dp_gr h x0 2 0).bind fun v2 => (m_X1_appendPlace h v2 (x1 - 48) (x1 - 48)).bind fun h3 => some (h3, 1))))))
abbrev rm_X2_takePlaceOrTail : Room := { frames := 3, cells := 0, slots := 0, locals := 66 }
def b_X2_takePlaceOrTail_54  (h : dp_H) (x0 : Nat) (x1 : Int32) : Option (dp_H × Int32) := (dp_gr h x0 2 0).bind fun v1 => (m_X1_hasRoom h v1).bind fun v2 => if v2 = 0 then (some (h, 0)) else (dp_b2 (m_X2_takePlace h x0 x1) fun h3 v4 => if v4 = 0 then (some (h3, 0)) else (some (h3, 1)))
def m_X2_takePlaceOrTail (h : dp_H) (x0 : Nat) (x1 : Int32) : Option (dp_H × Int32) := dp_ck h x0 2 ((dp_gr h x0 2 0).bind fun v1 => (m_X1_places h v1).bind fun v2 => if v2 ≤ 0 then ((dp_gr h x0 2 0).bind fun v3 => (m_X1_places h v3).bind fun v4 => if v4 ≤ 0 then (b_X2_takePlaceOrTail_54 h x0 x1) else (if x1 = 61 then ((dp_p h x0 2 1 (.inl 6)).bind fun h5 => some (h5, 1)) else (b_X2_takePlaceOrTail_54 h x0 x1))) else (if x1 = 46 then ((dp_gr h x0 2 0).bind fun v9 => (m_X1_makeOpen h v9).bind fun h10 => (dp_p h10 x0 2 1 (.inl 5)).bind fun h11 => some (h11, 1)) else ((dp_gr h x0 2 0).bind fun v6 => (m_X1_places h v6).bind fun v7 => if v7 ≤ 0 then (b_X2_takePlaceOrTail_54 h x0 x1) else (if x1 = 61 then ((dp_p h x0 2 1 (.inl 6)).bind fun h8 => some (h8, 1)) else (b_X2_takePlaceOrTail_54 h x0 x1)))))
abbrev rm_X2_takeLow : Room := { frames := 1, cells := 0, slots := 0, locals := 20 }
def m_X2_takeLow (h : dp_H) (x0 : Nat) (x1 : Int32) : Option (dp_H × Int32) := dp_ck h x0 2 ((m_X6_isFigure h x1).bind fun v1 => if v1 = 0 then (some (h, 0)) else (if x1 = 57 then (some (h, 0)) else ((dp_p h x0 2 2 (.inl (x1 - 48))).bind fun h2 => (dp_p h2 x0 2 1 (.inl 2)).bind fun h3 => some (h3, 1))))
abbrev rm_X2_takeSign : Room := { frames := 0, cells := 0, slots := 0, locals := 0 }
def m_X2_takeSign (h : dp_H) (x0 : Nat) (x1 : Int32) (x2 : Int32) (x3 : Int32) : Option (dp_H × Int32) := dp_ck h x0 2 (if x1 = x2 then ((dp_p h x0 2 1 (.inl x3)).bind fun h1 => some (h1, 1)) else (some (h, 0)))
abbrev rm_X2_takeHigh : Room := { frames := 1, cells := 0, slots := 0, locals := 20 }
def m_X2_takeHigh (h : dp_H) (x0 : Nat) (x1 : Int32) : Option (dp_H × Int32) := dp_ck h x0 2 ((m_X6_isFigure h x1).bind fun v1 => if v1 = 0 then (some (h, 0)) else ((dp_gi h x0 2 2).bind fun v2 => if v2 < (x1 - 48) then ((dp_p h x0 2 3 (.inl (x1 - 48))).bind fun h3 => (dp_p h3 x0 2 1 (.inl 4)).bind fun h4 => some (h4, 1)) else (some (h, 0))))
abbrev rm_X2_takeBracket : Room := { frames := 2, cells := 0, slots := 0, locals := 45 }
def m_X2_takeBracket (h : dp_H) (x0 : Nat) (x1 : Int32) : Option (dp_H × Int32) := dp_ck h x0 2 (if x1 = 93 then ((dp_gr h x0 2 0).bind fun v1 => (dp_gi h x0 2 2).bind fun v2 => (dp_gi h x0 2 3).bind fun v3 => (m_X1_appendPlace h v1 v2 v3).bind fun h4 => (dp_p h4 x0 2 1 (.inl 0)).bind fun h5 => some (h5, 1)) else (some (h, 0)))
abbrev rm_X2_wayOf : Room := { frames := 0, cells := 0, slots := 0, locals := 0 }
def m_X2_wayOf (h : dp_H) (x0 : Int32) : Option Int32 := if x0 < 97 then (if x0 = 33 then (some 9) else if x0 = 42 then (some 10) else if x0 = 45 then (some 8) else (some (-1))) else (if 104 < x0 then (if x0 = 33 then (some 9) else if x0 = 42 then (some 10) else if x0 = 45 then (some 8) else (some (-1))) else (some (x0 - 97)))
abbrev rm_X2_takeWay : Room := { frames := 1, cells := 0, slots := 0, locals := 21 }
def m_X2_takeWay (h : dp_H) (x0 : Nat) (x1 : Int32) : Option (dp_H × Int32) := dp_ck h x0 2 ((m_X2_wayOf h x1).bind fun v1 => if v1 = (-1) then (some (h, 0)) else ((dp_gr h x0 2 0).bind fun v2 => (m_X1_setWay h v2 v1).bind fun h3 => (dp_p h3 x0 2 1 (.inl 7)).bind fun h4 => some (h4, 1)))
abbrev rm_X2_takeDrop : Room := { frames := 1, cells := 0, slots := 0, locals := 21 }
def m_X2_takeDrop (h : dp_H) (x0 : Nat) (x1 : Int32) : Option (dp_H × Int32) := dp_ck h x0 2 ((m_X6_isFigure h x1).bind fun v1 => if v1 = 0 then (some (h, 0)) else ((dp_gr h x0 2 0).bind fun v2 => (m_X1_places h v2).bind fun v3 => if (x1 - 48) ≤ v3 then ((dp_gr h x0 2 0).bind fun v4 => (m_X1_setDropped h v4 (x1 - 48)).bind fun h5 => (dp_p h5 x0 2 1 (.inl 9)).bind fun h6 => some (h6, 1)) else (some (h, 0))))
abbrev rm_X2_takeAhead : Room := { frames := 1, cells := 0, slots := 0, locals := 21 }
def m_X2_takeAhead (h : dp_H) (x0 : Nat) (x1 : Int32) : Option (dp_H × Int32) := dp_ck h x0 2 ((m_X6_isFigure h x1).bind fun v1 => if v1 = 0 then (some (h, 0)) else ((dp_gr h x0 2 0).bind fun v2 => (m_X1_ahead h v2).bind fun v3 => dp_b2 (m_X5_append h v3 (x1 - 48)) fun h4 v5 => if v5 = 0 then (some (h4, 0)) else (some (h4, 1))))
abbrev rm_X2_take : Room := { frames := 4, cells := 0, slots := 0, locals := 87 }
def m_X2_take (h : dp_H) (x0 : Nat) (x1 : Int32) : Option (dp_H × Int32) := dp_ck h x0 2 ((dp_gi h x0 2 1).bind fun v1 => if v1 = 0 then (dp_b2 (m_X2_takePlaceOrTail h x0 x1) fun h2 v3 => dp_b v3 (some (h2, v3))) else if v1 = 1 then (dp_b2 (m_X2_takeLow h x0 x1) fun h4 v5 => dp_b v5 (some (h4, v5))) else if v1 = 2 then (dp_b2 (m_X2_takeSign h x0 x1 45 3) fun h6 v7 => dp_b v7 (some (h6, v7))) else if v1 = 3 then (dp_b2 (m_X2_takeHigh h x0 x1) fun h8 v9 => dp_b v9 (some (h8, v9))) else if v1 = 4 then (dp_b2 (m_X2_takeBracket h x0 x1) fun h10 v11 => dp_b v11 (some (h10, v11))) else if v1 = 5 then (dp_b2 (m_X2_takeSign h x0 x1 61 6) fun h12 v13 => dp_b v13 (some (h12, v13))) else if v1 = 6 then (dp_b2 (m_X2_takeWay h x0 x1) fun h14 v15 => dp_b v15 (some (h14, v15))) else if v1 = 7 then (dp_b2 (m_X2_takeSign h x0 x1 58 8) fun h16 v17 => dp_b v17 (some (h16, v17))) else if v1 = 8 then (dp_b2 (m_X2_takeDrop h x0 x1) fun h18 v19 => dp_b v19 (some (h18, v19))) else (dp_b2 (m_X2_takeAhead h x0 x1) fun h20 v21 => dp_b v21 (some (h20, v21))))
abbrev rm_X2_scan : Room := { frames := 5, cells := 0, slots := 0, locals := 108 }
def b_X2_scan_14 (k14 : dp_H → Nat → Nat → Int32 → Option (dp_H × Int32)) (h : dp_H) (x0 : Nat) (x1 : Nat) (x2 : Int32) : Option (dp_H × Int32) := (m_X5_size h x1).bind fun v1 => if v1 ≤ x2 then ((m_X5_size h x1).bind fun v2 => some (h, v2)) else ((m_X5_at h x1 x2).bind fun v3 => dp_b2 (m_X2_take h x0 v3) fun h4 v5 => if v5 = 0 then (some (h4, x2)) else (k14 h4 x0 x1 (x2 + 1)))
def m_X2_scan_14  : Nat → dp_H → Nat → Nat → Int32 → Option (dp_H × Int32)
  | 0 => fun _ _ _ _ => none
  | n + 1 => fun h x0 x1 x2 => b_X2_scan_14 (m_X2_scan_14  n) h x0 x1 x2
def m_X2_scan (h : dp_H) (x0 : Nat) (x1 : Nat) : Option (dp_H × Int32) := dp_ck h x0 2 ((dp_gr h x0 2 0).bind fun v1 => (m_X1_clear h v1).bind fun h2 => (dp_p h2 x0 2 1 (.inl 0)).bind fun h3 => m_X2_scan_14 64 h3 x0 x1 0)
abbrev rm_X3_init : Room := { frames := 3, cells := 321, slots := 16016, locals := 62 }
def b_X3_init_15 (k15 : dp_H → Nat → Int32 → Option dp_H) (h : dp_H) (x0 : Nat) (x1 : Int32) : Option dp_H := (dp_gr h x0 3 0).bind fun v1 => (dp_ln h v1).bind fun v2 => if v2 ≤ x1 then (some h) else ((dp_gr h x0 3 0).bind fun v3 => (dp_nw h 1 bl_X1).bind fun h4 => (m_X1_init h4 (List.length h)).bind fun h5 => (dp_sr h5 v3 x1 (List.length h)).bind fun h6 => k15 h6 x0 (x1 + 1))
def m_X3_init_15  : Nat → dp_H → Nat → Int32 → Option dp_H
  | 0 => fun _ _ _ => none
  | n + 1 => fun h x0 x1 => b_X3_init_15 (m_X3_init_15  n) h x0 x1
def m_X3_init (h : dp_H) (x0 : Nat) : Option dp_H := dp_ck h x0 3 ((dp_nr h 10).bind fun h1 => (dp_p h1 x0 3 0 (.inr (.inr (some (List.length h))))).bind fun h2 => m_X3_init_15 64 h2 x0 0)
abbrev rm_X3_size : Room := { frames := 0, cells := 0, slots := 0, locals := 0 }
def m_X3_size (h : dp_H) (x0 : Nat) : Option Int32 := dp_ck h x0 3 ((dp_gi h x0 3 1).bind fun v1 => some v1)
abbrev rm_X3_append : Room := { frames := 3, cells := 0, slots := 0, locals := 66 }
def m_X3_append (h : dp_H) (x0 : Nat) (x1 : Nat) : Option (dp_H × Int32) := dp_ck h x0 3 ((dp_gi h x0 3 1).bind fun v1 => if v1 < 0 then (some (h, 0)) else ((dp_gi h x0 3 1).bind fun v2 => (dp_gr h x0 3 0).bind fun v3 => (dp_ln h v3).bind fun v4 => if v2 < v4 then ((dp_gr h x0 3 0).bind fun v5 => (dp_gi h x0 3 1).bind fun v6 => (dp_ar h v5 v6).bind fun v7 => (m_X1_copyFrom h v7 x1).bind fun h8 => (dp_gi h8 x0 3 1).bind fun v9 => (dp_p h8 x0 3 1 (.inl (v9 + 1))).bind fun h10 => some (h10, 1)) else (some (h, 0))))
abbrev rm_X3_remove : Room := { frames := 0, cells := 0, slots := 0, locals := 0 }
def b_X3_remove_34 (k34 : dp_H → Nat → Nat → Int32 → Option dp_H) (h : dp_H) (x0 : Nat) (x2 : Nat) (x3 : Int32) : Option dp_H := (dp_gi h x0 3 1).bind fun v1 => if v1 ≤ (x3 + 1) then ((dp_gi h x0 3 1).bind fun v2 => (dp_p h x0 3 1 (.inl (v2 - 1))).bind fun h3 => (dp_gr h3 x0 3 0).bind fun v4 => (dp_gi h3 x0 3 1).bind fun v5 => (dp_sr h3 v4 v5 x2).bind fun h6 => some h6) else ((dp_gr h x0 3 0).bind fun v7 => (dp_gr h x0 3 0).bind fun v8 => (dp_ar h v8 (x3 + 1)).bind fun v9 => (dp_sr h v7 x3 v9).bind fun h10 => k34 h10 x0 x2 (x3 + 1))
def m_X3_remove_34  : Nat → dp_H → Nat → Nat → Int32 → Option dp_H
  | 0 => fun _ _ _ _ => none
  | n + 1 => fun h x0 x2 x3 => b_X3_remove_34 (m_X3_remove_34  n) h x0 x2 x3
def m_X3_remove (h : dp_H) (x0 : Nat) (x1 : Int32) : Option dp_H := dp_ck h x0 3 (if x1 < 0 then (some h) else ((dp_gi h x0 3 1).bind fun v1 => if v1 ≤ x1 then (some h) else ((dp_gi h x0 3 1).bind fun v2 => (dp_gr h x0 3 0).bind fun v3 => (dp_ln h v3).bind fun v4 => if v2 ≤ v4 then ((dp_gr h x0 3 0).bind fun v5 => (dp_ar h v5 x1).bind fun v6 => m_X3_remove_34 64 h x0 v6 x1) else (some h))))
abbrev rm_X3_isSureBy : Room := { frames := 3, cells := 0, slots := 0, locals := 65 }
def b_X3_isSureBy_5 (h : dp_H) (k5 : Nat → Nat → Int32 → Option Nat → Int32 → Option Int32) (x0 : Nat) (x1 : Nat) (x2 : Int32) (x3 : Option Nat) (x4 : Int32) : Option Int32 := (dp_gi h x0 3 1).bind fun v1 => if v1 ≤ x4 then (dp_om x3 (some 0) (fun u2 => some 1)) else ((m_X3_at h x0 x4).bind fun v3 => dp_om v3 (k5 x0 x1 x2 x3 (x4 + 1)) (fun u4 => (m_X1_reach h u4 x1 x2).bind fun v5 => if v5 = 0 then (k5 x0 x1 x2 x3 (x4 + 1)) else (dp_om x3 (k5 x0 x1 x2 (some u4) (x4 + 1)) (fun u6 => (m_X1_doesLike h u4 u6).bind fun v7 => if v7 = 0 then (some 0) else (k5 x0 x1 x2 (some u6) (x4 + 1))))))
def m_X3_isSureBy_5 (h : dp_H)  : Nat → Nat → Nat → Int32 → Option Nat → Int32 → Option Int32
  | 0 => fun _ _ _ _ _ => none
  | n + 1 => fun x0 x1 x2 x3 x4 => b_X3_isSureBy_5 h (m_X3_isSureBy_5 h  n) x0 x1 x2 x3 x4
def m_X3_isSureBy (h : dp_H) (x0 : Nat) (x1 : Nat) (x2 : Int32) : Option Int32 := dp_ck h x0 3 (m_X3_isSureBy_5 h 64 x0 x1 x2 none 0)
abbrev rm_X3_sureFrom : Room := { frames := 4, cells := 0, slots := 0, locals := 90 }
def b_X3_sureFrom_2 (h : dp_H) (k2 : Nat → Nat → Int32 → Option Int32) (x0 : Nat) (x1 : Nat) (x2 : Int32) : Option Int32 := (m_X5_size h x1).bind fun v1 => if v1 < x2 then (some (-1)) else ((m_X3_isSureBy h x0 x1 x2).bind fun v2 => if v2 = 0 then (k2 x0 x1 (x2 + 1)) else (some x2))
def m_X3_sureFrom_2 (h : dp_H)  : Nat → Nat → Nat → Int32 → Option Int32
  | 0 => fun _ _ _ => none
  | n + 1 => fun x0 x1 x2 => b_X3_sureFrom_2 h (m_X3_sureFrom_2 h  n) x0 x1 x2
def m_X3_sureFrom (h : dp_H) (x0 : Nat) (x1 : Nat) : Option Int32 := dp_ck h x0 3 (m_X3_sureFrom_2 h 64 x0 x1 0)
abbrev rm_X3_isClash : Room := { frames := 4, cells := 0, slots := 0, locals := 86 }
def m_X3_isClash (h : dp_H) (x0 : Nat) (x1 : Int32) (x2 : Int32) : Option Int32 := dp_ck h x0 3 ((m_X3_at h x0 x1).bind fun v1 => (m_X3_at h x0 x2).bind fun v2 => dp_om v1 (some 0) (fun u3 => dp_om v2 (some 0) (fun u4 => (m_X1_clashesWith h u3 u4).bind fun v5 => if v5 = 0 then (some 0) else (some 1))))
abbrev rm_X3_clashes : Room := { frames := 5, cells := 0, slots := 0, locals := 110 }
def b_X3_clashes_16 (h : dp_H) (k4 : Nat → Int32 → Int32 → Option Int32) (k16 : Nat → Int32 → Int32 → Int32 → Option Int32) (x0 : Nat) (x1 : Int32) (x2 : Int32) (x3 : Int32) : Option Int32 := (dp_gi h x0 3 1).bind fun v1 => if v1 ≤ x3 then (k4 x0 x1 (x2 + 1)) else ((m_X3_isClash h x0 x2 x3).bind fun v2 => if v2 = 0 then (k16 x0 x1 x2 (x3 + 1)) else (k16 x0 (x1 + 1) x2 (x3 + 1)))
def m_X3_clashes_16 (h : dp_H) (k4 : Nat → Int32 → Int32 → Option Int32) : Nat → Nat → Int32 → Int32 → Int32 → Option Int32
  | 0 => fun _ _ _ _ => none
  | n + 1 => fun x0 x1 x2 x3 => b_X3_clashes_16 h k4 (m_X3_clashes_16 h k4 n) x0 x1 x2 x3
def b_X3_clashes_4 (h : dp_H) (k4 : Nat → Int32 → Int32 → Option Int32) (x0 : Nat) (x1 : Int32) (x2 : Int32) : Option Int32 := (dp_gi h x0 3 1).bind fun v1 => if v1 ≤ x2 then (some x1) else (m_X3_clashes_16 h k4 64 x0 x1 x2 (x2 + 1))
def m_X3_clashes_4 (h : dp_H)  : Nat → Nat → Int32 → Int32 → Option Int32
  | 0 => fun _ _ _ => none
  | n + 1 => fun x0 x1 x2 => b_X3_clashes_4 h (m_X3_clashes_4 h  n) x0 x1 x2
def m_X3_clashes (h : dp_H) (x0 : Nat) : Option Int32 := dp_ck h x0 3 (m_X3_clashes_4 h 64 x0 0 0)
abbrev rm_X4_init : Room := { frames := 2, cells := 4, slots := 164, locals := 42 }
def m_X4_init (h : dp_H) (x0 : Nat) : Option dp_H := dp_ck h x0 4 ((dp_nw h 5 bl_X5).bind fun h1 => (m_X5_init h1 (List.length h) 10).bind fun h2 => (dp_p h2 x0 4 0 (.inr (.inr (some (List.length h))))).bind fun h3 => (dp_nw h3 5 bl_X5).bind fun h4 => (m_X5_init h4 (List.length h3) 10).bind fun h5 => (dp_p h5 x0 4 1 (.inr (.inr (some (List.length h3))))).bind fun h6 => (dp_p h6 x0 4 2 (.inl (-1))).bind fun h7 => some h7)
abbrev rm_X4_way : Room := { frames := 0, cells := 0, slots := 0, locals := 0 }
def m_X4_way (h : dp_H) (x0 : Nat) : Option Int32 := dp_ck h x0 4 ((dp_gi h x0 4 2).bind fun v1 => some v1)
abbrev rm_X4_times : Room := { frames := 0, cells := 0, slots := 0, locals := 0 }
def m_X4_times (h : dp_H) (x0 : Nat) : Option Int32 := dp_ck h x0 4 ((dp_gi h x0 4 3).bind fun v1 => some v1)
abbrev rm_X4_result : Room := { frames := 0, cells := 0, slots := 0, locals := 0 }
def m_X4_result (h : dp_H) (x0 : Nat) : Option Nat := dp_ck h x0 4 ((dp_gr h x0 4 0).bind fun v1 => some v1)
abbrev rm_X4_rewrite : Room := { frames := 2, cells := 0, slots := 0, locals := 44 }
def b_X4_rewrite_18 (k18 : dp_H → Nat → Int32 → Int32 → Option (dp_H × Int32)) (h : dp_H) (x0 : Nat) (x2 : Int32) (x3 : Int32) : Option (dp_H × Int32) := (dp_gr h x0 4 0).bind fun v1 => (m_X5_size h v1).bind fun v2 => if v2 ≤ x3 then ((dp_gr h x0 4 0).bind fun v3 => (dp_gr h x0 4 1).bind fun v4 => (m_X5_copyFrom h v3 v4).bind fun h5 => if x2 = 0 then (some (h5, 0)) else ((dp_gr h5 x0 4 0).bind fun v6 => (m_X5_size h5 v6).bind fun v7 => if v7 ≤ 0 then (some (h5, 0)) else (some (h5, 1)))) else ((dp_gr h x0 4 1).bind fun v8 => (dp_gr h x0 4 0).bind fun v9 => (m_X5_at h v9 x3).bind fun v10 => dp_b2 (m_X5_append h v8 v10) fun h11 v12 => if v12 = 0 then (k18 h11 x0 0 (x3 + 1)) else (if x2 = 0 then (k18 h11 x0 0 (x3 + 1)) else (k18 h11 x0 1 (x3 + 1))))
def m_X4_rewrite_18  : Nat → dp_H → Nat → Int32 → Int32 → Option (dp_H × Int32)
  | 0 => fun _ _ _ _ => none
  | n + 1 => fun h x0 x2 x3 => b_X4_rewrite_18 (m_X4_rewrite_18  n) h x0 x2 x3
def m_X4_rewrite (h : dp_H) (x0 : Nat) (x1 : Nat) : Option (dp_H × Int32) := dp_ck h x0 4 ((dp_gr h x0 4 1).bind fun v1 => (m_X1_ahead h x1).bind fun v2 => (m_X5_copyFrom h v1 v2).bind fun h3 => (m_X1_dropped h3 x1).bind fun v4 => m_X4_rewrite_18 64 h3 x0 1 v4)
abbrev rm_X4_read : Room := { frames := 3, cells := 0, slots := 0, locals := 72 }
def b_X4_read_18 (k18 : dp_H → Nat → Nat → Option dp_H) (h : dp_H) (x0 : Nat) (x1 : Nat) : Option dp_H := (dp_gi h x0 4 3).bind fun v1 => if 6 ≤ v1 then ((dp_gr h x0 4 0).bind fun v2 => (m_X5_clear h v2).bind fun h3 => some h3) else ((dp_gi h x0 4 3).bind fun v4 => (dp_p h x0 4 3 (.inl (v4 + 1))).bind fun h5 => (dp_gr h5 x0 4 0).bind fun v6 => (m_X3_winner h5 x1 v6 0).bind fun v7 => (m_X3_at h5 x1 v7).bind fun v8 => dp_om v8 ((dp_gr h5 x0 4 0).bind fun v10 => (m_X5_clear h5 v10).bind fun h11 => some h11) (fun u9 => dp_b2 (m_X4_rewrite h5 x0 u9) fun h12 v13 => if v13 = 0 then ((dp_gr h12 x0 4 0).bind fun v17 => (m_X5_clear h12 v17).bind fun h18 => some h18) else ((m_X1_way h12 u9).bind fun v14 => if v14 = 10 then (k18 h12 x0 x1) else ((m_X1_way h12 u9).bind fun v15 => (dp_p h12 x0 4 2 (.inl v15)).bind fun h16 => some h16))))
def m_X4_read_18  : Nat → dp_H → Nat → Nat → Option dp_H
  | 0 => fun _ _ _ => none
  | n + 1 => fun h x0 x1 => b_X4_read_18 (m_X4_read_18  n) h x0 x1
def m_X4_read (h : dp_H) (x0 : Nat) (x1 : Nat) (x2 : Nat) : Option dp_H := dp_ck h x0 4 ((dp_gr h x0 4 0).bind fun v1 => (m_X5_copyFrom h v1 x2).bind fun h2 => (dp_p h2 x0 4 2 (.inl (-1))).bind fun h3 => (dp_p h3 x0 4 3 (.inl 0)).bind fun h4 => m_X4_read_18 64 h4 x0 x1)
abbrev rm_X5_asNumber : Room := { frames := 1, cells := 0, slots := 0, locals := 22 }
def b_X5_asNumber_4 (h : dp_H) (k4 : Nat → Int32 → Int32 → Option Int32) (x0 : Nat) (x1 : Int32) (x2 : Int32) : Option Int32 := (dp_gi h x0 5 1).bind fun v1 => if v1 ≤ x2 then (some x1) else ((m_X5_at h x0 x2).bind fun v2 => k4 x0 ((10 * x1) + v2) (x2 + 1))
def m_X5_asNumber_4 (h : dp_H)  : Nat → Nat → Int32 → Int32 → Option Int32
  | 0 => fun _ _ _ => none
  | n + 1 => fun x0 x1 x2 => b_X5_asNumber_4 h (m_X5_asNumber_4 h  n) x0 x1 x2
def m_X5_asNumber (h : dp_H) (x0 : Nat) : Option Int32 := dp_ck h x0 5 (m_X5_asNumber_4 h 64 x0 0 0)
abbrev rm_X6_init : Room := { frames := 4, cells := 341, slots := 16774, locals := 83 }
def m_X6_init (h : dp_H) (x0 : Nat) : Option dp_H := dp_ck h x0 6 ((dp_nw h 5 bl_X5).bind fun h1 => (m_X5_init h1 (List.length h) 52).bind fun h2 => (dp_p h2 x0 6 0 (.inr (.inr (some (List.length h))))).bind fun h3 => (dp_nw h3 2 bl_X2).bind fun h4 => (m_X2_init h4 (List.length h3)).bind fun h5 => (dp_p h5 x0 6 1 (.inr (.inr (some (List.length h3))))).bind fun h6 => (dp_nw h6 3 bl_X3).bind fun h7 => (m_X3_init h7 (List.length h6)).bind fun h8 => (dp_p h8 x0 6 2 (.inr (.inr (some (List.length h6))))).bind fun h9 => (dp_nw h9 5 bl_X5).bind fun h10 => (m_X5_init h10 (List.length h9) 10).bind fun h11 => (dp_p h11 x0 6 3 (.inr (.inr (some (List.length h9))))).bind fun h12 => (dp_nw h12 4 bl_X4).bind fun h13 => (m_X4_init h13 (List.length h12)).bind fun h14 => (dp_p h14 x0 6 4 (.inr (.inr (some (List.length h12))))).bind fun h15 => (dp_nw h15 0 bl_X0).bind fun h16 => (m_X0_init h16 (List.length h15)).bind fun h17 => (dp_p h17 x0 6 5 (.inr (.inr (some (List.length h15))))).bind fun h18 => some h18)
abbrev rm_X6_letter : Room := { frames := 1, cells := 0, slots := 0, locals := 21 }
def m_X6_letter (h : dp_H) (x0 : Nat) (x1 : Int32) : Option (dp_H × Int32) := dp_ck h x0 6 (if x1 < 32 then (some (h, (-1002))) else (if x1 ≤ 126 then ((dp_gr h x0 6 0).bind fun v1 => dp_b2 (m_X5_append h v1 x1) fun h2 v3 => if v3 = 0 then (some (h2, (-1004))) else ((dp_gr h2 x0 6 0).bind fun v4 => (m_X5_size h2 v4).bind fun v5 => some (h2, v5))) else (some (h, (-1002)))))
abbrev rm_X6_blank : Room := { frames := 1, cells := 0, slots := 0, locals := 20 }
def m_X6_blank (h : dp_H) (x0 : Nat) : Option (dp_H × Int32) := dp_ck h x0 6 ((dp_gr h x0 6 0).bind fun v1 => (m_X5_size h v1).bind fun v2 => (dp_gr h x0 6 0).bind fun v3 => (m_X5_clear h v3).bind fun h4 => some (h4, v2))
abbrev rm_X6_fault : Room := { frames := 6, cells := 0, slots := 0, locals := 130 }
def m_X6_fault (h : dp_H) (x0 : Nat) : Option (dp_H × Int32) := dp_ck h x0 6 ((dp_gr h x0 6 1).bind fun v1 => (dp_gr h x0 6 0).bind fun v2 => dp_b2 (m_X2_scan h v1 v2) fun h3 v4 => some (h3, v4))
abbrev rm_X6_add : Room := { frames := 6, cells := 0, slots := 0, locals := 130 }
def b_X6_add_36  (h : dp_H) (x0 : Nat) (y0 : Int32) : Option (dp_H × Int32) := if y0 = 0 then (some (h, (-1003))) else ((dp_gr h x0 6 5).bind fun v1 => (m_X0_isUp h v1).bind fun v2 => if v2 = 0 then ((dp_gr h x0 6 2).bind fun v3 => (dp_gr h x0 6 1).bind fun v4 => (m_X2_draft h v4).bind fun v5 => dp_b2 (m_X3_append h v3 v5) fun h6 v7 => if v7 = 0 then (some (h6, (-1004))) else ((dp_gr h6 x0 6 0).bind fun v8 => (m_X5_clear h6 v8).bind fun h9 => (dp_gr h9 x0 6 2).bind fun v10 => (m_X3_size h9 v10).bind fun v11 => some (h9, (v11 - 1)))) else (some (h, (-1003))))
def m_X6_add (h : dp_H) (x0 : Nat) : Option (dp_H × Int32) := dp_ck h x0 6 ((dp_gr h x0 6 1).bind fun v1 => (dp_gr h x0 6 0).bind fun v2 => dp_b2 (m_X2_scan h v1 v2) fun h3 v4 => (dp_gr h3 x0 6 0).bind fun v5 => (m_X5_size h3 v5).bind fun v6 => if v4 = v6 then ((dp_gr h3 x0 6 1).bind fun v7 => (m_X2_isWhole h3 v7).bind fun v8 => if v8 = 0 then (b_X6_add_36 h3 x0 0) else (b_X6_add_36 h3 x0 1)) else (b_X6_add_36 h3 x0 0))
abbrev rm_X6_drop : Room := { frames := 1, cells := 0, slots := 0, locals := 23 }
def m_X6_drop (h : dp_H) (x0 : Nat) (x1 : Int32) : Option (dp_H × Int32) := dp_ck h x0 6 ((dp_gr h x0 6 2).bind fun v1 => (m_X3_at h v1 x1).bind fun v2 => dp_om v2 (some (h, (-1001))) (fun u3 => (dp_gr h x0 6 5).bind fun v4 => (m_X0_isUp h v4).bind fun v5 => if v5 = 0 then ((dp_gr h x0 6 2).bind fun v6 => (m_X3_remove h v6 x1).bind fun h7 => (dp_gr h7 x0 6 2).bind fun v8 => (m_X3_size h7 v8).bind fun v9 => some (h7, v9)) else (some (h, (-1003)))))
abbrev rm_X6_pattern : Room := { frames := 2, cells := 0, slots := 0, locals := 44 }
def m_X6_pattern (h : dp_H) (x0 : Nat) (x1 : Int32) (x2 : Int32) : Option Int32 := dp_ck h x0 6 ((dp_gr h x0 6 2).bind fun v1 => (m_X3_at h v1 x1).bind fun v2 => dp_om v2 (some (-1001)) (fun u3 => if x2 = 0 then ((m_X1_places h u3).bind fun v4 => some v4) else if x2 = 1 then ((m_X1_isOpen h u3).bind fun v5 => if v5 = 0 then (some 0) else (some 1)) else if x2 = 2 then ((m_X1_way h u3).bind fun v6 => some v6) else if x2 = 3 then ((m_X1_dropped h u3).bind fun v7 => some v7) else if x2 = 4 then ((m_X1_ahead h u3).bind fun v8 => (m_X5_size h v8).bind fun v9 => some v9) else if x2 = 5 then ((m_X1_ahead h u3).bind fun v10 => (m_X5_asNumber h v10).bind fun v11 => some v11) else (some (-1002))))
abbrev rm_X6_lets : Room := { frames := 1, cells := 0, slots := 0, locals := 22 }
def m_X6_lets (h : dp_H) (x0 : Nat) (x1 : Int32) (x2 : Int32) : Option Int32 := dp_ck h x0 6 ((dp_gr h x0 6 2).bind fun v1 => (m_X3_at h v1 x1).bind fun v2 => dp_om v2 (some (-1001)) (fun u3 => if x2 < 0 then (some (-1002)) else (if x2 < 10 then ((m_X1_digitsAt h u3 x2).bind fun v4 => some v4) else (some (-1002)))))
abbrev rm_X6_narrower : Room := { frames := 1, cells := 0, slots := 0, locals := 22 }
def m_X6_narrower (h : dp_H) (x0 : Nat) (x1 : Int32) (x2 : Int32) : Option Int32 := dp_ck h x0 6 ((dp_gr h x0 6 2).bind fun v1 => (m_X3_at h v1 x1).bind fun v2 => (dp_gr h x0 6 2).bind fun v3 => (m_X3_at h v3 x2).bind fun v4 => dp_om v2 (some (-1001)) (fun u5 => dp_om v4 (some (-1001)) (fun u6 => (m_X1_isNarrowerThan h u5 u6).bind fun v7 => if v7 = 0 then ((m_X1_isNarrowerThan h u6 u5).bind fun v8 => if v8 = 0 then (some 2) else (some 1)) else (some 0))))
abbrev rm_X6_clash : Room := { frames := 5, cells := 0, slots := 0, locals := 110 }
def b_X6_clash_24 (h : dp_H) (k4 : Nat → Int32 → Int32 → Option Int32) (k24 : Nat → Int32 → Int32 → Int32 → Option Int32) (x0 : Nat) (x2 : Int32) (x3 : Int32) (x4 : Int32) : Option Int32 := (dp_gr h x0 6 2).bind fun v1 => (m_X3_size h v1).bind fun v2 => if v2 ≤ x4 then (k4 x0 x2 (x3 + 1)) else ((dp_gr h x0 6 2).bind fun v3 => (m_X3_isClash h v3 x3 x4).bind fun v4 => if v4 = 0 then (k24 x0 x2 x3 (x4 + 1)) else (if x2 = 0 then (some ((16 * x3) + x4)) else (k24 x0 (x2 + (-1)) x3 (x4 + 1))))
def m_X6_clash_24 (h : dp_H) (k4 : Nat → Int32 → Int32 → Option Int32) : Nat → Nat → Int32 → Int32 → Int32 → Option Int32
  | 0 => fun _ _ _ _ => none
  | n + 1 => fun x0 x2 x3 x4 => b_X6_clash_24 h k4 (m_X6_clash_24 h k4 n) x0 x2 x3 x4
def b_X6_clash_4 (h : dp_H) (k4 : Nat → Int32 → Int32 → Option Int32) (x0 : Nat) (x2 : Int32) (x3 : Int32) : Option Int32 := (dp_gr h x0 6 2).bind fun v1 => (m_X3_size h v1).bind fun v2 => if v2 ≤ x3 then (some (-1001)) else (if x2 < 0 then (some (-1001)) else (m_X6_clash_24 h k4 64 x0 x2 x3 (x3 + 1)))
def m_X6_clash_4 (h : dp_H)  : Nat → Nat → Int32 → Int32 → Option Int32
  | 0 => fun _ _ _ => none
  | n + 1 => fun x0 x2 x3 => b_X6_clash_4 h (m_X6_clash_4 h  n) x0 x2 x3
def m_X6_clash (h : dp_H) (x0 : Nat) (x1 : Int32) : Option Int32 := dp_ck h x0 6 (m_X6_clash_4 h 64 x0 x1 0)
abbrev rm_X6_readsPageAsRow : Room := { frames := 1, cells := 0, slots := 0, locals := 22 }
def b_X6_readsPageAsRow_9 (k9 : dp_H → Nat → Int32 → Option (dp_H × Int32)) (h : dp_H) (x0 : Nat) (x1 : Int32) : Option (dp_H × Int32) := (dp_gr h x0 6 0).bind fun v1 => (m_X5_size h v1).bind fun v2 => if v2 ≤ x1 then ((dp_gr h x0 6 0).bind fun v3 => (m_X5_size h v3).bind fun v4 => if v4 ≤ 0 then (some (h, 0)) else (some (h, 1))) else ((dp_gr h x0 6 0).bind fun v5 => (m_X5_at h v5 x1).bind fun v6 => (m_X6_isFigure h v6).bind fun v7 => if v7 = 0 then (some (h, 0)) else ((dp_gr h x0 6 3).bind fun v8 => (dp_gr h x0 6 0).bind fun v9 => (m_X5_at h v9 x1).bind fun v10 => dp_b2 (m_X5_append h v8 (v10 - 48)) fun h11 v12 => if v12 = 0 then (some (h11, 0)) else (k9 h11 x0 (x1 + 1))))
def m_X6_readsPageAsRow_9  : Nat → dp_H → Nat → Int32 → Option (dp_H × Int32)
  | 0 => fun _ _ _ => none
  | n + 1 => fun h x0 x1 => b_X6_readsPageAsRow_9 (m_X6_readsPageAsRow_9  n) h x0 x1
def m_X6_readsPageAsRow (h : dp_H) (x0 : Nat) : Option (dp_H × Int32) := dp_ck h x0 6 ((dp_gr h x0 6 3).bind fun v1 => (m_X5_clear h v1).bind fun h2 => m_X6_readsPageAsRow_9 64 h2 x0 0)
abbrev rm_X6_row : Room := { frames := 4, cells := 0, slots := 0, locals := 95 }
def b_X6_row_35  (h : dp_H) (x0 : Nat) (x1 : Int32) : Option (dp_H × Int32) := dp_b2 (m_X6_readsPageAsRow h x0) fun h1 v2 => if v2 = 0 then (some (h1, (-1003))) else (if x1 = 0 then ((dp_gr h1 x0 6 2).bind fun v3 => (dp_gr h1 x0 6 3).bind fun v4 => (m_X3_winner h1 v3 v4 0).bind fun v5 => some (h1, v5)) else if x1 = 1 then ((dp_gr h1 x0 6 2).bind fun v6 => (dp_gr h1 x0 6 3).bind fun v7 => (m_X3_reached h1 v6 v7 1).bind fun v8 => some (h1, v8)) else if x1 = 2 then ((dp_gr h1 x0 6 2).bind fun v9 => (dp_gr h1 x0 6 3).bind fun v10 => (m_X3_reached h1 v9 v10 2).bind fun v11 => some (h1, v11)) else ((dp_gr h1 x0 6 4).bind fun v12 => (dp_gr h1 x0 6 2).bind fun v13 => (dp_gr h1 x0 6 3).bind fun v14 => (m_X4_read h1 v12 v13 v14).bind fun h15 => if x1 = 3 then ((dp_gr h15 x0 6 4).bind fun v16 => (m_X4_way h15 v16).bind fun v17 => some (h15, v17)) else if x1 = 4 then ((dp_gr h15 x0 6 4).bind fun v18 => (m_X4_times h15 v18).bind fun v19 => some (h15, v19)) else if x1 = 5 then ((dp_gr h15 x0 6 4).bind fun v20 => (m_X4_result h15 v20).bind fun v21 => (m_X5_size h15 v21).bind fun v22 => some (h15, v22)) else ((dp_gr h15 x0 6 4).bind fun v23 => (m_X4_result h15 v23).bind fun v24 => (m_X5_at h15 v24 (x1 - 10)).bind fun v25 => some (h15, v25))))
def b_X6_row_16  (h : dp_H) (x0 : Nat) (x1 : Int32) : Option (dp_H × Int32) := if x1 < 0 then (some (h, (-1002))) else (if x1 ≤ 5 then (b_X6_row_35 h x0 x1) else (some (h, (-1002))))
def m_X6_row (h : dp_H) (x0 : Nat) (x1 : Int32) : Option (dp_H × Int32) := dp_ck h x0 6 (if x1 < 10 then (b_X6_row_16 h x0 x1) else (if 20 ≤ x1 then (b_X6_row_16 h x0 x1) else (b_X6_row_35 h x0 x1)))
abbrev rm_X6_stage : Room := { frames := 1, cells := 0, slots := 0, locals := 22 }
def m_X6_stage (h : dp_H) (x0 : Nat) (x1 : Int32) (x2 : Int32) : Option (dp_H × Int32) := dp_ck h x0 6 (if x1 < 0 then (some (h, (-1002))) else (if 3 ≤ x1 then (some (h, (-1002))) else (if x2 < 1 then (some (h, (-1002))) else (if x2 ≤ 99 then ((dp_gr h x0 6 5).bind fun v1 => (m_X0_ticksOf h v1 x1).bind fun v2 => (dp_gr h x0 6 5).bind fun v3 => (m_X0_setTicks h v3 x1 x2).bind fun h4 => some (h4, v2)) else (some (h, (-1002)))))))
abbrev rm_X6_lift : Room := { frames := 6, cells := 0, slots := 0, locals := 134 }
def m_X6_lift (h : dp_H) (x0 : Nat) : Option (dp_H × Int32) := dp_ck h x0 6 ((dp_gr h x0 6 5).bind fun v1 => (m_X0_isUp h v1).bind fun v2 => if v2 = 0 then ((dp_gr h x0 6 5).bind fun v3 => (dp_gr h x0 6 2).bind fun v4 => (m_X0_putUp h v3 v4).bind fun h5 => (dp_gr h5 x0 6 5).bind fun v6 => (m_X0_ticksLeft h5 v6).bind fun v7 => some (h5, v7)) else (some (h, (-1003))))
abbrev rm_X6_hang : Room := { frames := 2, cells := 0, slots := 0, locals := 40 }
def m_X6_hang (h : dp_H) (x0 : Nat) : Option (dp_H × Int32) := dp_ck h x0 6 ((dp_gr h x0 6 5).bind fun v1 => (m_X0_isUp h v1).bind fun v2 => if v2 = 0 then (some (h, (-1003))) else ((dp_gr h x0 6 5).bind fun v3 => (m_X0_dialled h v3).bind fun v4 => (m_X5_size h v4).bind fun v5 => (dp_gr h x0 6 5).bind fun v6 => (m_X0_putDown h v6).bind fun h7 => some (h7, v5)))
abbrev rm_X6_press : Room := { frames := 6, cells := 0, slots := 0, locals := 137 }
def m_X6_press (h : dp_H) (x0 : Nat) (x1 : Int32) : Option (dp_H × Int32) := dp_ck h x0 6 (if x1 < 0 then (some (h, (-1002))) else (if x1 ≤ 9 then ((dp_gr h x0 6 5).bind fun v1 => (m_X0_isWaiting h v1).bind fun v2 => if v2 = 0 then (some (h, (-1003))) else ((dp_gr h x0 6 5).bind fun v3 => (dp_gr h x0 6 2).bind fun v4 => (m_X0_take h v3 x1 v4).bind fun h5 => (dp_gr h5 x0 6 5).bind fun v6 => (m_X0_state h5 v6).bind fun v7 => some (h5, v7))) else (some (h, (-1002)))))
abbrev rm_X6_pass : Room := { frames := 5, cells := 0, slots := 0, locals := 115 }
def m_X6_pass (h : dp_H) (x0 : Nat) (x1 : Int32) : Option (dp_H × Int32) := dp_ck h x0 6 (if x1 < 1 then (some (h, (-1002))) else (if x1 ≤ 99 then ((dp_gr h x0 6 5).bind fun v1 => (m_X0_isWaiting h v1).bind fun v2 => if v2 = 0 then (some (h, (-1003))) else ((dp_gr h x0 6 5).bind fun v3 => (dp_gr h x0 6 2).bind fun v4 => (m_X0_letTicksGo h v3 x1 v4).bind fun h5 => (dp_gr h5 x0 6 5).bind fun v6 => (m_X0_state h5 v6).bind fun v7 => some (h5, v7))) else (some (h, (-1002)))))
abbrev rm_X6_end : Room := { frames := 4, cells := 0, slots := 0, locals := 93 }
def m_X6_end (h : dp_H) (x0 : Nat) : Option (dp_H × Int32) := dp_ck h x0 6 ((dp_gr h x0 6 5).bind fun v1 => (m_X0_isWaiting h v1).bind fun v2 => if v2 = 0 then (some (h, (-1003))) else ((dp_gr h x0 6 5).bind fun v3 => (dp_gr h x0 6 2).bind fun v4 => (m_X0_settle h v3 3 v4).bind fun h5 => (dp_gr h5 x0 6 5).bind fun v6 => (m_X0_state h5 v6).bind fun v7 => some (h5, v7)))
abbrev rm_X6_wayOfTheLine : Room := { frames := 4, cells := 0, slots := 0, locals := 95 }
def m_X6_wayOfTheLine (h : dp_H) (x0 : Nat) : Option (dp_H × Int32) := dp_ck h x0 6 ((dp_gr h x0 6 5).bind fun v1 => (m_X0_state h v1).bind fun v2 => if v2 = 2 then ((dp_gr h x0 6 5).bind fun v3 => (m_X0_ended h v3).bind fun v4 => if v4 = 4 then (some (h, 9)) else ((dp_gr h x0 6 4).bind fun v5 => (dp_gr h x0 6 2).bind fun v6 => (dp_gr h x0 6 5).bind fun v7 => (m_X0_dialled h v7).bind fun v8 => (m_X4_read h v5 v6 v8).bind fun h9 => (dp_gr h9 x0 6 4).bind fun v10 => (m_X4_way h9 v10).bind fun v11 => some (h9, v11))) else (some (h, (-1))))
abbrev rm_X6_line : Room := { frames := 5, cells := 0, slots := 0, locals := 115 }
def b_X6_line_27  (h : dp_H) (x0 : Nat) (x1 : Int32) : Option (dp_H × Int32) := if x1 = 0 then ((dp_gr h x0 6 5).bind fun v1 => (m_X0_state h v1).bind fun v2 => some (h, v2)) else if x1 = 1 then ((dp_gr h x0 6 5).bind fun v3 => (m_X0_dialled h v3).bind fun v4 => (m_X5_size h v4).bind fun v5 => some (h, v5)) else if x1 = 2 then ((dp_gr h x0 6 5).bind fun v6 => (m_X0_ticksLeft h v6).bind fun v7 => some (h, v7)) else if x1 = 3 then ((dp_gr h x0 6 5).bind fun v8 => (m_X0_isWaiting h v8).bind fun v9 => if v9 = 0 then (some (h, (-1))) else ((dp_gr h x0 6 5).bind fun v10 => (dp_gr h x0 6 2).bind fun v11 => (m_X0_currentStage h v10 v11).bind fun v12 => some (h, v12))) else if x1 = 4 then ((dp_gr h x0 6 5).bind fun v13 => (dp_gr h x0 6 2).bind fun v14 => (m_X0_winner h v13 v14).bind fun v15 => some (h, v15)) else if x1 = 5 then ((dp_gr h x0 6 2).bind fun v16 => (dp_gr h x0 6 5).bind fun v17 => (m_X0_dialled h v17).bind fun v18 => (m_X3_sureFrom h v16 v18).bind fun v19 => some (h, v19)) else if x1 = 6 then ((dp_gr h x0 6 5).bind fun v20 => (m_X0_ended h v20).bind fun v21 => some (h, v21)) else if x1 = 7 then (dp_b2 (m_X6_wayOfTheLine h x0) fun h22 v23 => some (h22, v23)) else (some (h, (-1002)))
def m_X6_line (h : dp_H) (x0 : Nat) (x1 : Int32) : Option (dp_H × Int32) := dp_ck h x0 6 (if x1 < 10 then (b_X6_line_27 h x0 x1) else (if 20 ≤ x1 then (b_X6_line_27 h x0 x1) else ((dp_gr h x0 6 5).bind fun v1 => (m_X0_dialled h v1).bind fun v2 => (m_X5_at h v2 (x1 - 10)).bind fun v3 => some (h, v3))))
abbrev rm_X6_count : Room := { frames := 6, cells := 0, slots := 0, locals := 133 }
def m_X6_count (h : dp_H) (x0 : Nat) (x1 : Int32) : Option Int32 := dp_ck h x0 6 (if x1 = 0 then ((dp_gr h x0 6 2).bind fun v1 => (m_X3_size h v1).bind fun v2 => some v2) else if x1 = 1 then ((dp_gr h x0 6 0).bind fun v3 => (m_X5_size h v3).bind fun v4 => some v4) else if x1 = 2 then ((dp_gr h x0 6 2).bind fun v5 => (m_X3_clashes h v5).bind fun v6 => some v6) else if x1 = 3 then ((dp_gr h x0 6 5).bind fun v7 => (m_X0_ticksOf h v7 0).bind fun v8 => some v8) else if x1 = 4 then ((dp_gr h x0 6 5).bind fun v9 => (m_X0_ticksOf h v9 1).bind fun v10 => some v10) else if x1 = 5 then ((dp_gr h x0 6 5).bind fun v11 => (m_X0_ticksOf h v11 2).bind fun v12 => some v12) else if x1 = 6 then ((dp_gr h x0 6 5).bind fun v13 => (m_X0_timesLifted h v13).bind fun v14 => some v14) else if x1 = 7 then ((dp_gr h x0 6 5).bind fun v15 => (m_X0_timesReady h v15).bind fun v16 => some v16) else if x1 = 8 then ((dp_gr h x0 6 5).bind fun v17 => (m_X0_timesLost h v17).bind fun v18 => some v18) else if x1 = 9 then ((dp_gr h x0 6 5).bind fun v19 => (m_X0_digitsEver h v19).bind fun v20 => some v20) else (some (-1002)))
abbrev rm_X6_digestOfPatterns : Room := { frames := 3, cells := 0, slots := 0, locals := 67 }
def b_X6_digestOfPatterns_52 (h : dp_H) (k5 : Nat → Int64 → Int32 → Option Int64) (k52 : Nat → Int64 → Int32 → Int32 → Option Int64) (x0 : Nat) (x3 : Int64) (x5 : Int32) (x6 : Int32) : Option Int64 := if 10 ≤ x6 then (k5 x0 x3 (x5 + 1)) else ((m_X6_lets h x0 x5 x6).bind fun v1 => k52 x0 ((31 * x3) + (Int32.toInt64 v1)) x5 (x6 + 1))
def m_X6_digestOfPatterns_52 (h : dp_H) (k5 : Nat → Int64 → Int32 → Option Int64) : Nat → Nat → Int64 → Int32 → Int32 → Option Int64
  | 0 => fun _ _ _ _ => none
  | n + 1 => fun x0 x3 x5 x6 => b_X6_digestOfPatterns_52 h k5 (m_X6_digestOfPatterns_52 h k5 n) x0 x3 x5 x6
def b_X6_digestOfPatterns_20 (h : dp_H) (k5 : Nat → Int64 → Int32 → Option Int64) (k20 : Nat → Int64 → Int32 → Int32 → Option Int64) (x0 : Nat) (x3 : Int64) (x5 : Int32) (x6 : Int32) : Option Int64 := if 6 ≤ x6 then (m_X6_digestOfPatterns_52 h k5 64 x0 x3 x5 0) else ((m_X6_pattern h x0 x5 x6).bind fun v1 => k20 x0 ((31 * x3) + (Int32.toInt64 v1)) x5 (x6 + 1))
def m_X6_digestOfPatterns_20 (h : dp_H) (k5 : Nat → Int64 → Int32 → Option Int64) : Nat → Nat → Int64 → Int32 → Int32 → Option Int64
  | 0 => fun _ _ _ _ => none
  | n + 1 => fun x0 x3 x5 x6 => b_X6_digestOfPatterns_20 h k5 (m_X6_digestOfPatterns_20 h k5 n) x0 x3 x5 x6
def b_X6_digestOfPatterns_5 (h : dp_H) (k5 : Nat → Int64 → Int32 → Option Int64) (x0 : Nat) (x3 : Int64) (x5 : Int32) : Option Int64 := (dp_gr h x0 6 2).bind fun v1 => (m_X3_size h v1).bind fun v2 => if v2 ≤ x5 then (some x3) else (m_X6_digestOfPatterns_20 h k5 64 x0 x3 x5 0)
def m_X6_digestOfPatterns_5 (h : dp_H)  : Nat → Nat → Int64 → Int32 → Option Int64
  | 0 => fun _ _ _ => none
  | n + 1 => fun x0 x3 x5 => b_X6_digestOfPatterns_5 h (m_X6_digestOfPatterns_5 h  n) x0 x3 x5
def m_X6_digestOfPatterns (h : dp_H) (x0 : Nat) (x1 : Int64) : Option Int64 := dp_ck h x0 6 (m_X6_digestOfPatterns_5 h 64 x0 x1 0)
abbrev rm_X6_digestOfClashes : Room := { frames := 5, cells := 0, slots := 0, locals := 110 }
def b_X6_digestOfClashes_23 (h : dp_H) (k5 : Nat → Int64 → Int32 → Option Int64) (k23 : Nat → Int64 → Int32 → Int32 → Option Int64) (x0 : Nat) (x3 : Int64) (x5 : Int32) (x6 : Int32) : Option Int64 := (dp_gr h x0 6 2).bind fun v1 => (m_X3_size h v1).bind fun v2 => if v2 ≤ x6 then (k5 x0 x3 (x5 + 1)) else ((dp_gr h x0 6 2).bind fun v3 => (m_X3_isClash h v3 x5 x6).bind fun v4 => if v4 = 0 then (k23 x0 x3 x5 (x6 + 1)) else (k23 x0 ((31 * x3) + (Int32.toInt64 ((16 * x5) + x6))) x5 (x6 + 1)))
def m_X6_digestOfClashes_23 (h : dp_H) (k5 : Nat → Int64 → Int32 → Option Int64) : Nat → Nat → Int64 → Int32 → Int32 → Option Int64
  | 0 => fun _ _ _ _ => none
  | n + 1 => fun x0 x3 x5 x6 => b_X6_digestOfClashes_23 h k5 (m_X6_digestOfClashes_23 h k5 n) x0 x3 x5 x6
def b_X6_digestOfClashes_5 (h : dp_H) (k5 : Nat → Int64 → Int32 → Option Int64) (x0 : Nat) (x3 : Int64) (x5 : Int32) : Option Int64 := (dp_gr h x0 6 2).bind fun v1 => (m_X3_size h v1).bind fun v2 => if v2 ≤ x5 then (some x3) else (m_X6_digestOfClashes_23 h k5 64 x0 x3 x5 (x5 + 1))
def m_X6_digestOfClashes_5 (h : dp_H)  : Nat → Nat → Int64 → Int32 → Option Int64
  | 0 => fun _ _ _ => none
  | n + 1 => fun x0 x3 x5 => b_X6_digestOfClashes_5 h (m_X6_digestOfClashes_5 h  n) x0 x3 x5
def m_X6_digestOfClashes (h : dp_H) (x0 : Nat) (x1 : Int64) : Option Int64 := dp_ck h x0 6 (m_X6_digestOfClashes_5 h 64 x0 x1 0)
abbrev rm_X6_digest : Room := { frames := 7, cells := 0, slots := 0, locals := 154 }
def b_X6_digest_108 (k108 : dp_H → Nat → Int64 → Int32 → Option (dp_H × Int64)) (h : dp_H) (x0 : Nat) (x1 : Int64) (x3 : Int32) : Option (dp_H × Int64) := if 10 ≤ x3 then (some (h, x1)) else ((m_X6_count h x0 x3).bind fun v1 => k108 h x0 ((31 * x1) + (Int32.toInt64 v1)) (x3 + 1))
def m_X6_digest_108  : Nat → dp_H → Nat → Int64 → Int32 → Option (dp_H × Int64)
  | 0 => fun _ _ _ _ => none
  | n + 1 => fun h x0 x1 x3 => b_X6_digest_108 (m_X6_digest_108  n) h x0 x1 x3
def b_X6_digest_73 (k73 : dp_H → Nat → Int64 → Int32 → Option (dp_H × Int64)) (h : dp_H) (x0 : Nat) (x1 : Int64) (x3 : Int32) : Option (dp_H × Int64) := (dp_gr h x0 6 0).bind fun v1 => (m_X5_size h v1).bind fun v2 => if v2 ≤ x3 then (m_X6_digest_108 64 h x0 x1 0) else ((dp_gr h x0 6 0).bind fun v3 => (m_X5_at h v3 x3).bind fun v4 => k73 h x0 ((31 * x1) + (Int32.toInt64 v4)) (x3 + 1))
def m_X6_digest_73  : Nat → dp_H → Nat → Int64 → Int32 → Option (dp_H × Int64)
  | 0 => fun _ _ _ _ => none
  | n + 1 => fun h x0 x1 x3 => b_X6_digest_73 (m_X6_digest_73  n) h x0 x1 x3
def b_X6_digest_43 (k43 : dp_H → Nat → Int64 → Int32 → Option (dp_H × Int64)) (h : dp_H) (x0 : Nat) (x1 : Int64) (x3 : Int32) : Option (dp_H × Int64) := if 10 ≤ x3 then (m_X6_digest_73 64 h x0 x1 0) else (dp_b2 (m_X6_line h x0 (10 + x3)) fun h1 v2 => k43 h1 x0 ((31 * x1) + (Int32.toInt64 v2)) (x3 + 1))
def m_X6_digest_43  : Nat → dp_H → Nat → Int64 → Int32 → Option (dp_H × Int64)
  | 0 => fun _ _ _ _ => none
  | n + 1 => fun h x0 x1 x3 => b_X6_digest_43 (m_X6_digest_43  n) h x0 x1 x3
def b_X6_digest_16 (k16 : dp_H → Nat → Int64 → Int32 → Option (dp_H × Int64)) (h : dp_H) (x0 : Nat) (x1 : Int64) (x3 : Int32) : Option (dp_H × Int64) := if 8 ≤ x3 then (m_X6_digest_43 64 h x0 x1 0) else (dp_b2 (m_X6_line h x0 x3) fun h1 v2 => k16 h1 x0 ((31 * x1) + (Int32.toInt64 v2)) (x3 + 1))
def m_X6_digest_16  : Nat → dp_H → Nat → Int64 → Int32 → Option (dp_H × Int64)
  | 0 => fun _ _ _ _ => none
  | n + 1 => fun h x0 x1 x3 => b_X6_digest_16 (m_X6_digest_16  n) h x0 x1 x3
def m_X6_digest (h : dp_H) (x0 : Nat) : Option (dp_H × Int64) := dp_ck h x0 6 ((m_X6_digestOfPatterns h x0 1669).bind fun v1 => (m_X6_digestOfClashes h x0 v1).bind fun v2 => m_X6_digest_16 64 h x0 v2 0)
abbrev rm_X7_init : Room := { frames := 1, cells := 13, slots := 1040, locals := 20 }
def m_X7_init (h : dp_H) (x0 : Nat) : Option dp_H := dp_ck h x0 7 ((dp_na false h 52).bind fun h1 => (dp_p h1 x0 7 1 (.inr (.inr (some (List.length h))))).bind fun h2 => (dp_na false h2 10).bind fun h3 => (dp_p h3 x0 7 3 (.inr (.inr (some (List.length h2))))).bind fun h4 => (dp_na true h4 10).bind fun h5 => (dp_p h5 x0 7 4 (.inr (.inr (some (List.length h4))))).bind fun h6 => (dp_na false h6 80).bind fun h7 => (dp_p h7 x0 7 5 (.inr (.inr (some (List.length h6))))).bind fun h8 => (dp_na false h8 10).bind fun h9 => (dp_p h9 x0 7 6 (.inr (.inr (some (List.length h8))))).bind fun h10 => (dp_na false h10 10).bind fun h11 => (dp_p h11 x0 7 7 (.inr (.inr (some (List.length h10))))).bind fun h12 => (dp_na false h12 10).bind fun h13 => (dp_p h13 x0 7 8 (.inr (.inr (some (List.length h12))))).bind fun h14 => (dp_na false h14 40).bind fun h15 => (dp_p h15 x0 7 9 (.inr (.inr (some (List.length h14))))).bind fun h16 => (dp_na false h16 3).bind fun h17 => (dp_p h17 x0 7 10 (.inr (.inr (some (List.length h16))))).bind fun h18 => (dp_na false h18 8).bind fun h19 => (dp_p h19 x0 7 18 (.inr (.inr (some (List.length h18))))).bind fun h20 => (dp_na false h20 4).bind fun h21 => (dp_p h21 x0 7 23 (.inr (.inr (some (List.length h20))))).bind fun h22 => (dp_na false h22 14).bind fun h23 => (dp_p h23 x0 7 25 (.inr (.inr (some (List.length h22))))).bind fun h24 => (dp_na false h24 10).bind fun h25 => (dp_p h25 x0 7 29 (.inr (.inr (some (List.length h24))))).bind fun h26 => (dp_gr h26 x0 7 10).bind fun v27 => (dp_si false h26 v27 0 15).bind fun h28 => (dp_gr h28 x0 7 10).bind fun v29 => (dp_si false h28 v29 1 8).bind fun h30 => (dp_gr h30 x0 7 10).bind fun v31 => (dp_si false h30 v31 2 4).bind fun h32 => some h32)
abbrev rm_X7_within : Room := { frames := 0, cells := 0, slots := 0, locals := 0 }
def m_X7_within (h : dp_H) (x0 : Int32) (x1 : Int32) (x2 : Int32) : Option Int32 := if x0 < x1 then (some 0) else (if x2 < x0 then (some 0) else (some 1))
abbrev rm_X7_ones : Room := { frames := 0, cells := 0, slots := 0, locals := 0 }
def b_X7_ones_4 (h : dp_H) (k4 : Int32 → Int32 → Int32 → Option Int32) (x0 : Int32) (x1 : Int32) (x2 : Int32) : Option Int32 := if 10 ≤ x2 then (some x1) else (k4 x0 (x1 + ((x0 >>> (x2 &&& 31)) &&& 1)) (x2 + 1))
def m_X7_ones_4 (h : dp_H)  : Nat → Int32 → Int32 → Int32 → Option Int32
  | 0 => fun _ _ _ => none
  | n + 1 => fun x0 x1 x2 => b_X7_ones_4 h (m_X7_ones_4 h  n) x0 x1 x2
def m_X7_ones (h : dp_H) (x0 : Int32) : Option Int32 := m_X7_ones_4 h 64 x0 0 0
abbrev rm_X7_letter : Room := { frames := 1, cells := 0, slots := 0, locals := 22 }
def m_X7_letter (h : dp_H) (x0 : Nat) (x1 : Int32) : Option (dp_H × Int32) := dp_ck h x0 7 ((m_X7_within h x1 32 126).bind fun v1 => if v1 = 0 then (some (h, (-1002))) else ((dp_gi h x0 7 0).bind fun v2 => if v2 = 52 then (some (h, (-1004))) else ((dp_gr h x0 7 1).bind fun v3 => (dp_gi h x0 7 0).bind fun v4 => (dp_si false h v3 v4 x1).bind fun h5 => (dp_gi h5 x0 7 0).bind fun v6 => (dp_p h5 x0 7 0 (.inl (v6 + 1))).bind fun h7 => (dp_gi h7 x0 7 0).bind fun v8 => some (h7, v8))))
abbrev rm_X7_blank : Room := { frames := 0, cells := 0, slots := 0, locals := 0 }
def m_X7_blank (h : dp_H) (x0 : Nat) : Option (dp_H × Int32) := dp_ck h x0 7 ((dp_gi h x0 7 0).bind fun v1 => (dp_p h x0 7 0 (.inl 0)).bind fun h2 => some (h2, v1))
abbrev rm_X7_letsNext : Room := { frames := 0, cells := 0, slots := 0, locals := 0 }
def m_X7_letsNext (h : dp_H) (x0 : Nat) (x1 : Int32) : Option (dp_H × Int32) := dp_ck h x0 7 ((dp_gr h x0 7 18).bind fun v1 => (dp_gi h x0 7 16).bind fun v2 => (dp_si false h v1 v2 x1).bind fun h3 => (dp_gi h3 x0 7 16).bind fun v4 => (dp_p h3 x0 7 16 (.inl (v4 + 1))).bind fun h5 => (dp_p h5 x0 7 15 (.inl 0)).bind fun h6 => some (h6, 1))
abbrev rm_X7_takesPlace : Room := { frames := 1, cells := 0, slots := 0, locals := 22 }
def b_X7_takesPlace_98  (h : dp_H) (x0 : Nat) (x1 : Int32) (y0 : Int32) : Option (dp_H × Int32) := if y0 = 0 then (some (h, 0)) else (if x1 = 78 then (dp_b2 (m_X7_letsNext h x0 1020) fun h5 v6 => if v6 = 0 then (some (h5, 0)) else (some (h5, 1))) else (if x1 = 88 then (dp_b2 (m_X7_letsNext h x0 1023) fun h3 v4 => if v4 = 0 then (some (h3, 0)) else (some (h3, 1))) else (dp_b2 (m_X7_letsNext h x0 (1 <<< ((x1 - 48) &&& 31))) fun h1 v2 => if v2 = 0 then (some (h1, 0)) else (some (h1, 1)))))
def b_X7_takesPlace_46  (h : dp_H) (x0 : Nat) (x1 : Int32) : Option (dp_H × Int32) := (dp_gi h x0 7 16).bind fun v1 => if v1 = 8 then (some (h, 0)) else (if x1 = 91 then ((dp_p h x0 7 15 (.inl 1)).bind fun h3 => some (h3, 1)) else ((m_X7_within h x1 48 57).bind fun v2 => if v2 = 0 then (if x1 = 78 then (b_X7_takesPlace_98 h x0 x1 1) else (if x1 = 88 then (b_X7_takesPlace_98 h x0 x1 1) else (b_X7_takesPlace_98 h x0 x1 0))) else (b_X7_takesPlace_98 h x0 x1 1)))
def b_X7_takesPlace_21  (h : dp_H) (x0 : Nat) (x1 : Int32) : Option (dp_H × Int32) := if x1 = 46 then ((dp_gi h x0 7 16).bind fun v1 => if v1 ≤ 0 then (b_X7_takesPlace_46 h x0 x1) else ((dp_p h x0 7 17 (.inl 1)).bind fun h2 => (dp_p h2 x0 7 15 (.inl 5)).bind fun h3 => some (h3, 1))) else (b_X7_takesPlace_46 h x0 x1)
def m_X7_takesPlace (h : dp_H) (x0 : Nat) (x1 : Int32) : Option (dp_H × Int32) := dp_ck h x0 7 (if x1 = 61 then ((dp_gi h x0 7 16).bind fun v1 => if v1 ≤ 0 then (b_X7_takesPlace_21 h x0 x1) else ((dp_p h x0 7 15 (.inl 6)).bind fun h2 => some (h2, 1))) else (b_X7_takesPlace_21 h x0 x1))
abbrev rm_X7_takesSpan : Room := { frames := 1, cells := 0, slots := 0, locals := 22 }
def b_X7_takesSpan_149  (h : dp_H) (x0 : Nat) (x3 : Int32) (y0 : Int32) (y1 : Nat) : Option (dp_H × Int32) := (dp_p h y1 7 21 (.inl y0)).bind fun h1 => (dp_gi h1 x0 7 15).bind fun v2 => if x3 = 0 then ((dp_p h1 x0 7 15 (.inl (v2 + 0))).bind fun h3 => dp_b x3 (some (h3, x3))) else ((dp_p h1 x0 7 15 (.inl (v2 + 1))).bind fun h4 => dp_b x3 (some (h4, x3)))
def b_X7_takesSpan_112  (h : dp_H) (x0 : Nat) (x2 : Int32) (x3 : Int32) : Option (dp_H × Int32) := (dp_gi h x0 7 15).bind fun v1 => if v1 = 1 then ((dp_p h x0 7 19 (.inl x2)).bind fun h6 => (dp_gi h6 x0 7 15).bind fun v7 => if v7 = 3 then (b_X7_takesSpan_149 h6 x0 x3 x2 x0) else ((dp_gi h6 x0 7 21).bind fun v8 => b_X7_takesSpan_149 h6 x0 x3 v8 x0)) else ((dp_gi h x0 7 19).bind fun v2 => (dp_p h x0 7 19 (.inl v2)).bind fun h3 => (dp_gi h3 x0 7 15).bind fun v4 => if v4 = 3 then (b_X7_takesSpan_149 h3 x0 x3 x2 x0) else ((dp_gi h3 x0 7 21).bind fun v5 => b_X7_takesSpan_149 h3 x0 x3 v5 x0))
def b_X7_takesSpan_79  (h : dp_H) (x0 : Nat) (x2 : Int32) (y0 : Int32) : Option (dp_H × Int32) := if y0 = 0 then (b_X7_takesSpan_112 h x0 x2 y0) else ((dp_gi h x0 7 15).bind fun v1 => if v1 = 4 then ((dp_gi h x0 7 21).bind fun v2 => (dp_gi h x0 7 19).bind fun v3 => dp_b2 (m_X7_letsNext h x0 ((1 <<< ((v2 + 1) &&& 31)) - (1 <<< (v3 &&& 31)))) fun h4 v5 => dp_b v5 (some (h4, v5))) else (b_X7_takesSpan_112 h x0 x2 y0))
def m_X7_takesSpan (h : dp_H) (x0 : Nat) (x1 : Int32) : Option (dp_H × Int32) := dp_ck h x0 7 ((dp_gi h x0 7 15).bind fun v1 => if v1 = 1 then ((m_X7_within h (x1 - 48) 0 8).bind fun v6 => b_X7_takesSpan_79 h x0 (x1 - 48) v6) else ((dp_gi h x0 7 15).bind fun v2 => if v2 = 2 then (if x1 = 45 then (b_X7_takesSpan_79 h x0 (x1 - 48) 1) else (b_X7_takesSpan_79 h x0 (x1 - 48) 0)) else ((dp_gi h x0 7 15).bind fun v3 => if v3 = 3 then ((dp_gi h x0 7 19).bind fun v4 => (m_X7_within h (x1 - 48) (v4 + 1) 9).bind fun v5 => b_X7_takesSpan_79 h x0 (x1 - 48) v5) else (if x1 = 93 then (b_X7_takesSpan_79 h x0 (x1 - 48) 1) else (b_X7_takesSpan_79 h x0 (x1 - 48) 0)))))
abbrev rm_X7_takesWay : Room := { frames := 1, cells := 0, slots := 0, locals := 22 }
def m_X7_takesWay (h : dp_H) (x0 : Nat) (x1 : Int32) : Option (dp_H × Int32) := dp_ck h x0 7 ((m_X7_within h x1 97 104).bind fun v1 => if v1 = 0 then (if x1 = 45 then ((dp_p h x0 7 20 (.inl 8)).bind fun h11 => (dp_p h11 x0 7 15 (.inl 7)).bind fun h12 => (dp_gi h12 x0 7 20).bind fun v13 => if v13 = (-1) then (some (h12, 0)) else (some (h12, 1))) else (if x1 = 33 then ((dp_p h x0 7 20 (.inl 9)).bind fun h8 => (dp_p h8 x0 7 15 (.inl 7)).bind fun h9 => (dp_gi h9 x0 7 20).bind fun v10 => if v10 = (-1) then (some (h9, 0)) else (some (h9, 1))) else (if x1 = 42 then ((dp_p h x0 7 20 (.inl 10)).bind fun h5 => (dp_p h5 x0 7 15 (.inl 7)).bind fun h6 => (dp_gi h6 x0 7 20).bind fun v7 => if v7 = (-1) then (some (h6, 0)) else (some (h6, 1))) else ((dp_p h x0 7 20 (.inl (-1))).bind fun h2 => (dp_p h2 x0 7 15 (.inl 7)).bind fun h3 => (dp_gi h3 x0 7 20).bind fun v4 => if v4 = (-1) then (some (h3, 0)) else (some (h3, 1)))))) else ((dp_p h x0 7 20 (.inl (x1 - 97))).bind fun h14 => (dp_p h14 x0 7 15 (.inl 7)).bind fun h15 => (dp_gi h15 x0 7 20).bind fun v16 => if v16 = (-1) then (some (h15, 0)) else (some (h15, 1))))
abbrev rm_X7_takesDrop : Room := { frames := 1, cells := 0, slots := 0, locals := 22 }
def m_X7_takesDrop (h : dp_H) (x0 : Nat) (x1 : Int32) : Option (dp_H × Int32) := dp_ck h x0 7 ((dp_p h x0 7 21 (.inl x1)).bind fun h1 => (dp_p h1 x0 7 15 (.inl 9)).bind fun h2 => (dp_gi h2 x0 7 16).bind fun v3 => (m_X7_within h2 x1 0 v3).bind fun v4 => dp_b v4 (some (h2, v4)))
abbrev rm_X7_takesAhead : Room := { frames := 1, cells := 0, slots := 0, locals := 22 }
def b_X7_takesAhead_23  (h : dp_H) (x0 : Nat) (x1 : Int32) (y0 : Int32) : Option (dp_H × Int32) := if y0 = 0 then (dp_b y0 (some (h, y0))) else ((dp_gr h x0 7 23).bind fun v1 => (dp_gi h x0 7 22).bind fun v2 => (dp_si false h v1 v2 x1).bind fun h3 => (dp_gi h3 x0 7 22).bind fun v4 => (dp_p h3 x0 7 22 (.inl (v4 + 1))).bind fun h5 => dp_b y0 (some (h5, y0)))
def m_X7_takesAhead (h : dp_H) (x0 : Nat) (x1 : Int32) : Option (dp_H × Int32) := dp_ck h x0 7 ((m_X7_within h x1 0 9).bind fun v1 => if v1 = 0 then (b_X7_takesAhead_23 h x0 x1 0) else ((dp_gi h x0 7 22).bind fun v2 => if 4 ≤ v2 then (b_X7_takesAhead_23 h x0 x1 0) else (b_X7_takesAhead_23 h x0 x1 1)))
abbrev rm_X7_takes : Room := { frames := 2, cells := 0, slots := 0, locals := 45 }
def m_X7_takes (h : dp_H) (x0 : Nat) (x1 : Int32) : Option (dp_H × Int32) := dp_ck h x0 7 ((dp_gi h x0 7 15).bind fun v1 => if v1 = 0 then (dp_b2 (m_X7_takesPlace h x0 x1) fun h14 v15 => dp_b v15 (some (h14, v15))) else ((dp_gi h x0 7 15).bind fun v2 => if 5 ≤ v2 then ((dp_gi h x0 7 15).bind fun v3 => if v3 = 5 then ((dp_p h x0 7 15 (.inl 6)).bind fun h4 => if x1 = 61 then (some (h4, 1)) else (some (h4, 0))) else if v3 = 6 then (dp_b2 (m_X7_takesWay h x0 x1) fun h5 v6 => dp_b v6 (some (h5, v6))) else if v3 = 7 then ((dp_p h x0 7 15 (.inl 8)).bind fun h7 => if x1 = 58 then (some (h7, 1)) else (some (h7, 0))) else if v3 = 8 then (dp_b2 (m_X7_takesDrop h x0 (x1 - 48)) fun h8 v9 => dp_b v9 (some (h8, v9))) else (dp_b2 (m_X7_takesAhead h x0 (x1 - 48)) fun h10 v11 => dp_b v11 (some (h10, v11)))) else (dp_b2 (m_X7_takesSpan h x0 x1) fun h12 v13 => dp_b v13 (some (h12, v13)))))
abbrev rm_X7_goAlong : Room := { frames := 3, cells := 0, slots := 0, locals := 66 }
def b_X7_goAlong_22 (k22 : dp_H → Nat → Int32 → Option (dp_H × Int32)) (h : dp_H) (x0 : Nat) (x1 : Int32) : Option (dp_H × Int32) := (dp_gi h x0 7 0).bind fun v1 => if v1 ≤ x1 then (some (h, x1)) else ((dp_gr h x0 7 1).bind fun v2 => (dp_ai false h v2 x1).bind fun v3 => dp_b2 (m_X7_takes h x0 v3) fun h4 v5 => if v5 = 0 then (some (h4, x1)) else (k22 h4 x0 (x1 + 1)))
def m_X7_goAlong_22  : Nat → dp_H → Nat → Int32 → Option (dp_H × Int32)
  | 0 => fun _ _ _ => none
  | n + 1 => fun h x0 x1 => b_X7_goAlong_22 (m_X7_goAlong_22  n) h x0 x1
def m_X7_goAlong (h : dp_H) (x0 : Nat) : Option (dp_H × Int32) := dp_ck h x0 7 ((dp_p h x0 7 15 (.inl 0)).bind fun h1 => (dp_p h1 x0 7 16 (.inl 0)).bind fun h2 => (dp_p h2 x0 7 17 (.inl 0)).bind fun h3 => (dp_p h3 x0 7 22 (.inl 0)).bind fun h4 => m_X7_goAlong_22 64 h4 x0 0)
abbrev rm_X7_fault : Room := { frames := 4, cells := 0, slots := 0, locals := 87 }
def m_X7_fault (h : dp_H) (x0 : Nat) : Option (dp_H × Int32) := dp_ck h x0 7 (dp_b2 (m_X7_goAlong h x0) fun h1 v2 => some (h1, v2))
abbrev rm_X7_keepPattern : Room := { frames := 0, cells := 0, slots := 0, locals := 0 }
def b_X7_keepPattern_85 (k85 : dp_H → Nat → Int32 → Int32 → Option dp_H) (h : dp_H) (x0 : Nat) (x1 : Int32) (x2 : Int32) : Option dp_H := (dp_gi h x0 7 22).bind fun v1 => if v1 ≤ x2 then (some h) else ((dp_gr h x0 7 9).bind fun v2 => (dp_gr h x0 7 23).bind fun v3 => (dp_ai false h v3 x2).bind fun v4 => (dp_si false h v2 ((4 * x1) + x2) v4).bind fun h5 => k85 h5 x0 x1 (x2 + 1))
def m_X7_keepPattern_85  : Nat → dp_H → Nat → Int32 → Int32 → Option dp_H
  | 0 => fun _ _ _ _ => none
  | n + 1 => fun h x0 x1 x2 => b_X7_keepPattern_85 (m_X7_keepPattern_85  n) h x0 x1 x2
def b_X7_keepPattern_52 (k52 : dp_H → Nat → Int32 → Int32 → Option dp_H) (h : dp_H) (x0 : Nat) (x1 : Int32) (x2 : Int32) : Option dp_H := (dp_gi h x0 7 16).bind fun v1 => if v1 ≤ x2 then (m_X7_keepPattern_85 64 h x0 x1 0) else ((dp_gr h x0 7 5).bind fun v2 => (dp_gr h x0 7 18).bind fun v3 => (dp_ai false h v3 x2).bind fun v4 => (dp_si false h v2 ((8 * x1) + x2) v4).bind fun h5 => k52 h5 x0 x1 (x2 + 1))
def m_X7_keepPattern_52  : Nat → dp_H → Nat → Int32 → Int32 → Option dp_H
  | 0 => fun _ _ _ _ => none
  | n + 1 => fun h x0 x1 x2 => b_X7_keepPattern_52 (m_X7_keepPattern_52  n) h x0 x1 x2
def m_X7_keepPattern (h : dp_H) (x0 : Nat) (x1 : Int32) : Option dp_H := dp_ck h x0 7 ((dp_gr h x0 7 3).bind fun v1 => (dp_gi h x0 7 16).bind fun v2 => (dp_si false h v1 x1 v2).bind fun h3 => (dp_gr h3 x0 7 4).bind fun v4 => (dp_gi h3 x0 7 17).bind fun v5 => dp_b v5 ((dp_si true h3 v4 x1 v5).bind fun h6 => (dp_gr h6 x0 7 6).bind fun v7 => (dp_gi h6 x0 7 20).bind fun v8 => (dp_si false h6 v7 x1 v8).bind fun h9 => (dp_gr h9 x0 7 7).bind fun v10 => (dp_gi h9 x0 7 21).bind fun v11 => (dp_si false h9 v10 x1 v11).bind fun h12 => (dp_gr h12 x0 7 8).bind fun v13 => (dp_gi h12 x0 7 22).bind fun v14 => (dp_si false h12 v13 x1 v14).bind fun h15 => m_X7_keepPattern_52 64 h15 x0 x1 0))
abbrev rm_X7_add : Room := { frames := 4, cells := 0, slots := 0, locals := 87 }
def m_X7_add (h : dp_H) (x0 : Nat) : Option (dp_H × Int32) := dp_ck h x0 7 (dp_b2 (m_X7_goAlong h x0) fun h1 v2 => (dp_gi h1 x0 7 0).bind fun v3 => if v2 < v3 then (some (h1, (-1003))) else ((dp_gi h1 x0 7 15).bind fun v4 => if v4 = 9 then ((dp_gi h1 x0 7 27).bind fun v5 => if v5 = 0 then ((dp_gi h1 x0 7 2).bind fun v6 => if v6 = 10 then (some (h1, (-1004))) else ((dp_gi h1 x0 7 2).bind fun v7 => (m_X7_keepPattern h1 x0 v7).bind fun h8 => (dp_gi h8 x0 7 2).bind fun v9 => (dp_p h8 x0 7 2 (.inl (v9 + 1))).bind fun h10 => (dp_p h10 x0 7 0 (.inl 0)).bind fun h11 => (dp_gi h11 x0 7 2).bind fun v12 => some (h11, (v12 - 1)))) else (some (h1, (-1003)))) else (some (h1, (-1003)))))
abbrev rm_X7_isPattern : Room := { frames := 1, cells := 0, slots := 0, locals := 22 }
def m_X7_isPattern (h : dp_H) (x0 : Nat) (x1 : Int32) : Option Int32 := dp_ck h x0 7 ((dp_gi h x0 7 2).bind fun v1 => (m_X7_within h x1 0 (v1 - 1)).bind fun v2 => dp_b v2 (some v2))
abbrev rm_X7_copy : Room := { frames := 0, cells := 0, slots := 0, locals := 0 }
def b_X7_copy_98 (k98 : dp_H → Nat → Int32 → Int32 → Int32 → Option dp_H) (h : dp_H) (x0 : Nat) (x1 : Int32) (x2 : Int32) (x3 : Int32) : Option dp_H := if 4 ≤ x3 then (some h) else ((dp_gr h x0 7 9).bind fun v1 => (dp_gr h x0 7 9).bind fun v2 => (dp_ai false h v2 ((4 * x1) + x3)).bind fun v3 => (dp_si false h v1 ((4 * x2) + x3) v3).bind fun h4 => k98 h4 x0 x1 x2 (x3 + 1))
def m_X7_copy_98  : Nat → dp_H → Nat → Int32 → Int32 → Int32 → Option dp_H
  | 0 => fun _ _ _ _ _ => none
  | n + 1 => fun h x0 x1 x2 x3 => b_X7_copy_98 (m_X7_copy_98  n) h x0 x1 x2 x3
def b_X7_copy_62 (k62 : dp_H → Nat → Int32 → Int32 → Int32 → Option dp_H) (h : dp_H) (x0 : Nat) (x1 : Int32) (x2 : Int32) (x3 : Int32) : Option dp_H := if 8 ≤ x3 then (m_X7_copy_98 64 h x0 x1 x2 0) else ((dp_gr h x0 7 5).bind fun v1 => (dp_gr h x0 7 5).bind fun v2 => (dp_ai false h v2 ((8 * x1) + x3)).bind fun v3 => (dp_si false h v1 ((8 * x2) + x3) v3).bind fun h4 => k62 h4 x0 x1 x2 (x3 + 1))
def m_X7_copy_62  : Nat → dp_H → Nat → Int32 → Int32 → Int32 → Option dp_H
  | 0 => fun _ _ _ _ _ => none
  | n + 1 => fun h x0 x1 x2 x3 => b_X7_copy_62 (m_X7_copy_62  n) h x0 x1 x2 x3
def m_X7_copy (h : dp_H) (x0 : Nat) (x1 : Int32) (x2 : Int32) : Option dp_H := dp_ck h x0 7 ((dp_gr h x0 7 3).bind fun v1 => (dp_gr h x0 7 3).bind fun v2 => (dp_ai false h v2 x1).bind fun v3 => (dp_si false h v1 x2 v3).bind fun h4 => (dp_gr h4 x0 7 4).bind fun v5 => (dp_gr h4 x0 7 4).bind fun v6 => (dp_ai true h4 v6 x1).bind fun v7 => dp_b v7 ((dp_si true h4 v5 x2 v7).bind fun h8 => (dp_gr h8 x0 7 6).bind fun v9 => (dp_gr h8 x0 7 6).bind fun v10 => (dp_ai false h8 v10 x1).bind fun v11 => (dp_si false h8 v9 x2 v11).bind fun h12 => (dp_gr h12 x0 7 7).bind fun v13 => (dp_gr h12 x0 7 7).bind fun v14 => (dp_ai false h12 v14 x1).bind fun v15 => (dp_si false h12 v13 x2 v15).bind fun h16 => (dp_gr h16 x0 7 8).bind fun v17 => (dp_gr h16 x0 7 8).bind fun v18 => (dp_ai false h16 v18 x1).bind fun v19 => (dp_si false h16 v17 x2 v19).bind fun h20 => m_X7_copy_62 64 h20 x0 x1 x2 0))
abbrev rm_X7_drop : Room := { frames := 2, cells := 0, slots := 0, locals := 43 }
def b_X7_drop_35 (k35 : dp_H → Nat → Int32 → Option (dp_H × Int32)) (h : dp_H) (x0 : Nat) (x2 : Int32) : Option (dp_H × Int32) := (dp_gi h x0 7 2).bind fun v1 => if v1 ≤ x2 then ((dp_gi h x0 7 2).bind fun v2 => some (h, v2)) else ((m_X7_copy h x0 (x2 + 1) x2).bind fun h3 => k35 h3 x0 (x2 + 1))
def m_X7_drop_35  : Nat → dp_H → Nat → Int32 → Option (dp_H × Int32)
  | 0 => fun _ _ _ => none
  | n + 1 => fun h x0 x2 => b_X7_drop_35 (m_X7_drop_35  n) h x0 x2
def m_X7_drop (h : dp_H) (x0 : Nat) (x1 : Int32) : Option (dp_H × Int32) := dp_ck h x0 7 ((m_X7_isPattern h x0 x1).bind fun v1 => if v1 = 0 then (some (h, (-1001))) else ((dp_gi h x0 7 27).bind fun v2 => if v2 = 0 then ((dp_gi h x0 7 2).bind fun v3 => (dp_p h x0 7 2 (.inl (v3 - 1))).bind fun h4 => m_X7_drop_35 64 h4 x0 x1) else (some (h, (-1003)))))
abbrev rm_X7_letsOf : Room := { frames := 0, cells := 0, slots := 0, locals := 0 }
def m_X7_letsOf (h : dp_H) (x0 : Nat) (x1 : Int32) (x2 : Int32) : Option Int32 := dp_ck h x0 7 ((dp_gr h x0 7 3).bind fun v1 => (dp_ai false h v1 x1).bind fun v2 => if v2 ≤ x2 then ((dp_gr h x0 7 4).bind fun v3 => (dp_ai true h v3 x1).bind fun v4 => if v4 = 0 then (some 0) else (some 1023)) else ((dp_gr h x0 7 5).bind fun v5 => (dp_ai false h v5 ((8 * x1) + x2)).bind fun v6 => some v6))
abbrev rm_X7_aheadNumber : Room := { frames := 0, cells := 0, slots := 0, locals := 0 }
def b_X7_aheadNumber_4 (h : dp_H) (k4 : Nat → Int32 → Int32 → Int32 → Option Int32) (x0 : Nat) (x1 : Int32) (x2 : Int32) (x3 : Int32) : Option Int32 := (dp_gr h x0 7 8).bind fun v1 => (dp_ai false h v1 x1).bind fun v2 => if v2 ≤ x3 then (some x2) else ((dp_gr h x0 7 9).bind fun v3 => (dp_ai false h v3 ((4 * x1) + x3)).bind fun v4 => k4 x0 x1 ((10 * x2) + v4) (x3 + 1))
def m_X7_aheadNumber_4 (h : dp_H)  : Nat → Nat → Int32 → Int32 → Int32 → Option Int32
  | 0 => fun _ _ _ _ => none
  | n + 1 => fun x0 x1 x2 x3 => b_X7_aheadNumber_4 h (m_X7_aheadNumber_4 h  n) x0 x1 x2 x3
def m_X7_aheadNumber (h : dp_H) (x0 : Nat) (x1 : Int32) : Option Int32 := dp_ck h x0 7 (m_X7_aheadNumber_4 h 64 x0 x1 0 0)
abbrev rm_X7_patternNow : Room := { frames := 1, cells := 0, slots := 0, locals := 23 }
def m_X7_patternNow (h : dp_H) (x0 : Nat) (x1 : Int32) (x2 : Int32) : Option Int32 := dp_ck h x0 7 (if x2 = 0 then ((dp_gr h x0 7 3).bind fun v1 => (dp_ai false h v1 x1).bind fun v2 => some v2) else if x2 = 1 then ((dp_gr h x0 7 4).bind fun v3 => (dp_ai true h v3 x1).bind fun v4 => if v4 = 0 then (some 0) else (some 1)) else if x2 = 2 then ((dp_gr h x0 7 6).bind fun v5 => (dp_ai false h v5 x1).bind fun v6 => some v6) else if x2 = 3 then ((dp_gr h x0 7 7).bind fun v7 => (dp_ai false h v7 x1).bind fun v8 => some v8) else if x2 = 4 then ((dp_gr h x0 7 8).bind fun v9 => (dp_ai false h v9 x1).bind fun v10 => some v10) else ((m_X7_aheadNumber h x0 x1).bind fun v11 => some v11))
abbrev rm_X7_pattern : Room := { frames := 2, cells := 0, slots := 0, locals := 45 }
def m_X7_pattern (h : dp_H) (x0 : Nat) (x1 : Int32) (x2 : Int32) : Option Int32 := dp_ck h x0 7 ((m_X7_isPattern h x0 x1).bind fun v1 => if v1 = 0 then (some (-1001)) else ((m_X7_within h x2 0 5).bind fun v2 => if v2 = 0 then (some (-1002)) else ((m_X7_patternNow h x0 x1 x2).bind fun v3 => some v3)))
abbrev rm_X7_lets : Room := { frames := 2, cells := 0, slots := 0, locals := 43 }
def m_X7_lets (h : dp_H) (x0 : Nat) (x1 : Int32) (x2 : Int32) : Option Int32 := dp_ck h x0 7 ((m_X7_isPattern h x0 x1).bind fun v1 => if v1 = 0 then (some (-1001)) else ((m_X7_within h x2 0 9).bind fun v2 => if v2 = 0 then (some (-1002)) else ((m_X7_letsOf h x0 x1 x2).bind fun v3 => some v3)))
abbrev rm_X7_wide : Room := { frames := 1, cells := 0, slots := 0, locals := 22 }
def m_X7_wide (h : dp_H) (x0 : Nat) (x1 : Int32) (x2 : Int32) : Option Int32 := dp_ck h x0 7 ((dp_gr h x0 7 3).bind fun v1 => (dp_ai false h v1 x1).bind fun v2 => if v2 ≤ x2 then ((dp_gr h x0 7 4).bind fun v3 => (dp_ai true h v3 x1).bind fun v4 => if v4 = 0 then (some 0) else (some 11)) else ((dp_gr h x0 7 5).bind fun v5 => (dp_ai false h v5 ((8 * x1) + x2)).bind fun v6 => (m_X7_ones h v6).bind fun v7 => some v7))
abbrev rm_X7_compare : Room := { frames := 2, cells := 0, slots := 0, locals := 44 }
def b_X7_compare_5 (h : dp_H) (k5 : Nat → Int32 → Int32 → Int32 → Int32 → Option Int32) (x0 : Nat) (x1 : Int32) (x2 : Int32) (x3 : Int32) (x4 : Int32) : Option Int32 := if 10 ≤ x4 then (some x3) else (if x3 = 0 then ((m_X7_wide h x0 x1 x4).bind fun v1 => (m_X7_wide h x0 x2 x4).bind fun v2 => k5 x0 x1 x2 (v1 - v2) (x4 + 1)) else (some x3))
def m_X7_compare_5 (h : dp_H)  : Nat → Nat → Int32 → Int32 → Int32 → Int32 → Option Int32
  | 0 => fun _ _ _ _ _ => none
  | n + 1 => fun x0 x1 x2 x3 x4 => b_X7_compare_5 h (m_X7_compare_5 h  n) x0 x1 x2 x3 x4
def m_X7_compare (h : dp_H) (x0 : Nat) (x1 : Int32) (x2 : Int32) : Option Int32 := dp_ck h x0 7 (m_X7_compare_5 h 64 x0 x1 x2 0 0)
abbrev rm_X7_narrower : Room := { frames := 3, cells := 0, slots := 0, locals := 68 }
def m_X7_narrower (h : dp_H) (x0 : Nat) (x1 : Int32) (x2 : Int32) : Option Int32 := dp_ck h x0 7 ((m_X7_isPattern h x0 x1).bind fun v1 => if v1 = 0 then (some (-1001)) else ((m_X7_isPattern h x0 x2).bind fun v2 => if v2 = 0 then (some (-1001)) else ((m_X7_compare h x0 x1 x2).bind fun v3 => if 0 ≤ v3 then (if v3 ≤ 0 then (some 2) else (some 1)) else (some 0))))
abbrev rm_X7_areLike : Room := { frames := 1, cells := 0, slots := 0, locals := 23 }
def b_X7_areLike_50 (h : dp_H)  (x0 : Nat) (x1 : Int32) (x2 : Int32) (y0 : Int32) : Option Int32 := if y0 = 0 then (some 0) else ((m_X7_aheadNumber h x0 x1).bind fun v1 => (m_X7_aheadNumber h x0 x2).bind fun v2 => if v1 = v2 then (some 1) else (some 0))
def m_X7_areLike (h : dp_H) (x0 : Nat) (x1 : Int32) (x2 : Int32) : Option Int32 := dp_ck h x0 7 ((dp_gr h x0 7 6).bind fun v1 => (dp_ai false h v1 x1).bind fun v2 => (dp_gr h x0 7 6).bind fun v3 => (dp_ai false h v3 x2).bind fun v4 => if v2 = v4 then ((dp_gr h x0 7 7).bind fun v5 => (dp_ai false h v5 x1).bind fun v6 => (dp_gr h x0 7 7).bind fun v7 => (dp_ai false h v7 x2).bind fun v8 => if v6 = v8 then ((dp_gr h x0 7 8).bind fun v9 => (dp_ai false h v9 x1).bind fun v10 => (dp_gr h x0 7 8).bind fun v11 => (dp_ai false h v11 x2).bind fun v12 => if v10 = v12 then (b_X7_areLike_50 h x0 x1 x2 1) else (b_X7_areLike_50 h x0 x1 x2 0)) else (b_X7_areLike_50 h x0 x1 x2 0)) else (b_X7_areLike_50 h x0 x1 x2 0))
abbrev rm_X7_isClash : Room := { frames := 3, cells := 0, slots := 0, locals := 68 }
def b_X7_isClash_27 (h : dp_H) (k27 : Nat → Int32 → Int32 → Int32 → Int32 → Option Int32) (x0 : Nat) (x1 : Int32) (x2 : Int32) (x3 : Int32) (x4 : Int32) : Option Int32 := (dp_gr h x0 7 3).bind fun v1 => (dp_ai false h v1 x1).bind fun v2 => if v2 ≤ x4 then (dp_b x3 (some x3)) else (if x3 = 0 then (dp_b x3 (some x3)) else ((m_X7_letsOf h x0 x1 x4).bind fun v3 => (m_X7_letsOf h x0 x2 x4).bind fun v4 => if (v3 &&& v4) = 0 then (k27 x0 x1 x2 0 (x4 + 1)) else (k27 x0 x1 x2 1 (x4 + 1))))
def m_X7_isClash_27 (h : dp_H)  : Nat → Nat → Int32 → Int32 → Int32 → Int32 → Option Int32
  | 0 => fun _ _ _ _ _ => none
  | n + 1 => fun x0 x1 x2 x3 x4 => b_X7_isClash_27 h (m_X7_isClash_27 h  n) x0 x1 x2 x3 x4
def m_X7_isClash (h : dp_H) (x0 : Nat) (x1 : Int32) (x2 : Int32) : Option Int32 := dp_ck h x0 7 ((m_X7_compare h x0 x1 x2).bind fun v1 => if v1 = 0 then ((m_X7_areLike h x0 x1 x2).bind fun v2 => if v2 = 0 then (m_X7_isClash_27 h 64 x0 x1 x2 1 0) else (m_X7_isClash_27 h 64 x0 x1 x2 0 0)) else (m_X7_isClash_27 h 64 x0 x1 x2 0 0))
abbrev rm_X7_clashAt : Room := { frames := 4, cells := 0, slots := 0, locals := 92 }
def b_X7_clashAt_21 (h : dp_H) (k4 : Nat → Int32 → Int32 → Option Int32) (k21 : Nat → Int32 → Int32 → Int32 → Option Int32) (x0 : Nat) (x2 : Int32) (x3 : Int32) (x4 : Int32) : Option Int32 := (dp_gi h x0 7 2).bind fun v1 => if v1 ≤ x4 then (k4 x0 x2 (x3 + 1)) else ((m_X7_isClash h x0 x3 x4).bind fun v2 => if v2 = 0 then (k21 x0 x2 x3 (x4 + 1)) else (if x2 = 0 then (some ((16 * x3) + x4)) else (k21 x0 (x2 + (-1)) x3 (x4 + 1))))
def m_X7_clashAt_21 (h : dp_H) (k4 : Nat → Int32 → Int32 → Option Int32) : Nat → Nat → Int32 → Int32 → Int32 → Option Int32
  | 0 => fun _ _ _ _ => none
  | n + 1 => fun x0 x2 x3 x4 => b_X7_clashAt_21 h k4 (m_X7_clashAt_21 h k4 n) x0 x2 x3 x4
def b_X7_clashAt_4 (h : dp_H) (k4 : Nat → Int32 → Int32 → Option Int32) (x0 : Nat) (x2 : Int32) (x3 : Int32) : Option Int32 := (dp_gi h x0 7 2).bind fun v1 => if v1 ≤ x3 then (some (-1)) else (if x2 < 0 then (some (-1)) else (m_X7_clashAt_21 h k4 64 x0 x2 x3 (x3 + 1)))
def m_X7_clashAt_4 (h : dp_H)  : Nat → Nat → Int32 → Int32 → Option Int32
  | 0 => fun _ _ _ => none
  | n + 1 => fun x0 x2 x3 => b_X7_clashAt_4 h (m_X7_clashAt_4 h  n) x0 x2 x3
def m_X7_clashAt (h : dp_H) (x0 : Nat) (x1 : Int32) : Option Int32 := dp_ck h x0 7 (m_X7_clashAt_4 h 64 x0 x1 0)
abbrev rm_X7_clash : Room := { frames := 5, cells := 0, slots := 0, locals := 116 }
def m_X7_clash (h : dp_H) (x0 : Nat) (x1 : Int32) : Option Int32 := dp_ck h x0 7 ((m_X7_clashAt h x0 x1).bind fun v1 => if v1 = (-1) then (some (-1001)) else (some v1))
abbrev rm_X7_clashes : Room := { frames := 4, cells := 0, slots := 0, locals := 92 }
def b_X7_clashes_16 (h : dp_H) (k4 : Nat → Int32 → Int32 → Option Int32) (k16 : Nat → Int32 → Int32 → Int32 → Option Int32) (x0 : Nat) (x1 : Int32) (x2 : Int32) (x3 : Int32) : Option Int32 := (dp_gi h x0 7 2).bind fun v1 => if v1 ≤ x3 then (k4 x0 x1 (x2 + 1)) else ((m_X7_isClash h x0 x2 x3).bind fun v2 => if v2 = 0 then (k16 x0 (x1 + 0) x2 (x3 + 1)) else (k16 x0 (x1 + 1) x2 (x3 + 1)))
def m_X7_clashes_16 (h : dp_H) (k4 : Nat → Int32 → Int32 → Option Int32) : Nat → Nat → Int32 → Int32 → Int32 → Option Int32
  | 0 => fun _ _ _ _ => none
  | n + 1 => fun x0 x1 x2 x3 => b_X7_clashes_16 h k4 (m_X7_clashes_16 h k4 n) x0 x1 x2 x3
def b_X7_clashes_4 (h : dp_H) (k4 : Nat → Int32 → Int32 → Option Int32) (x0 : Nat) (x1 : Int32) (x2 : Int32) : Option Int32 := (dp_gi h x0 7 2).bind fun v1 => if v1 ≤ x2 then (some x1) else (m_X7_clashes_16 h k4 64 x0 x1 x2 (x2 + 1))
def m_X7_clashes_4 (h : dp_H)  : Nat → Nat → Int32 → Int32 → Option Int32
  | 0 => fun _ _ _ => none
  | n + 1 => fun x0 x1 x2 => b_X7_clashes_4 h (m_X7_clashes_4 h  n) x0 x1 x2
def m_X7_clashes (h : dp_H) (x0 : Nat) : Option Int32 := dp_ck h x0 7 (m_X7_clashes_4 h 64 x0 0 0)
abbrev rm_X7_begins : Room := { frames := 1, cells := 0, slots := 0, locals := 22 }
def b_X7_begins_5 (h : dp_H) (k5 : Nat → Int32 → Int32 → Int32 → Int32 → Option Int32) (x0 : Nat) (x1 : Int32) (x2 : Int32) (x3 : Int32) (x4 : Int32) : Option Int32 := if x2 ≤ x4 then (dp_b x3 (some x3)) else (if x3 = 0 then (k5 x0 x1 x2 0 (x4 + 1)) else ((m_X7_letsOf h x0 x1 x4).bind fun v1 => (dp_gr h x0 7 25).bind fun v2 => (dp_ai false h v2 x4).bind fun v3 => if ((v1 >>> (v3 &&& 31)) &&& 1) = 1 then (k5 x0 x1 x2 1 (x4 + 1)) else (k5 x0 x1 x2 0 (x4 + 1))))
def m_X7_begins_5 (h : dp_H)  : Nat → Nat → Int32 → Int32 → Int32 → Int32 → Option Int32
  | 0 => fun _ _ _ _ _ => none
  | n + 1 => fun x0 x1 x2 x3 x4 => b_X7_begins_5 h (m_X7_begins_5 h  n) x0 x1 x2 x3 x4
def m_X7_begins (h : dp_H) (x0 : Nat) (x1 : Int32) (x2 : Int32) : Option Int32 := dp_ck h x0 7 (m_X7_begins_5 h 64 x0 x1 x2 1 0)
abbrev rm_X7_fits : Room := { frames := 2, cells := 0, slots := 0, locals := 46 }
def m_X7_fits (h : dp_H) (x0 : Nat) (x1 : Int32) (x2 : Int32) : Option Int32 := dp_ck h x0 7 ((dp_gr h x0 7 4).bind fun v1 => (dp_ai true h v1 x1).bind fun v2 => if v2 = 0 then ((dp_gr h x0 7 3).bind fun v3 => (dp_ai false h v3 x1).bind fun v4 => if x2 = v4 then ((m_X7_begins h x0 x1 x2).bind fun v5 => if v5 = 0 then (some 0) else (some 1)) else (some 0)) else ((dp_gr h x0 7 3).bind fun v6 => (dp_ai false h v6 x1).bind fun v7 => if x2 < v7 then (some 0) else ((m_X7_begins h x0 x1 x2).bind fun v8 => if v8 = 0 then (some 0) else (some 1))))
abbrev rm_X7_leads : Room := { frames := 2, cells := 0, slots := 0, locals := 46 }
def m_X7_leads (h : dp_H) (x0 : Nat) (x1 : Int32) (x2 : Int32) : Option Int32 := dp_ck h x0 7 ((dp_gr h x0 7 4).bind fun v1 => (dp_ai true h v1 x1).bind fun v2 => if v2 = 0 then ((dp_gr h x0 7 3).bind fun v3 => (dp_ai false h v3 x1).bind fun v4 => if v4 ≤ x2 then (some 0) else ((m_X7_begins h x0 x1 x2).bind fun v5 => if v5 = 0 then (some 0) else (some 1))) else (if 10 ≤ x2 then (some 0) else ((m_X7_begins h x0 x1 x2).bind fun v6 => if v6 = 0 then (some 0) else (some 1))))
abbrev rm_X7_fitting : Room := { frames := 3, cells := 0, slots := 0, locals := 68 }
def b_X7_fitting_4 (h : dp_H) (k4 : Nat → Int32 → Int32 → Int32 → Option Int32) (x0 : Nat) (x1 : Int32) (x2 : Int32) (x3 : Int32) : Option Int32 := (dp_gi h x0 7 2).bind fun v1 => if v1 ≤ x3 then (some x2) else ((m_X7_fits h x0 x3 x1).bind fun v2 => if v2 = 0 then (k4 x0 x1 (x2 ||| 0) (x3 + 1)) else (k4 x0 x1 (x2 ||| (1 <<< (x3 &&& 31))) (x3 + 1)))
def m_X7_fitting_4 (h : dp_H)  : Nat → Nat → Int32 → Int32 → Int32 → Option Int32
  | 0 => fun _ _ _ _ => none
  | n + 1 => fun x0 x1 x2 x3 => b_X7_fitting_4 h (m_X7_fitting_4 h  n) x0 x1 x2 x3
def m_X7_fitting (h : dp_H) (x0 : Nat) (x1 : Int32) : Option Int32 := dp_ck h x0 7 (m_X7_fitting_4 h 64 x0 x1 0 0)
abbrev rm_X7_leading : Room := { frames := 3, cells := 0, slots := 0, locals := 68 }
def b_X7_leading_4 (h : dp_H) (k4 : Nat → Int32 → Int32 → Int32 → Option Int32) (x0 : Nat) (x1 : Int32) (x2 : Int32) (x3 : Int32) : Option Int32 := (dp_gi h x0 7 2).bind fun v1 => if v1 ≤ x3 then (some x2) else ((m_X7_leads h x0 x3 x1).bind fun v2 => if v2 = 0 then (k4 x0 x1 (x2 ||| 0) (x3 + 1)) else (k4 x0 x1 (x2 ||| (1 <<< (x3 &&& 31))) (x3 + 1)))
def m_X7_leading_4 (h : dp_H)  : Nat → Nat → Int32 → Int32 → Int32 → Option Int32
  | 0 => fun _ _ _ _ => none
  | n + 1 => fun x0 x1 x2 x3 => b_X7_leading_4 h (m_X7_leading_4 h  n) x0 x1 x2 x3
def m_X7_leading (h : dp_H) (x0 : Nat) (x1 : Int32) : Option Int32 := dp_ck h x0 7 (m_X7_leading_4 h 64 x0 x1 0 0)
abbrev rm_X7_winner : Room := { frames := 3, cells := 0, slots := 0, locals := 68 }
def b_X7_winner_26 (h : dp_H) (k4 : Nat → Int32 → Int32 → Int32 → Option Int32) (x0 : Nat) (x1 : Int32) (x2 : Int32) (x3 : Int32) (y0 : Int32) : Option Int32 := if y0 = 0 then (k4 x0 x1 x2 (x3 + 1)) else (if x2 = (-1) then (k4 x0 x1 x3 (x3 + 1)) else ((m_X7_compare h x0 x3 x2).bind fun v1 => if 0 ≤ v1 then (k4 x0 x1 x2 (x3 + 1)) else (k4 x0 x1 x3 (x3 + 1))))
def b_X7_winner_4 (h : dp_H) (k4 : Nat → Int32 → Int32 → Int32 → Option Int32) (x0 : Nat) (x1 : Int32) (x2 : Int32) (x3 : Int32) : Option Int32 := (dp_gi h x0 7 2).bind fun v1 => if v1 ≤ x3 then (some x2) else (if ((x1 >>> (x3 &&& 31)) &&& 1) = 1 then (b_X7_winner_26 h k4 x0 x1 x2 x3 1) else (b_X7_winner_26 h k4 x0 x1 x2 x3 0))
def m_X7_winner_4 (h : dp_H)  : Nat → Nat → Int32 → Int32 → Int32 → Option Int32
  | 0 => fun _ _ _ _ => none
  | n + 1 => fun x0 x1 x2 x3 => b_X7_winner_4 h (m_X7_winner_4 h  n) x0 x1 x2 x3
def m_X7_winner (h : dp_H) (x0 : Nat) (x1 : Int32) : Option Int32 := dp_ck h x0 7 (m_X7_winner_4 h 64 x0 x1 (-1) 0)
abbrev rm_X7_rewrite : Room := { frames := 0, cells := 0, slots := 0, locals := 0 }
def b_X7_rewrite_81 (k81 : dp_H → Nat → Int32 → Int32 → Int32 → Int32 → Option dp_H) (h : dp_H) (x0 : Nat) (x1 : Int32) (x2 : Int32) (x4 : Int32) (x5 : Int32) : Option dp_H := if x2 ≤ x5 then ((dp_p h x0 7 24 (.inl x4)).bind fun h1 => some h1) else ((dp_gr h x0 7 25).bind fun v2 => (dp_gr h x0 7 9).bind fun v3 => (dp_ai false h v3 ((4 * x1) + x5)).bind fun v4 => (dp_si false h v2 x5 v4).bind fun h5 => k81 h5 x0 x1 x2 x4 (x5 + 1))
def m_X7_rewrite_81  : Nat → dp_H → Nat → Int32 → Int32 → Int32 → Int32 → Option dp_H
  | 0 => fun _ _ _ _ _ _ => none
  | n + 1 => fun h x0 x1 x2 x4 x5 => b_X7_rewrite_81 (m_X7_rewrite_81  n) h x0 x1 x2 x4 x5
def b_X7_rewrite_27 (k27 : dp_H → Nat → Int32 → Int32 → Int32 → Int32 → Int32 → Option dp_H) (h : dp_H) (x0 : Nat) (x1 : Int32) (x2 : Int32) (x3 : Int32) (x4 : Int32) (x5 : Int32) : Option dp_H := if (x4 - x2) ≤ x5 then (m_X7_rewrite_81 64 h x0 x1 x2 x4 0) else (if x3 ≤ 0 then ((dp_gr h x0 7 25).bind fun v1 => (dp_gr h x0 7 25).bind fun v2 => (dp_ai false h v2 ((x2 + x5) - x3)).bind fun v3 => (dp_si false h v1 (x2 + x5) v3).bind fun h4 => k27 h4 x0 x1 x2 x3 x4 (x5 + 1)) else ((dp_gr h x0 7 25).bind fun v5 => (dp_gr h x0 7 25).bind fun v6 => (dp_ai false h v6 (((x4 - 1) - x5) - x3)).bind fun v7 => (dp_si false h v5 ((x4 - 1) - x5) v7).bind fun h8 => k27 h8 x0 x1 x2 x3 x4 (x5 + 1)))
def m_X7_rewrite_27  : Nat → dp_H → Nat → Int32 → Int32 → Int32 → Int32 → Int32 → Option dp_H
  | 0 => fun _ _ _ _ _ _ _ => none
  | n + 1 => fun h x0 x1 x2 x3 x4 x5 => b_X7_rewrite_27 (m_X7_rewrite_27  n) h x0 x1 x2 x3 x4 x5
def m_X7_rewrite (h : dp_H) (x0 : Nat) (x1 : Int32) : Option dp_H := dp_ck h x0 7 ((dp_gr h x0 7 8).bind fun v1 => (dp_ai false h v1 x1).bind fun v2 => (dp_gr h x0 7 7).bind fun v3 => (dp_ai false h v3 x1).bind fun v4 => (dp_gi h x0 7 24).bind fun v5 => m_X7_rewrite_27 64 h x0 x1 v2 (v2 - v4) (v5 + (v2 - v4)) 0)
abbrev rm_X7_read : Room := { frames := 4, cells := 0, slots := 0, locals := 92 }
def b_X7_read_7 (k7 : dp_H → Nat → Int32 → Option (dp_H × Int32)) (h : dp_H) (x0 : Nat) (x1 : Int32) : Option (dp_H × Int32) := if x1 = 0 then (some (h, (-1))) else ((dp_gi h x0 7 26).bind fun v1 => if 6 ≤ v1 then (some (h, (-1))) else ((dp_gi h x0 7 26).bind fun v2 => (dp_p h x0 7 26 (.inl (v2 + 1))).bind fun h3 => (dp_gi h3 x0 7 24).bind fun v4 => (m_X7_fitting h3 x0 v4).bind fun v5 => (m_X7_winner h3 x0 v5).bind fun v6 => if v6 = (-1) then (some (h3, (-1))) else ((m_X7_rewrite h3 x0 v6).bind fun h7 => (dp_gi h7 x0 7 24).bind fun v8 => (m_X7_within h7 v8 1 10).bind fun v9 => if v9 = 0 then (some (h7, (-1))) else ((dp_gr h7 x0 7 6).bind fun v10 => (dp_ai false h7 v10 v6).bind fun v11 => if v11 = 10 then (k7 h7 x0 1) else ((dp_gr h7 x0 7 6).bind fun v12 => (dp_ai false h7 v12 v6).bind fun v13 => some (h7, v13))))))
def m_X7_read_7  : Nat → dp_H → Nat → Int32 → Option (dp_H × Int32)
  | 0 => fun _ _ _ => none
  | n + 1 => fun h x0 x1 => b_X7_read_7 (m_X7_read_7  n) h x0 x1
def m_X7_read (h : dp_H) (x0 : Nat) : Option (dp_H × Int32) := dp_ck h x0 7 ((dp_p h x0 7 26 (.inl 0)).bind fun h1 => m_X7_read_7 64 h1 x0 1)
abbrev rm_X7_isRow : Room := { frames := 1, cells := 0, slots := 0, locals := 22 }
def b_X7_isRow_13 (h : dp_H) (k13 : Nat → Int32 → Int32 → Option Int32) (x0 : Nat) (x1 : Int32) (x2 : Int32) : Option Int32 := (dp_gi h x0 7 0).bind fun v1 => if v1 ≤ x2 then (dp_b x1 (some x1)) else (if x1 = 0 then (k13 x0 0 (x2 + 1)) else ((dp_gr h x0 7 1).bind fun v2 => (dp_ai false h v2 x2).bind fun v3 => (m_X7_within h v3 48 57).bind fun v4 => if v4 = 0 then (k13 x0 0 (x2 + 1)) else (k13 x0 1 (x2 + 1))))
def m_X7_isRow_13 (h : dp_H)  : Nat → Nat → Int32 → Int32 → Option Int32
  | 0 => fun _ _ _ => none
  | n + 1 => fun x0 x1 x2 => b_X7_isRow_13 h (m_X7_isRow_13 h  n) x0 x1 x2
def m_X7_isRow (h : dp_H) (x0 : Nat) : Option Int32 := dp_ck h x0 7 ((dp_gi h x0 7 0).bind fun v1 => (m_X7_within h v1 1 10).bind fun v2 => m_X7_isRow_13 h 64 x0 v2 0)
abbrev rm_X7_rowNow : Room := { frames := 5, cells := 0, slots := 0, locals := 114 }
def b_X7_rowNow_125  (h : dp_H) (x0 : Nat) (x1 : Int32) (y0 : Int32) : Option (dp_H × Int32) := if x1 = 5 then (some (h, y0)) else (if y0 ≤ (x1 - 10) then (some (h, (-1))) else ((dp_gr h x0 7 25).bind fun v1 => (dp_ai false h v1 (x1 - 10)).bind fun v2 => some (h, v2)))
def b_X7_rowNow_10 (k10 : dp_H → Nat → Int32 → Int32 → Option (dp_H × Int32)) (h : dp_H) (x0 : Nat) (x1 : Int32) (x2 : Int32) : Option (dp_H × Int32) := (dp_gi h x0 7 24).bind fun v1 => if v1 ≤ x2 then (if 3 ≤ x1 then (dp_b2 (m_X7_read h x0) fun h2 v3 => if 5 ≤ x1 then (if v3 = (-1) then (b_X7_rowNow_125 h2 x0 x1 0) else ((dp_gi h2 x0 7 24).bind fun v4 => b_X7_rowNow_125 h2 x0 x1 v4)) else (if x1 = 3 then (some (h2, v3)) else ((dp_gi h2 x0 7 26).bind fun v5 => some (h2, v5)))) else (if x1 = 0 then ((dp_gi h x0 7 24).bind fun v10 => (m_X7_fitting h x0 v10).bind fun v11 => (m_X7_winner h x0 v11).bind fun v12 => some (h, v12)) else (if x1 = 1 then ((dp_gi h x0 7 24).bind fun v8 => (m_X7_fitting h x0 v8).bind fun v9 => some (h, v9)) else ((dp_gi h x0 7 24).bind fun v6 => (m_X7_leading h x0 v6).bind fun v7 => some (h, v7))))) else ((dp_gr h x0 7 25).bind fun v13 => (dp_gr h x0 7 1).bind fun v14 => (dp_ai false h v14 x2).bind fun v15 => (dp_si false h v13 x2 (v15 - 48)).bind fun h16 => k10 h16 x0 x1 (x2 + 1))
def m_X7_rowNow_10  : Nat → dp_H → Nat → Int32 → Int32 → Option (dp_H × Int32)
  | 0 => fun _ _ _ _ => none
  | n + 1 => fun h x0 x1 x2 => b_X7_rowNow_10 (m_X7_rowNow_10  n) h x0 x1 x2
def m_X7_rowNow (h : dp_H) (x0 : Nat) (x1 : Int32) : Option (dp_H × Int32) := dp_ck h x0 7 ((dp_gi h x0 7 0).bind fun v1 => (dp_p h x0 7 24 (.inl v1)).bind fun h2 => m_X7_rowNow_10 64 h2 x0 x1 0)
abbrev rm_X7_row : Room := { frames := 6, cells := 0, slots := 0, locals := 137 }
def m_X7_row (h : dp_H) (x0 : Nat) (x1 : Int32) : Option (dp_H × Int32) := dp_ck h x0 7 ((m_X7_within h x1 0 5).bind fun v1 => if v1 = 0 then ((m_X7_within h x1 10 19).bind fun v5 => if v5 = 0 then (some (h, (-1002))) else ((m_X7_isRow h x0).bind fun v6 => if v6 = 0 then (some (h, (-1003))) else (dp_b2 (m_X7_rowNow h x0 x1) fun h7 v8 => some (h7, v8)))) else ((m_X7_isRow h x0).bind fun v2 => if v2 = 0 then (some (h, (-1003))) else (dp_b2 (m_X7_rowNow h x0 x1) fun h3 v4 => some (h3, v4))))
abbrev rm_X7_stage : Room := { frames := 1, cells := 0, slots := 0, locals := 22 }
def m_X7_stage (h : dp_H) (x0 : Nat) (x1 : Int32) (x2 : Int32) : Option (dp_H × Int32) := dp_ck h x0 7 ((m_X7_within h x1 0 2).bind fun v1 => if v1 = 0 then (some (h, (-1002))) else ((m_X7_within h x2 1 99).bind fun v2 => if v2 = 0 then (some (h, (-1002))) else ((dp_gr h x0 7 10).bind fun v3 => (dp_ai false h v3 x1).bind fun v4 => (dp_gr h x0 7 10).bind fun v5 => (dp_si false h v5 x1 x2).bind fun h6 => some (h6, v4))))
abbrev rm_X7_layPressed : Room := { frames := 0, cells := 0, slots := 0, locals := 0 }
def b_X7_layPressed_10 (k10 : dp_H → Nat → Int32 → Option dp_H) (h : dp_H) (x0 : Nat) (x1 : Int32) : Option dp_H := (dp_gi h x0 7 28).bind fun v1 => if v1 ≤ x1 then (some h) else ((dp_gr h x0 7 25).bind fun v2 => (dp_gr h x0 7 29).bind fun v3 => (dp_ai false h v3 x1).bind fun v4 => (dp_si false h v2 x1 v4).bind fun h5 => k10 h5 x0 (x1 + 1))
def m_X7_layPressed_10  : Nat → dp_H → Nat → Int32 → Option dp_H
  | 0 => fun _ _ _ => none
  | n + 1 => fun h x0 x1 => b_X7_layPressed_10 (m_X7_layPressed_10  n) h x0 x1
def m_X7_layPressed (h : dp_H) (x0 : Nat) : Option dp_H := dp_ck h x0 7 ((dp_gi h x0 7 28).bind fun v1 => (dp_p h x0 7 24 (.inl v1)).bind fun h2 => m_X7_layPressed_10 64 h2 x0 0)
abbrev rm_X7_lift : Room := { frames := 0, cells := 0, slots := 0, locals := 0 }
def m_X7_lift (h : dp_H) (x0 : Nat) : Option (dp_H × Int32) := dp_ck h x0 7 ((dp_gi h x0 7 27).bind fun v1 => if v1 = 0 then ((dp_p h x0 7 27 (.inl 1)).bind fun h2 => (dp_p h2 x0 7 28 (.inl 0)).bind fun h3 => (dp_p h3 x0 7 31 (.inl 0)).bind fun h4 => (dp_gr h4 x0 7 10).bind fun v5 => (dp_ai false h4 v5 0).bind fun v6 => (dp_p h4 x0 7 30 (.inl v6)).bind fun h7 => (dp_gi h7 x0 7 11).bind fun v8 => (dp_p h7 x0 7 11 (.inl (v8 + 1))).bind fun h9 => (dp_gi h9 x0 7 30).bind fun v10 => some (h9, v10)) else (some (h, (-1003))))
abbrev rm_X7_hang : Room := { frames := 0, cells := 0, slots := 0, locals := 0 }
def m_X7_hang (h : dp_H) (x0 : Nat) : Option (dp_H × Int32) := dp_ck h x0 7 ((dp_gi h x0 7 27).bind fun v1 => if v1 = 0 then (some (h, (-1003))) else ((dp_gi h x0 7 28).bind fun v2 => (dp_p h x0 7 27 (.inl 0)).bind fun h3 => (dp_p h3 x0 7 28 (.inl 0)).bind fun h4 => (dp_p h4 x0 7 31 (.inl 0)).bind fun h5 => some (h5, v2)))
abbrev rm_X7_ends : Room := { frames := 4, cells := 0, slots := 0, locals := 91 }
def b_X7_ends_47  (h : dp_H) (x0 : Nat) (y0 : Int32) (y1 : Int32) (y2 : Nat) : Option (dp_H × Int32) := (dp_p h y2 7 12 (.inl (y1 + y0))).bind fun h1 => (dp_gi h1 x0 7 13).bind fun v2 => (dp_gi h1 x0 7 27).bind fun v3 => if v3 = 3 then ((dp_p h1 x0 7 13 (.inl (v2 + 1))).bind fun h6 => (dp_gi h6 x0 7 27).bind fun v7 => some (h6, v7)) else ((dp_p h1 x0 7 13 (.inl (v2 + 0))).bind fun h4 => (dp_gi h4 x0 7 27).bind fun v5 => some (h4, v5))
def m_X7_ends (h : dp_H) (x0 : Nat) (x1 : Int32) : Option (dp_H × Int32) := dp_ck h x0 7 ((m_X7_layPressed h x0).bind fun h1 => (dp_p h1 x0 7 31 (.inl x1)).bind fun h2 => (dp_gi h2 x0 7 28).bind fun v3 => (m_X7_fitting h2 x0 v3).bind fun v4 => if v4 = 0 then ((dp_p h2 x0 7 27 (.inl 3)).bind fun h5 => (dp_gi h5 x0 7 12).bind fun v6 => (dp_gi h5 x0 7 27).bind fun v7 => if v7 = 2 then (b_X7_ends_47 h5 x0 1 v6 x0) else (b_X7_ends_47 h5 x0 0 v6 x0)) else ((dp_p h2 x0 7 27 (.inl 2)).bind fun h8 => (dp_gi h8 x0 7 12).bind fun v9 => (dp_gi h8 x0 7 27).bind fun v10 => if v10 = 2 then (b_X7_ends_47 h8 x0 1 v9 x0) else (b_X7_ends_47 h8 x0 0 v9 x0)))
abbrev rm_X7_helps : Room := { frames := 0, cells := 0, slots := 0, locals := 0 }
def b_X7_helps_4 (h : dp_H) (k4 : Nat → Int32 → Int32 → Int32 → Option Int32) (x0 : Nat) (x1 : Int32) (x2 : Int32) (x3 : Int32) : Option Int32 := (dp_gi h x0 7 2).bind fun v1 => if v1 ≤ x3 then (some x2) else (if ((x1 >>> (x3 &&& 31)) &&& 1) = 1 then ((dp_gr h x0 7 6).bind fun v2 => (dp_ai false h v2 x3).bind fun v3 => if v3 = 9 then (k4 x0 x1 (x2 ||| (1 <<< (x3 &&& 31))) (x3 + 1)) else (k4 x0 x1 (x2 ||| 0) (x3 + 1))) else (k4 x0 x1 (x2 ||| 0) (x3 + 1)))
def m_X7_helps_4 (h : dp_H)  : Nat → Nat → Int32 → Int32 → Int32 → Option Int32
  | 0 => fun _ _ _ _ => none
  | n + 1 => fun x0 x1 x2 x3 => b_X7_helps_4 h (m_X7_helps_4 h  n) x0 x1 x2 x3
def m_X7_helps (h : dp_H) (x0 : Nat) (x1 : Int32) : Option Int32 := dp_ck h x0 7 (m_X7_helps_4 h 64 x0 x1 0 0)
abbrev rm_X7_press : Room := { frames := 5, cells := 0, slots := 0, locals := 112 }
def m_X7_press (h : dp_H) (x0 : Nat) (x1 : Int32) : Option (dp_H × Int32) := dp_ck h x0 7 ((m_X7_within h x1 0 9).bind fun v1 => if v1 = 0 then (some (h, (-1002))) else ((dp_gi h x0 7 27).bind fun v2 => if v2 = 1 then ((dp_gr h x0 7 29).bind fun v3 => (dp_gi h x0 7 28).bind fun v4 => (dp_si false h v3 v4 x1).bind fun h5 => (dp_gi h5 x0 7 28).bind fun v6 => (dp_p h5 x0 7 28 (.inl (v6 + 1))).bind fun h7 => (dp_gi h7 x0 7 14).bind fun v8 => (dp_p h7 x0 7 14 (.inl (v8 + 1))).bind fun h9 => (m_X7_layPressed h9 x0).bind fun h10 => (dp_gi h10 x0 7 28).bind fun v11 => (m_X7_fitting h10 x0 v11).bind fun v12 => (m_X7_helps h10 x0 v12).bind fun v13 => if v13 = 0 then ((dp_gi h10 x0 7 28).bind fun v14 => if v14 = 10 then (dp_b2 (m_X7_ends h10 x0 1) fun h15 v16 => some (h15, v16)) else ((dp_gi h10 x0 7 28).bind fun v17 => (m_X7_leading h10 x0 v17).bind fun v18 => if v18 = 0 then (dp_b2 (m_X7_ends h10 x0 1) fun h24 v25 => some (h24, v25)) else ((dp_gr h10 x0 7 10).bind fun v19 => if v12 = 0 then ((dp_ai false h10 v19 1).bind fun v22 => (dp_p h10 x0 7 30 (.inl v22)).bind fun h23 => some (h23, 1)) else ((dp_ai false h10 v19 2).bind fun v20 => (dp_p h10 x0 7 30 (.inl v20)).bind fun h21 => some (h21, 1))))) else (dp_b2 (m_X7_ends h10 x0 4) fun h26 v27 => some (h26, v27))) else (some (h, (-1003)))))
abbrev rm_X7_pass : Room := { frames := 5, cells := 0, slots := 0, locals := 112 }
def m_X7_pass (h : dp_H) (x0 : Nat) (x1 : Int32) : Option (dp_H × Int32) := dp_ck h x0 7 ((m_X7_within h x1 1 99).bind fun v1 => if v1 = 0 then (some (h, (-1002))) else ((dp_gi h x0 7 27).bind fun v2 => if v2 = 1 then ((dp_gi h x0 7 30).bind fun v3 => (dp_p h x0 7 30 (.inl (v3 - x1))).bind fun h4 => (dp_gi h4 x0 7 30).bind fun v5 => if 0 < v5 then (some (h4, 1)) else (dp_b2 (m_X7_ends h4 x0 2) fun h6 v7 => some (h6, v7))) else (some (h, (-1003)))))
abbrev rm_X7_end : Room := { frames := 5, cells := 0, slots := 0, locals := 112 }
def m_X7_end (h : dp_H) (x0 : Nat) : Option (dp_H × Int32) := dp_ck h x0 7 ((dp_gi h x0 7 27).bind fun v1 => if v1 = 1 then (dp_b2 (m_X7_ends h x0 3) fun h2 v3 => some (h2, v3)) else (some (h, (-1003))))
abbrev rm_X7_stageNow : Room := { frames := 4, cells := 0, slots := 0, locals := 91 }
def m_X7_stageNow (h : dp_H) (x0 : Nat) : Option (dp_H × Int32) := dp_ck h x0 7 ((m_X7_layPressed h x0).bind fun h1 => (dp_gi h1 x0 7 28).bind fun v2 => if v2 = 0 then (some (h1, 0)) else ((dp_gi h1 x0 7 28).bind fun v3 => (m_X7_fitting h1 x0 v3).bind fun v4 => if v4 = 0 then (some (h1, 1)) else (some (h1, 2))))
abbrev rm_X7_winsNow : Room := { frames := 4, cells := 0, slots := 0, locals := 92 }
def m_X7_winsNow (h : dp_H) (x0 : Nat) : Option (dp_H × Int32) := dp_ck h x0 7 ((m_X7_layPressed h x0).bind fun h1 => (dp_gi h1 x0 7 31).bind fun v2 => if v2 = 4 then ((dp_gi h1 x0 7 28).bind fun v6 => (m_X7_fitting h1 x0 v6).bind fun v7 => (m_X7_helps h1 x0 v7).bind fun v8 => (m_X7_winner h1 x0 v8).bind fun v9 => some (h1, v9)) else ((dp_gi h1 x0 7 28).bind fun v3 => (m_X7_fitting h1 x0 v3).bind fun v4 => (m_X7_winner h1 x0 v4).bind fun v5 => some (h1, v5)))
abbrev rm_X7_isSureBy : Room := { frames := 4, cells := 0, slots := 0, locals := 91 }
def b_X7_isSureBy_72 (h : dp_H) (k28 : Nat → Int32 → Int32 → Int32 → Int32 → Option Int32) (x0 : Nat) (x2 : Int32) (x3 : Int32) (x5 : Int32) (y0 : Int32) : Option Int32 := if x3 = (-1) then (k28 x0 x2 x5 y0 (x5 + 1)) else (k28 x0 x2 x3 y0 (x5 + 1))
def b_X7_isSureBy_28 (h : dp_H) (k28 : Nat → Int32 → Int32 → Int32 → Int32 → Option Int32) (x0 : Nat) (x2 : Int32) (x3 : Int32) (x4 : Int32) (x5 : Int32) : Option Int32 := (dp_gi h x0 7 2).bind fun v1 => if v1 ≤ x5 then (dp_b x4 (some x4)) else (if ((x2 >>> (x5 &&& 31)) &&& 1) = 1 then (if x4 = 0 then (b_X7_isSureBy_72 h k28 x0 x2 x3 x5 0) else (if x3 = (-1) then (b_X7_isSureBy_72 h k28 x0 x2 x3 x5 1) else ((m_X7_areLike h x0 x3 x5).bind fun v2 => if v2 = 0 then (b_X7_isSureBy_72 h k28 x0 x2 x3 x5 0) else (b_X7_isSureBy_72 h k28 x0 x2 x3 x5 1)))) else (k28 x0 x2 x3 x4 (x5 + 1)))
def m_X7_isSureBy_28 (h : dp_H)  : Nat → Nat → Int32 → Int32 → Int32 → Int32 → Option Int32
  | 0 => fun _ _ _ _ _ => none
  | n + 1 => fun x0 x2 x3 x4 x5 => b_X7_isSureBy_28 h (m_X7_isSureBy_28 h  n) x0 x2 x3 x4 x5
def m_X7_isSureBy (h : dp_H) (x0 : Nat) (x1 : Int32) : Option Int32 := dp_ck h x0 7 ((m_X7_fitting h x0 x1).bind fun v1 => (m_X7_leading h x0 x1).bind fun v2 => if (v1 ||| v2) = 0 then (m_X7_isSureBy_28 h 64 x0 (v1 ||| v2) (-1) 0 0) else (m_X7_isSureBy_28 h 64 x0 (v1 ||| v2) (-1) 1 0))
abbrev rm_X7_sureNow : Room := { frames := 5, cells := 0, slots := 0, locals := 116 }
def b_X7_sureNow_11 (k11 : dp_H → Nat → Int32 → Int32 → Option (dp_H × Int32)) (h : dp_H) (x0 : Nat) (x1 : Int32) (x2 : Int32) : Option (dp_H × Int32) := if x2 < 0 then (some (h, x1)) else ((m_X7_isSureBy h x0 x2).bind fun v1 => if v1 = 0 then (k11 h x0 x1 (x2 + (-1))) else (k11 h x0 x2 (x2 + (-1))))
def m_X7_sureNow_11  : Nat → dp_H → Nat → Int32 → Int32 → Option (dp_H × Int32)
  | 0 => fun _ _ _ _ => none
  | n + 1 => fun h x0 x1 x2 => b_X7_sureNow_11 (m_X7_sureNow_11  n) h x0 x1 x2
def m_X7_sureNow (h : dp_H) (x0 : Nat) : Option (dp_H × Int32) := dp_ck h x0 7 ((m_X7_layPressed h x0).bind fun h1 => (dp_gi h1 x0 7 28).bind fun v2 => m_X7_sureNow_11 64 h1 x0 (-1) v2)
abbrev rm_X7_wayNow : Room := { frames := 5, cells := 0, slots := 0, locals := 114 }
def m_X7_wayNow (h : dp_H) (x0 : Nat) : Option (dp_H × Int32) := dp_ck h x0 7 ((m_X7_layPressed h x0).bind fun h1 => (dp_gi h1 x0 7 31).bind fun v2 => if v2 = 4 then (some (h1, 9)) else (dp_b2 (m_X7_read h1 x0) fun h3 v4 => some (h3, v4)))
abbrev rm_X7_lineNow : Room := { frames := 6, cells := 0, slots := 0, locals := 138 }
def m_X7_lineNow (h : dp_H) (x0 : Nat) (x1 : Int32) : Option (dp_H × Int32) := dp_ck h x0 7 (if x1 = 0 then ((dp_gi h x0 7 27).bind fun v1 => some (h, v1)) else if x1 = 1 then ((dp_gi h x0 7 28).bind fun v2 => some (h, v2)) else if x1 = 2 then ((dp_gi h x0 7 27).bind fun v3 => if v3 = 1 then ((dp_gi h x0 7 30).bind fun v4 => some (h, v4)) else (some (h, 0))) else if x1 = 3 then ((dp_gi h x0 7 27).bind fun v5 => if v5 = 1 then (dp_b2 (m_X7_stageNow h x0) fun h6 v7 => some (h6, v7)) else (some (h, (-1)))) else if x1 = 4 then ((dp_gi h x0 7 27).bind fun v8 => if v8 = 2 then (dp_b2 (m_X7_winsNow h x0) fun h9 v10 => some (h9, v10)) else (some (h, (-1)))) else if x1 = 5 then (dp_b2 (m_X7_sureNow h x0) fun h11 v12 => some (h11, v12)) else if x1 = 6 then ((dp_gi h x0 7 31).bind fun v13 => some (h, v13)) else if x1 = 7 then ((dp_gi h x0 7 27).bind fun v14 => if v14 = 2 then (dp_b2 (m_X7_wayNow h x0) fun h15 v16 => some (h15, v16)) else (some (h, (-1)))) else ((dp_gi h x0 7 28).bind fun v17 => if v17 ≤ (x1 - 10) then (some (h, (-1))) else ((dp_gr h x0 7 29).bind fun v18 => (dp_ai false h v18 (x1 - 10)).bind fun v19 => some (h, v19))))
abbrev rm_X7_line : Room := { frames := 7, cells := 0, slots := 0, locals := 159 }
def m_X7_line (h : dp_H) (x0 : Nat) (x1 : Int32) : Option (dp_H × Int32) := dp_ck h x0 7 ((m_X7_within h x1 0 7).bind fun v1 => if v1 = 0 then ((m_X7_within h x1 10 19).bind fun v4 => if v4 = 0 then (some (h, (-1002))) else (dp_b2 (m_X7_lineNow h x0 x1) fun h5 v6 => some (h5, v6))) else (dp_b2 (m_X7_lineNow h x0 x1) fun h2 v3 => some (h2, v3)))
abbrev rm_X7_howMany : Room := { frames := 5, cells := 0, slots := 0, locals := 115 }
def m_X7_howMany (h : dp_H) (x0 : Nat) (x1 : Int32) : Option Int32 := dp_ck h x0 7 (if x1 = 0 then ((dp_gi h x0 7 2).bind fun v1 => some v1) else if x1 = 1 then ((dp_gi h x0 7 0).bind fun v2 => some v2) else if x1 = 2 then ((m_X7_clashes h x0).bind fun v3 => some v3) else if x1 = 3 then ((dp_gr h x0 7 10).bind fun v4 => (dp_ai false h v4 (x1 - 3)).bind fun v5 => some v5) else if x1 = 4 then ((dp_gr h x0 7 10).bind fun v6 => (dp_ai false h v6 (x1 - 3)).bind fun v7 => some v7) else if x1 = 5 then ((dp_gr h x0 7 10).bind fun v8 => (dp_ai false h v8 (x1 - 3)).bind fun v9 => some v9) else if x1 = 6 then ((dp_gi h x0 7 11).bind fun v10 => some v10) else if x1 = 7 then ((dp_gi h x0 7 12).bind fun v11 => some v11) else if x1 = 8 then ((dp_gi h x0 7 13).bind fun v12 => some v12) else if x1 = 9 then ((dp_gi h x0 7 14).bind fun v13 => some v13) else (some (-1002)))
abbrev rm_X7_count : Room := { frames := 6, cells := 0, slots := 0, locals := 136 }
def m_X7_count (h : dp_H) (x0 : Nat) (x1 : Int32) : Option Int32 := dp_ck h x0 7 ((m_X7_howMany h x0 x1).bind fun v1 => some v1)
abbrev rm_X7_mix : Room := { frames := 0, cells := 0, slots := 0, locals := 0 }
def m_X7_mix (h : dp_H) (x0 : Nat) (x1 : Int64) : Option dp_H := dp_ck h x0 7 ((dp_gl h x0 7 32).bind fun v1 => (dp_p h x0 7 32 (.inr (.inl ((31 * v1) + x1)))).bind fun h2 => some h2)
abbrev rm_X7_digest : Room := { frames := 7, cells := 0, slots := 0, locals := 159 }
def b_X7_digest_44 (k9 : dp_H → Nat → Int32 → Option (dp_H × Int64)) (k44 : dp_H → Nat → Int32 → Int32 → Option (dp_H × Int64)) (h : dp_H) (x0 : Nat) (x1 : Int32) (x2 : Int32) : Option (dp_H × Int64) := if 10 ≤ x2 then (k9 h x0 (x1 + 1)) else ((m_X7_letsOf h x0 x1 x2).bind fun v1 => (m_X7_mix h x0 (Int32.toInt64 v1)).bind fun h2 => k44 h2 x0 x1 (x2 + 1))
def m_X7_digest_44 (k9 : dp_H → Nat → Int32 → Option (dp_H × Int64)) : Nat → dp_H → Nat → Int32 → Int32 → Option (dp_H × Int64)
  | 0 => fun _ _ _ _ => none
  | n + 1 => fun h x0 x1 x2 => b_X7_digest_44 k9 (m_X7_digest_44 k9 n) h x0 x1 x2
def b_X7_digest_19 (k9 : dp_H → Nat → Int32 → Option (dp_H × Int64)) (k19 : dp_H → Nat → Int32 → Int32 → Option (dp_H × Int64)) (h : dp_H) (x0 : Nat) (x1 : Int32) (x2 : Int32) : Option (dp_H × Int64) := if 6 ≤ x2 then (m_X7_digest_44 k9 64 h x0 x1 0) else ((m_X7_patternNow h x0 x1 x2).bind fun v1 => (m_X7_mix h x0 (Int32.toInt64 v1)).bind fun h2 => k19 h2 x0 x1 (x2 + 1))
def m_X7_digest_19 (k9 : dp_H → Nat → Int32 → Option (dp_H × Int64)) : Nat → dp_H → Nat → Int32 → Int32 → Option (dp_H × Int64)
  | 0 => fun _ _ _ _ => none
  | n + 1 => fun h x0 x1 x2 => b_X7_digest_19 k9 (m_X7_digest_19 k9 n) h x0 x1 x2
def b_X7_digest_178 (k178 : dp_H → Nat → Int32 → Option (dp_H × Int64)) (h : dp_H) (x0 : Nat) (x1 : Int32) : Option (dp_H × Int64) := if 10 ≤ x1 then ((dp_gl h x0 7 32).bind fun v1 => some (h, v1)) else ((m_X7_howMany h x0 x1).bind fun v2 => (m_X7_mix h x0 (Int32.toInt64 v2)).bind fun h3 => k178 h3 x0 (x1 + 1))
def m_X7_digest_178  : Nat → dp_H → Nat → Int32 → Option (dp_H × Int64)
  | 0 => fun _ _ _ => none
  | n + 1 => fun h x0 x1 => b_X7_digest_178 (m_X7_digest_178  n) h x0 x1
def b_X7_digest_151 (k151 : dp_H → Nat → Int32 → Option (dp_H × Int64)) (h : dp_H) (x0 : Nat) (x1 : Int32) : Option (dp_H × Int64) := (dp_gi h x0 7 0).bind fun v1 => if v1 ≤ x1 then (m_X7_digest_178 64 h x0 0) else ((dp_gr h x0 7 1).bind fun v2 => (dp_ai false h v2 x1).bind fun v3 => (m_X7_mix h x0 (Int32.toInt64 v3)).bind fun h4 => k151 h4 x0 (x1 + 1))
def m_X7_digest_151  : Nat → dp_H → Nat → Int32 → Option (dp_H × Int64)
  | 0 => fun _ _ _ => none
  | n + 1 => fun h x0 x1 => b_X7_digest_151 (m_X7_digest_151  n) h x0 x1
def b_X7_digest_127 (k127 : dp_H → Nat → Int32 → Option (dp_H × Int64)) (h : dp_H) (x0 : Nat) (x1 : Int32) : Option (dp_H × Int64) := if 20 ≤ x1 then (m_X7_digest_151 64 h x0 0) else (dp_b2 (m_X7_lineNow h x0 x1) fun h1 v2 => (m_X7_mix h1 x0 (Int32.toInt64 v2)).bind fun h3 => k127 h3 x0 (x1 + 1))
def m_X7_digest_127  : Nat → dp_H → Nat → Int32 → Option (dp_H × Int64)
  | 0 => fun _ _ _ => none
  | n + 1 => fun h x0 x1 => b_X7_digest_127 (m_X7_digest_127  n) h x0 x1
def b_X7_digest_102 (k102 : dp_H → Nat → Int32 → Option (dp_H × Int64)) (h : dp_H) (x0 : Nat) (x1 : Int32) : Option (dp_H × Int64) := if 8 ≤ x1 then (m_X7_digest_127 64 h x0 10) else (dp_b2 (m_X7_lineNow h x0 x1) fun h1 v2 => (m_X7_mix h1 x0 (Int32.toInt64 v2)).bind fun h3 => k102 h3 x0 (x1 + 1))
def m_X7_digest_102  : Nat → dp_H → Nat → Int32 → Option (dp_H × Int64)
  | 0 => fun _ _ _ => none
  | n + 1 => fun h x0 x1 => b_X7_digest_102 (m_X7_digest_102  n) h x0 x1
def b_X7_digest_75 (k75 : dp_H → Nat → Int32 → Option (dp_H × Int64)) (h : dp_H) (x0 : Nat) (x1 : Int32) : Option (dp_H × Int64) := (m_X7_clashAt h x0 x1).bind fun v1 => if v1 = (-1) then (m_X7_digest_102 64 h x0 0) else ((m_X7_clashAt h x0 x1).bind fun v2 => (m_X7_mix h x0 (Int32.toInt64 v2)).bind fun h3 => k75 h3 x0 (x1 + 1))
def m_X7_digest_75  : Nat → dp_H → Nat → Int32 → Option (dp_H × Int64)
  | 0 => fun _ _ _ => none
  | n + 1 => fun h x0 x1 => b_X7_digest_75 (m_X7_digest_75  n) h x0 x1
def b_X7_digest_9 (k9 : dp_H → Nat → Int32 → Option (dp_H × Int64)) (h : dp_H) (x0 : Nat) (x1 : Int32) : Option (dp_H × Int64) := (dp_gi h x0 7 2).bind fun v1 => if v1 ≤ x1 then (m_X7_digest_75 64 h x0 0) else (m_X7_digest_19 k9 64 h x0 x1 0)
def m_X7_digest_9  : Nat → dp_H → Nat → Int32 → Option (dp_H × Int64)
  | 0 => fun _ _ _ => none
  | n + 1 => fun h x0 x1 => b_X7_digest_9 (m_X7_digest_9  n) h x0 x1
def m_X7_digest (h : dp_H) (x0 : Nat) : Option (dp_H × Int64) := dp_ck h x0 7 ((dp_p h x0 7 32 (.inr (.inl 1669))).bind fun h1 => m_X7_digest_9 64 h1 x0 0)
end
