section
-- ===== PART A: goes FIRST, ahead of the names: the tables' words, and 'selects' of the private methods out of them =====
/-- a private method of a class that the tables say can be made, by its rows of tables_1 -/
def lw_okq (q : MethodName × Nat) : Prop := (q.1.cls ≠ "java/lang/invoke/MethodHandle" ∧ q.1.cls ≠ "java/lang/invoke/VarHandle") ∧ Cond.instantiable q.1.cls q.2 ∈ tables_1 ∧ Cond.privateMethod q.1 ∈ tables_1 ∧ Cond.instanceMethod q.1 ∈ tables_1
theorem lw_p0 : lw_okq (⟨"RefundDesk$Reader", "readSteps", "()I"⟩, 7) := ⟨⟨by decide +kernel, by decide +kernel⟩, List.mem_of_getElem? (i := 50) (by decide +kernel), List.mem_of_getElem? (i := 408) (by decide +kernel), List.mem_of_getElem? (i := 409) (by decide +kernel)⟩
theorem lw_p1 : lw_okq (⟨"RefundDesk$Reader", "skipBlanks", "()V"⟩, 7) := ⟨⟨by decide +kernel, by decide +kernel⟩, List.mem_of_getElem? (i := 50) (by decide +kernel), List.mem_of_getElem? (i := 412) (by decide +kernel), List.mem_of_getElem? (i := 413) (by decide +kernel)⟩
theorem lw_p2 : lw_okq (⟨"RefundDesk$Reader", "readStepNumbers", "(I)I"⟩, 7) := ⟨⟨by decide +kernel, by decide +kernel⟩, List.mem_of_getElem? (i := 50) (by decide +kernel), List.mem_of_getElem? (i := 425) (by decide +kernel), List.mem_of_getElem? (i := 426) (by decide +kernel)⟩
theorem lw_p3 : lw_okq (⟨"RefundDesk$Reader", "readNumber", "(II)I"⟩, 7) := ⟨⟨by decide +kernel, by decide +kernel⟩, List.mem_of_getElem? (i := 50) (by decide +kernel), List.mem_of_getElem? (i := 435) (by decide +kernel), List.mem_of_getElem? (i := 436) (by decide +kernel)⟩
theorem lw_p4 : lw_okq (⟨"RefundDesk$Reader", "readClauses", "(I)I"⟩, 7) := ⟨⟨by decide +kernel, by decide +kernel⟩, List.mem_of_getElem? (i := 50) (by decide +kernel), List.mem_of_getElem? (i := 442) (by decide +kernel), List.mem_of_getElem? (i := 443) (by decide +kernel)⟩
theorem lw_p5 : lw_okq (⟨"RefundDesk$Reader", "readItems", "(I)I"⟩, 7) := ⟨⟨by decide +kernel, by decide +kernel⟩, List.mem_of_getElem? (i := 50) (by decide +kernel), List.mem_of_getElem? (i := 450) (by decide +kernel), List.mem_of_getElem? (i := 451) (by decide +kernel)⟩
theorem lw_p6 : lw_okq (⟨"RefundDesk$Reader", "startPart", "(I)I"⟩, 7) := ⟨⟨by decide +kernel, by decide +kernel⟩, List.mem_of_getElem? (i := 50) (by decide +kernel), List.mem_of_getElem? (i := 456) (by decide +kernel), List.mem_of_getElem? (i := 457) (by decide +kernel)⟩
theorem lw_p7 : lw_okq (⟨"RefundDesk", "noLoan", "()Z"⟩, 14) := ⟨⟨by decide +kernel, by decide +kernel⟩, List.mem_of_getElem? (i := 25) (by decide +kernel), List.mem_of_getElem? (i := 470) (by decide +kernel), List.mem_of_getElem? (i := 471) (by decide +kernel)⟩
theorem lw_p8 : lw_okq (⟨"RefundDesk", "takeLoan", "()I"⟩, 14) := ⟨⟨by decide +kernel, by decide +kernel⟩, List.mem_of_getElem? (i := 25) (by decide +kernel), List.mem_of_getElem? (i := 479) (by decide +kernel), List.mem_of_getElem? (i := 480) (by decide +kernel)⟩
theorem lw_p9 : lw_okq (⟨"RefundDesk", "takeClause", "(IIII)V"⟩, 14) := ⟨⟨by decide +kernel, by decide +kernel⟩, List.mem_of_getElem? (i := 25) (by decide +kernel), List.mem_of_getElem? (i := 501) (by decide +kernel), List.mem_of_getElem? (i := 502) (by decide +kernel)⟩
theorem lw_p10 : lw_okq (⟨"RefundDesk", "isNode", "(II)Z"⟩, 14) := ⟨⟨by decide +kernel, by decide +kernel⟩, List.mem_of_getElem? (i := 25) (by decide +kernel), List.mem_of_getElem? (i := 505) (by decide +kernel), List.mem_of_getElem? (i := 506) (by decide +kernel)⟩
theorem lw_p11 : lw_okq (⟨"RefundDesk", "takePolicy", "()I"⟩, 14) := ⟨⟨by decide +kernel, by decide +kernel⟩, List.mem_of_getElem? (i := 25) (by decide +kernel), List.mem_of_getElem? (i := 517) (by decide +kernel), List.mem_of_getElem? (i := 518) (by decide +kernel)⟩
theorem lw_p12 : lw_okq (⟨"RefundDesk$Tables", "takesOver", "([III)Z"⟩, 12) := ⟨⟨by decide +kernel, by decide +kernel⟩, List.mem_of_getElem? (i := 98) (by decide +kernel), List.mem_of_getElem? (i := 541) (by decide +kernel), List.mem_of_getElem? (i := 542) (by decide +kernel)⟩
theorem lw_p13 : lw_okq (⟨"RefundDesk$Tables", "reckonYears", "()V"⟩, 12) := ⟨⟨by decide +kernel, by decide +kernel⟩, List.mem_of_getElem? (i := 98) (by decide +kernel), List.mem_of_getElem? (i := 545) (by decide +kernel), List.mem_of_getElem? (i := 546) (by decide +kernel)⟩
theorem lw_p14 : lw_okq (⟨"RefundDesk$Tables", "priceOf", "(I)I"⟩, 12) := ⟨⟨by decide +kernel, by decide +kernel⟩, List.mem_of_getElem? (i := 98) (by decide +kernel), List.mem_of_getElem? (i := 549) (by decide +kernel), List.mem_of_getElem? (i := 550) (by decide +kernel)⟩
theorem lw_p15 : lw_okq (⟨"RefundDesk$Tables", "reckonDeeds", "(LRefundDesk$Table;IIII)V"⟩, 12) := ⟨⟨by decide +kernel, by decide +kernel⟩, List.mem_of_getElem? (i := 98) (by decide +kernel), List.mem_of_getElem? (i := 595) (by decide +kernel), List.mem_of_getElem? (i := 596) (by decide +kernel)⟩
def lw_privs_1 : List (MethodName × Nat) := [(⟨"RefundDesk$Reader", "readSteps", "()I"⟩, 7), (⟨"RefundDesk$Reader", "skipBlanks", "()V"⟩, 7), (⟨"RefundDesk$Reader", "readStepNumbers", "(I)I"⟩, 7), (⟨"RefundDesk$Reader", "readNumber", "(II)I"⟩, 7), (⟨"RefundDesk$Reader", "readClauses", "(I)I"⟩, 7), (⟨"RefundDesk$Reader", "readItems", "(I)I"⟩, 7), (⟨"RefundDesk$Reader", "startPart", "(I)I"⟩, 7), (⟨"RefundDesk", "noLoan", "()Z"⟩, 14), (⟨"RefundDesk", "takeLoan", "()I"⟩, 14), (⟨"RefundDesk", "takeClause", "(IIII)V"⟩, 14), (⟨"RefundDesk", "isNode", "(II)Z"⟩, 14), (⟨"RefundDesk", "takePolicy", "()I"⟩, 14), (⟨"RefundDesk$Tables", "takesOver", "([III)Z"⟩, 12), (⟨"RefundDesk$Tables", "reckonYears", "()V"⟩, 12), (⟨"RefundDesk$Tables", "priceOf", "(I)I"⟩, 12), (⟨"RefundDesk$Tables", "reckonDeeds", "(LRefundDesk$Table;IIII)V"⟩, 12)]
theorem lw_r1 : ∀ q ∈ lw_privs_1, lw_okq q := List.forall_mem_cons.mpr ⟨lw_p0, List.forall_mem_cons.mpr ⟨lw_p1, List.forall_mem_cons.mpr ⟨lw_p2, List.forall_mem_cons.mpr ⟨lw_p3, List.forall_mem_cons.mpr ⟨lw_p4, List.forall_mem_cons.mpr ⟨lw_p5, List.forall_mem_cons.mpr ⟨lw_p6, List.forall_mem_cons.mpr ⟨lw_p7, List.forall_mem_cons.mpr ⟨lw_p8, List.forall_mem_cons.mpr ⟨lw_p9, List.forall_mem_cons.mpr ⟨lw_p10, List.forall_mem_cons.mpr ⟨lw_p11, List.forall_mem_cons.mpr ⟨lw_p12, List.forall_mem_cons.mpr ⟨lw_p13, List.forall_mem_cons.mpr ⟨lw_p14, List.forall_mem_cons.mpr ⟨lw_p15, fun _ h => absurd h List.not_mem_nil⟩⟩⟩⟩⟩⟩⟩⟩⟩⟩⟩⟩⟩⟩⟩⟩
theorem lw_p16 : lw_okq (⟨"RefundDesk", "act", "(IIIIZ)I"⟩, 14) := ⟨⟨by decide +kernel, by decide +kernel⟩, List.mem_of_getElem? (i := 25) (by decide +kernel), List.mem_of_getElem? (i := 626) (by decide +kernel), List.mem_of_getElem? (i := 627) (by decide +kernel)⟩
theorem lw_p17 : lw_okq (⟨"RefundDesk$Office", "passYear", "(I)I"⟩, 4) := ⟨⟨by decide +kernel, by decide +kernel⟩, List.mem_of_getElem? (i := 200) (by decide +kernel), List.mem_of_getElem? (i := 640) (by decide +kernel), List.mem_of_getElem? (i := 641) (by decide +kernel)⟩
theorem lw_p18 : lw_okq (⟨"RefundDesk$Office", "settleNotice", "(I)I"⟩, 4) := ⟨⟨by decide +kernel, by decide +kernel⟩, List.mem_of_getElem? (i := 200) (by decide +kernel), List.mem_of_getElem? (i := 646) (by decide +kernel), List.mem_of_getElem? (i := 647) (by decide +kernel)⟩
theorem lw_p19 : lw_okq (⟨"RefundDesk$Office", "here", "()I"⟩, 4) := ⟨⟨by decide +kernel, by decide +kernel⟩, List.mem_of_getElem? (i := 200) (by decide +kernel), List.mem_of_getElem? (i := 651) (by decide +kernel), List.mem_of_getElem? (i := 652) (by decide +kernel)⟩
theorem lw_p20 : lw_okq (⟨"RefundDesk$Office", "giveNotice", "(I)I"⟩, 4) := ⟨⟨by decide +kernel, by decide +kernel⟩, List.mem_of_getElem? (i := 200) (by decide +kernel), List.mem_of_getElem? (i := 657) (by decide +kernel), List.mem_of_getElem? (i := 658) (by decide +kernel)⟩
theorem lw_p21 : lw_okq (⟨"RefundDesk$Office", "takeNoticeBack", "()I"⟩, 4) := ⟨⟨by decide +kernel, by decide +kernel⟩, List.mem_of_getElem? (i := 200) (by decide +kernel), List.mem_of_getElem? (i := 662) (by decide +kernel), List.mem_of_getElem? (i := 663) (by decide +kernel)⟩
theorem lw_p22 : lw_okq (⟨"RefundDesk$Office", "tellInstalment", "(II)I"⟩, 4) := ⟨⟨by decide +kernel, by decide +kernel⟩, List.mem_of_getElem? (i := 200) (by decide +kernel), List.mem_of_getElem? (i := 666) (by decide +kernel), List.mem_of_getElem? (i := 667) (by decide +kernel)⟩
theorem lw_p23 : lw_okq (⟨"RefundDesk$Office", "tellRate", "(III)I"⟩, 4) := ⟨⟨by decide +kernel, by decide +kernel⟩, List.mem_of_getElem? (i := 200) (by decide +kernel), List.mem_of_getElem? (i := 670) (by decide +kernel), List.mem_of_getElem? (i := 671) (by decide +kernel)⟩
theorem lw_p24 : lw_okq (⟨"RefundDesk$Office", "carryOut", "(I)I"⟩, 4) := ⟨⟨by decide +kernel, by decide +kernel⟩, List.mem_of_getElem? (i := 200) (by decide +kernel), List.mem_of_getElem? (i := 675) (by decide +kernel), List.mem_of_getElem? (i := 676) (by decide +kernel)⟩
theorem lw_p25 : lw_okq (⟨"RefundDesk$Office", "takeDeeds", "(LRefundDesk$Table;)I"⟩, 4) := ⟨⟨by decide +kernel, by decide +kernel⟩, List.mem_of_getElem? (i := 200) (by decide +kernel), List.mem_of_getElem? (i := 679) (by decide +kernel), List.mem_of_getElem? (i := 680) (by decide +kernel)⟩
theorem lw_p26 : lw_okq (⟨"RefundDesk", "chooseByDraws", "()V"⟩, 14) := ⟨⟨by decide +kernel, by decide +kernel⟩, List.mem_of_getElem? (i := 25) (by decide +kernel), List.mem_of_getElem? (i := 730) (by decide +kernel), List.mem_of_getElem? (i := 731) (by decide +kernel)⟩
theorem lw_p27 : lw_okq (⟨"RefundDesk", "draw", "(I)I"⟩, 14) := ⟨⟨by decide +kernel, by decide +kernel⟩, List.mem_of_getElem? (i := 25) (by decide +kernel), List.mem_of_getElem? (i := 734) (by decide +kernel), List.mem_of_getElem? (i := 735) (by decide +kernel)⟩
theorem lw_p28 : lw_okq (⟨"RefundDesk", "closed", "()Z"⟩, 14) := ⟨⟨by decide +kernel, by decide +kernel⟩, List.mem_of_getElem? (i := 25) (by decide +kernel), List.mem_of_getElem? (i := 771) (by decide +kernel), List.mem_of_getElem? (i := 772) (by decide +kernel)⟩
theorem lw_p29 : lw_okq (⟨"RefundDesk$Walk", "arrive", "(IIII)V"⟩, 15) := ⟨⟨by decide +kernel, by decide +kernel⟩, List.mem_of_getElem? (i := 255) (by decide +kernel), List.mem_of_getElem? (i := 784) (by decide +kernel), List.mem_of_getElem? (i := 785) (by decide +kernel)⟩
theorem lw_p30 : lw_okq (⟨"RefundDesk$Walk", "finish", "(IIIZ)V"⟩, 15) := ⟨⟨by decide +kernel, by decide +kernel⟩, List.mem_of_getElem? (i := 255) (by decide +kernel), List.mem_of_getElem? (i := 788) (by decide +kernel), List.mem_of_getElem? (i := 789) (by decide +kernel)⟩
theorem lw_p31 : lw_okq (⟨"RefundDesk$Walk", "passYear", "(IIIIII)V"⟩, 15) := ⟨⟨by decide +kernel, by decide +kernel⟩, List.mem_of_getElem? (i := 255) (by decide +kernel), List.mem_of_getElem? (i := 795) (by decide +kernel), List.mem_of_getElem? (i := 796) (by decide +kernel)⟩
def lw_privs_2 : List (MethodName × Nat) := [(⟨"RefundDesk", "act", "(IIIIZ)I"⟩, 14), (⟨"RefundDesk$Office", "passYear", "(I)I"⟩, 4), (⟨"RefundDesk$Office", "settleNotice", "(I)I"⟩, 4), (⟨"RefundDesk$Office", "here", "()I"⟩, 4), (⟨"RefundDesk$Office", "giveNotice", "(I)I"⟩, 4), (⟨"RefundDesk$Office", "takeNoticeBack", "()I"⟩, 4), (⟨"RefundDesk$Office", "tellInstalment", "(II)I"⟩, 4), (⟨"RefundDesk$Office", "tellRate", "(III)I"⟩, 4), (⟨"RefundDesk$Office", "carryOut", "(I)I"⟩, 4), (⟨"RefundDesk$Office", "takeDeeds", "(LRefundDesk$Table;)I"⟩, 4), (⟨"RefundDesk", "chooseByDraws", "()V"⟩, 14), (⟨"RefundDesk", "draw", "(I)I"⟩, 14), (⟨"RefundDesk", "closed", "()Z"⟩, 14), (⟨"RefundDesk$Walk", "arrive", "(IIII)V"⟩, 15), (⟨"RefundDesk$Walk", "finish", "(IIIZ)V"⟩, 15), (⟨"RefundDesk$Walk", "passYear", "(IIIIII)V"⟩, 15)]
theorem lw_r2 : ∀ q ∈ lw_privs_2, lw_okq q := List.forall_mem_cons.mpr ⟨lw_p16, List.forall_mem_cons.mpr ⟨lw_p17, List.forall_mem_cons.mpr ⟨lw_p18, List.forall_mem_cons.mpr ⟨lw_p19, List.forall_mem_cons.mpr ⟨lw_p20, List.forall_mem_cons.mpr ⟨lw_p21, List.forall_mem_cons.mpr ⟨lw_p22, List.forall_mem_cons.mpr ⟨lw_p23, List.forall_mem_cons.mpr ⟨lw_p24, List.forall_mem_cons.mpr ⟨lw_p25, List.forall_mem_cons.mpr ⟨lw_p26, List.forall_mem_cons.mpr ⟨lw_p27, List.forall_mem_cons.mpr ⟨lw_p28, List.forall_mem_cons.mpr ⟨lw_p29, List.forall_mem_cons.mpr ⟨lw_p30, List.forall_mem_cons.mpr ⟨lw_p31, fun _ h => absurd h List.not_mem_nil⟩⟩⟩⟩⟩⟩⟩⟩⟩⟩⟩⟩⟩⟩⟩⟩
theorem lw_p32 : lw_okq (⟨"RefundDesk$Walk", "settleNotice", "(IIIII)V"⟩, 15) := ⟨⟨by decide +kernel, by decide +kernel⟩, List.mem_of_getElem? (i := 255) (by decide +kernel), List.mem_of_getElem? (i := 800) (by decide +kernel), List.mem_of_getElem? (i := 801) (by decide +kernel)⟩
theorem lw_p33 : lw_okq (⟨"RefundDesk", "here", "()I"⟩, 14) := ⟨⟨by decide +kernel, by decide +kernel⟩, List.mem_of_getElem? (i := 25) (by decide +kernel), List.mem_of_getElem? (i := 835) (by decide +kernel), List.mem_of_getElem? (i := 836) (by decide +kernel)⟩
theorem lw_p34 : lw_okq (⟨"RefundDesk", "costHere", "(III)I"⟩, 14) := ⟨⟨by decide +kernel, by decide +kernel⟩, List.mem_of_getElem? (i := 25) (by decide +kernel), List.mem_of_getElem? (i := 839) (by decide +kernel), List.mem_of_getElem? (i := 840) (by decide +kernel)⟩
theorem lw_p35 : lw_okq (⟨"RefundDesk", "weighedHere", "(LRefundDesk$Table;[I)I"⟩, 14) := ⟨⟨by decide +kernel, by decide +kernel⟩, List.mem_of_getElem? (i := 25) (by decide +kernel), List.mem_of_getElem? (i := 854) (by decide +kernel), List.mem_of_getElem? (i := 855) (by decide +kernel)⟩
theorem lw_p36 : lw_okq (⟨"RefundDesk", "tillWithNotice", "(LRefundDesk$Table;I)I"⟩, 14) := ⟨⟨by decide +kernel, by decide +kernel⟩, List.mem_of_getElem? (i := 25) (by decide +kernel), List.mem_of_getElem? (i := 860) (by decide +kernel), List.mem_of_getElem? (i := 861) (by decide +kernel)⟩
theorem lw_p37 : lw_okq (⟨"RefundDesk", "tillAtOnce", "(I)I"⟩, 14) := ⟨⟨by decide +kernel, by decide +kernel⟩, List.mem_of_getElem? (i := 25) (by decide +kernel), List.mem_of_getElem? (i := 864) (by decide +kernel), List.mem_of_getElem? (i := 865) (by decide +kernel)⟩
theorem lw_p38 : lw_okq (⟨"RefundDesk", "leavesAt", "(IIZ)Z"⟩, 14) := ⟨⟨by decide +kernel, by decide +kernel⟩, List.mem_of_getElem? (i := 25) (by decide +kernel), List.mem_of_getElem? (i := 868) (by decide +kernel), List.mem_of_getElem? (i := 869) (by decide +kernel)⟩
theorem lw_p39 : lw_okq (⟨"RefundDesk", "mendsTrial", "()Z"⟩, 14) := ⟨⟨by decide +kernel, by decide +kernel⟩, List.mem_of_getElem? (i := 25) (by decide +kernel), List.mem_of_getElem? (i := 919) (by decide +kernel), List.mem_of_getElem? (i := 920) (by decide +kernel)⟩
theorem lw_p40 : lw_okq (⟨"RefundDesk", "tries", "(II)Z"⟩, 14) := ⟨⟨by decide +kernel, by decide +kernel⟩, List.mem_of_getElem? (i := 25) (by decide +kernel), List.mem_of_getElem? (i := 953) (by decide +kernel), List.mem_of_getElem? (i := 954) (by decide +kernel)⟩
theorem lw_p41 : lw_okq (⟨"RefundDesk", "leftNow", "()I"⟩, 14) := ⟨⟨by decide +kernel, by decide +kernel⟩, List.mem_of_getElem? (i := 25) (by decide +kernel), List.mem_of_getElem? (i := 965) (by decide +kernel), List.mem_of_getElem? (i := 966) (by decide +kernel)⟩
theorem lw_p42 : lw_okq (⟨"RefundDesk", "greatestRate", "()I"⟩, 14) := ⟨⟨by decide +kernel, by decide +kernel⟩, List.mem_of_getElem? (i := 25) (by decide +kernel), List.mem_of_getElem? (i := 969) (by decide +kernel), List.mem_of_getElem? (i := 970) (by decide +kernel)⟩
theorem lw_p43 : lw_okq (⟨"java/lang/Throwable", "fillInStackTrace", "(I)Ljava/lang/Throwable;"⟩, 6) := ⟨⟨by decide +kernel, by decide +kernel⟩, List.mem_of_getElem? (i := 1038) (by decide +kernel), List.mem_of_getElem? (i := 1036) (by decide +kernel), List.mem_of_getElem? (i := 1037) (by decide +kernel)⟩
theorem lw_p44 : lw_okq (⟨"RefundDeskModel", "brings", "(I)V"⟩, 45) := ⟨⟨by decide +kernel, by decide +kernel⟩, List.mem_of_getElem? (i := 1067) (by decide +kernel), List.mem_of_getElem? (i := 1221) (by decide +kernel), List.mem_of_getElem? (i := 1222) (by decide +kernel)⟩
theorem lw_p45 : lw_okq (⟨"RefundDeskModel", "readLoan", "()V"⟩, 45) := ⟨⟨by decide +kernel, by decide +kernel⟩, List.mem_of_getElem? (i := 1067) (by decide +kernel), List.mem_of_getElem? (i := 1237) (by decide +kernel), List.mem_of_getElem? (i := 1238) (by decide +kernel)⟩
theorem lw_p46 : lw_okq (⟨"RefundDeskModel", "clause", "(Z)Z"⟩, 45) := ⟨⟨by decide +kernel, by decide +kernel⟩, List.mem_of_getElem? (i := 1067) (by decide +kernel), List.mem_of_getElem? (i := 1244) (by decide +kernel), List.mem_of_getElem? (i := 1245) (by decide +kernel)⟩
theorem lw_p47 : lw_okq (⟨"RefundDeskModel", "look", "()I"⟩, 45) := ⟨⟨by decide +kernel, by decide +kernel⟩, List.mem_of_getElem? (i := 1067) (by decide +kernel), List.mem_of_getElem? (i := 1248) (by decide +kernel), List.mem_of_getElem? (i := 1249) (by decide +kernel)⟩
def lw_privs_3 : List (MethodName × Nat) := [(⟨"RefundDesk$Walk", "settleNotice", "(IIIII)V"⟩, 15), (⟨"RefundDesk", "here", "()I"⟩, 14), (⟨"RefundDesk", "costHere", "(III)I"⟩, 14), (⟨"RefundDesk", "weighedHere", "(LRefundDesk$Table;[I)I"⟩, 14), (⟨"RefundDesk", "tillWithNotice", "(LRefundDesk$Table;I)I"⟩, 14), (⟨"RefundDesk", "tillAtOnce", "(I)I"⟩, 14), (⟨"RefundDesk", "leavesAt", "(IIZ)Z"⟩, 14), (⟨"RefundDesk", "mendsTrial", "()Z"⟩, 14), (⟨"RefundDesk", "tries", "(II)Z"⟩, 14), (⟨"RefundDesk", "leftNow", "()I"⟩, 14), (⟨"RefundDesk", "greatestRate", "()I"⟩, 14), (⟨"java/lang/Throwable", "fillInStackTrace", "(I)Ljava/lang/Throwable;"⟩, 6), (⟨"RefundDeskModel", "brings", "(I)V"⟩, 45), (⟨"RefundDeskModel", "readLoan", "()V"⟩, 45), (⟨"RefundDeskModel", "clause", "(Z)Z"⟩, 45), (⟨"RefundDeskModel", "look", "()I"⟩, 45)]
theorem lw_r3 : ∀ q ∈ lw_privs_3, lw_okq q := List.forall_mem_cons.mpr ⟨lw_p32, List.forall_mem_cons.mpr ⟨lw_p33, List.forall_mem_cons.mpr ⟨lw_p34, List.forall_mem_cons.mpr ⟨lw_p35, List.forall_mem_cons.mpr ⟨lw_p36, List.forall_mem_cons.mpr ⟨lw_p37, List.forall_mem_cons.mpr ⟨lw_p38, List.forall_mem_cons.mpr ⟨lw_p39, List.forall_mem_cons.mpr ⟨lw_p40, List.forall_mem_cons.mpr ⟨lw_p41, List.forall_mem_cons.mpr ⟨lw_p42, List.forall_mem_cons.mpr ⟨lw_p43, List.forall_mem_cons.mpr ⟨lw_p44, List.forall_mem_cons.mpr ⟨lw_p45, List.forall_mem_cons.mpr ⟨lw_p46, List.forall_mem_cons.mpr ⟨lw_p47, fun _ h => absurd h List.not_mem_nil⟩⟩⟩⟩⟩⟩⟩⟩⟩⟩⟩⟩⟩⟩⟩⟩
theorem lw_p48 : lw_okq (⟨"RefundDeskModel", "here", "()I"⟩, 45) := ⟨⟨by decide +kernel, by decide +kernel⟩, List.mem_of_getElem? (i := 1067) (by decide +kernel), List.mem_of_getElem? (i := 1252) (by decide +kernel), List.mem_of_getElem? (i := 1253) (by decide +kernel)⟩
theorem lw_p49 : lw_okq (⟨"RefundDeskModel", "fails", "()V"⟩, 45) := ⟨⟨by decide +kernel, by decide +kernel⟩, List.mem_of_getElem? (i := 1067) (by decide +kernel), List.mem_of_getElem? (i := 1256) (by decide +kernel), List.mem_of_getElem? (i := 1257) (by decide +kernel)⟩
theorem lw_p50 : lw_okq (⟨"RefundDeskModel", "items", "([IIILjava/lang/String;)V"⟩, 45) := ⟨⟨by decide +kernel, by decide +kernel⟩, List.mem_of_getElem? (i := 1067) (by decide +kernel), List.mem_of_getElem? (i := 1261) (by decide +kernel), List.mem_of_getElem? (i := 1262) (by decide +kernel)⟩
theorem lw_p51 : lw_okq (⟨"RefundDeskModel", "number", "()I"⟩, 45) := ⟨⟨by decide +kernel, by decide +kernel⟩, List.mem_of_getElem? (i := 1067) (by decide +kernel), List.mem_of_getElem? (i := 1316) (by decide +kernel), List.mem_of_getElem? (i := 1317) (by decide +kernel)⟩
theorem lw_p52 : lw_okq (⟨"RefundDeskModel", "digit", "()I"⟩, 45) := ⟨⟨by decide +kernel, by decide +kernel⟩, List.mem_of_getElem? (i := 1067) (by decide +kernel), List.mem_of_getElem? (i := 1320) (by decide +kernel), List.mem_of_getElem? (i := 1321) (by decide +kernel)⟩
theorem lw_p53 : lw_okq (⟨"RefundDeskModel", "isDigit", "()Z"⟩, 45) := ⟨⟨by decide +kernel, by decide +kernel⟩, List.mem_of_getElem? (i := 1067) (by decide +kernel), List.mem_of_getElem? (i := 1324) (by decide +kernel), List.mem_of_getElem? (i := 1325) (by decide +kernel)⟩
theorem lw_p54 : lw_okq (⟨"RefundDeskModel", "laysBounds", "(II)V"⟩, 45) := ⟨⟨by decide +kernel, by decide +kernel⟩, List.mem_of_getElem? (i := 1067) (by decide +kernel), List.mem_of_getElem? (i := 1328) (by decide +kernel), List.mem_of_getElem? (i := 1329) (by decide +kernel)⟩
theorem lw_p55 : lw_okq (⟨"RefundDeskModel", "readScript", "()V"⟩, 45) := ⟨⟨by decide +kernel, by decide +kernel⟩, List.mem_of_getElem? (i := 1067) (by decide +kernel), List.mem_of_getElem? (i := 1337) (by decide +kernel), List.mem_of_getElem? (i := 1338) (by decide +kernel)⟩
theorem lw_p56 : lw_okq (⟨"RefundDeskModel", "readStep", "(I)V"⟩, 45) := ⟨⟨by decide +kernel, by decide +kernel⟩, List.mem_of_getElem? (i := 1067) (by decide +kernel), List.mem_of_getElem? (i := 1341) (by decide +kernel), List.mem_of_getElem? (i := 1342) (by decide +kernel)⟩
theorem lw_p57 : lw_okq (⟨"RefundDeskModel", "readPolicy", "()V"⟩, 45) := ⟨⟨by decide +kernel, by decide +kernel⟩, List.mem_of_getElem? (i := 1067) (by decide +kernel), List.mem_of_getElem? (i := 1349) (by decide +kernel), List.mem_of_getElem? (i := 1350) (by decide +kernel)⟩
theorem lw_p58 : lw_okq (⟨"RefundDeskModel", "deedClause", "()V"⟩, 45) := ⟨⟨by decide +kernel, by decide +kernel⟩, List.mem_of_getElem? (i := 1067) (by decide +kernel), List.mem_of_getElem? (i := 1353) (by decide +kernel), List.mem_of_getElem? (i := 1354) (by decide +kernel)⟩
theorem lw_p59 : lw_okq (⟨"RefundDeskModel", "tellsPolicy", "()I"⟩, 45) := ⟨⟨by decide +kernel, by decide +kernel⟩, List.mem_of_getElem? (i := 1067) (by decide +kernel), List.mem_of_getElem? (i := 1363) (by decide +kernel), List.mem_of_getElem? (i := 1364) (by decide +kernel)⟩
theorem lw_p60 : lw_okq (⟨"RefundDeskModel", "isNode", "(II)Z"⟩, 45) := ⟨⟨by decide +kernel, by decide +kernel⟩, List.mem_of_getElem? (i := 1067) (by decide +kernel), List.mem_of_getElem? (i := 1367) (by decide +kernel), List.mem_of_getElem? (i := 1368) (by decide +kernel)⟩
theorem lw_p61 : lw_okq (⟨"RefundDeskModel", "begins", "()V"⟩, 45) := ⟨⟨by decide +kernel, by decide +kernel⟩, List.mem_of_getElem? (i := 1067) (by decide +kernel), List.mem_of_getElem? (i := 1374) (by decide +kernel), List.mem_of_getElem? (i := 1375) (by decide +kernel)⟩
theorem lw_p62 : lw_okq (⟨"RefundDeskModel", "act", "(IIII)I"⟩, 45) := ⟨⟨by decide +kernel, by decide +kernel⟩, List.mem_of_getElem? (i := 1067) (by decide +kernel), List.mem_of_getElem? (i := 1382) (by decide +kernel), List.mem_of_getElem? (i := 1383) (by decide +kernel)⟩
theorem lw_p63 : lw_okq (⟨"RefundDeskModel", "tries", "(IIII)I"⟩, 45) := ⟨⟨by decide +kernel, by decide +kernel⟩, List.mem_of_getElem? (i := 1067) (by decide +kernel), List.mem_of_getElem? (i := 1386) (by decide +kernel), List.mem_of_getElem? (i := 1387) (by decide +kernel)⟩
def lw_privs_4 : List (MethodName × Nat) := [(⟨"RefundDeskModel", "here", "()I"⟩, 45), (⟨"RefundDeskModel", "fails", "()V"⟩, 45), (⟨"RefundDeskModel", "items", "([IIILjava/lang/String;)V"⟩, 45), (⟨"RefundDeskModel", "number", "()I"⟩, 45), (⟨"RefundDeskModel", "digit", "()I"⟩, 45), (⟨"RefundDeskModel", "isDigit", "()Z"⟩, 45), (⟨"RefundDeskModel", "laysBounds", "(II)V"⟩, 45), (⟨"RefundDeskModel", "readScript", "()V"⟩, 45), (⟨"RefundDeskModel", "readStep", "(I)V"⟩, 45), (⟨"RefundDeskModel", "readPolicy", "()V"⟩, 45), (⟨"RefundDeskModel", "deedClause", "()V"⟩, 45), (⟨"RefundDeskModel", "tellsPolicy", "()I"⟩, 45), (⟨"RefundDeskModel", "isNode", "(II)Z"⟩, 45), (⟨"RefundDeskModel", "begins", "()V"⟩, 45), (⟨"RefundDeskModel", "act", "(IIII)I"⟩, 45), (⟨"RefundDeskModel", "tries", "(IIII)I"⟩, 45)]
theorem lw_r4 : ∀ q ∈ lw_privs_4, lw_okq q := List.forall_mem_cons.mpr ⟨lw_p48, List.forall_mem_cons.mpr ⟨lw_p49, List.forall_mem_cons.mpr ⟨lw_p50, List.forall_mem_cons.mpr ⟨lw_p51, List.forall_mem_cons.mpr ⟨lw_p52, List.forall_mem_cons.mpr ⟨lw_p53, List.forall_mem_cons.mpr ⟨lw_p54, List.forall_mem_cons.mpr ⟨lw_p55, List.forall_mem_cons.mpr ⟨lw_p56, List.forall_mem_cons.mpr ⟨lw_p57, List.forall_mem_cons.mpr ⟨lw_p58, List.forall_mem_cons.mpr ⟨lw_p59, List.forall_mem_cons.mpr ⟨lw_p60, List.forall_mem_cons.mpr ⟨lw_p61, List.forall_mem_cons.mpr ⟨lw_p62, List.forall_mem_cons.mpr ⟨lw_p63, fun _ h => absurd h List.not_mem_nil⟩⟩⟩⟩⟩⟩⟩⟩⟩⟩⟩⟩⟩⟩⟩⟩
theorem lw_p64 : lw_okq (⟨"RefundDeskModel", "does", "([IIIII)I"⟩, 45) := ⟨⟨by decide +kernel, by decide +kernel⟩, List.mem_of_getElem? (i := 1067) (by decide +kernel), List.mem_of_getElem? (i := 1393) (by decide +kernel), List.mem_of_getElem? (i := 1394) (by decide +kernel)⟩
theorem lw_p65 : lw_okq (⟨"RefundDeskModel", "stops", "([IIIII)I"⟩, 45) := ⟨⟨by decide +kernel, by decide +kernel⟩, List.mem_of_getElem? (i := 1067) (by decide +kernel), List.mem_of_getElem? (i := 1397) (by decide +kernel), List.mem_of_getElem? (i := 1398) (by decide +kernel)⟩
theorem lw_p66 : lw_okq (⟨"RefundDeskModel", "isOver", "([I)Z"⟩, 45) := ⟨⟨by decide +kernel, by decide +kernel⟩, List.mem_of_getElem? (i := 1067) (by decide +kernel), List.mem_of_getElem? (i := 1401) (by decide +kernel), List.mem_of_getElem? (i := 1402) (by decide +kernel)⟩
theorem lw_p67 : lw_okq (⟨"RefundDeskModel", "may", "(III)Z"⟩, 45) := ⟨⟨by decide +kernel, by decide +kernel⟩, List.mem_of_getElem? (i := 1067) (by decide +kernel), List.mem_of_getElem? (i := 1405) (by decide +kernel), List.mem_of_getElem? (i := 1406) (by decide +kernel)⟩
theorem lw_p68 : lw_okq (⟨"RefundDeskModel", "mayEnd", "(I)Z"⟩, 45) := ⟨⟨by decide +kernel, by decide +kernel⟩, List.mem_of_getElem? (i := 1067) (by decide +kernel), List.mem_of_getElem? (i := 1409) (by decide +kernel), List.mem_of_getElem? (i := 1410) (by decide +kernel)⟩
theorem lw_p69 : lw_okq (⟨"RefundDeskModel", "rateOf", "([III)I"⟩, 45) := ⟨⟨by decide +kernel, by decide +kernel⟩, List.mem_of_getElem? (i := 1067) (by decide +kernel), List.mem_of_getElem? (i := 1418) (by decide +kernel), List.mem_of_getElem? (i := 1419) (by decide +kernel)⟩
theorem lw_p70 : lw_okq (⟨"RefundDeskModel", "laysYears", "([I)V"⟩, 45) := ⟨⟨by decide +kernel, by decide +kernel⟩, List.mem_of_getElem? (i := 1067) (by decide +kernel), List.mem_of_getElem? (i := 1425) (by decide +kernel), List.mem_of_getElem? (i := 1426) (by decide +kernel)⟩
theorem lw_p71 : lw_okq (⟨"RefundDeskModel", "passes", "([II)V"⟩, 45) := ⟨⟨by decide +kernel, by decide +kernel⟩, List.mem_of_getElem? (i := 1067) (by decide +kernel), List.mem_of_getElem? (i := 1429) (by decide +kernel), List.mem_of_getElem? (i := 1430) (by decide +kernel)⟩
theorem lw_p72 : lw_okq (⟨"RefundDeskModel", "due", "(II)I"⟩, 45) := ⟨⟨by decide +kernel, by decide +kernel⟩, List.mem_of_getElem? (i := 1067) (by decide +kernel), List.mem_of_getElem? (i := 1433) (by decide +kernel), List.mem_of_getElem? (i := 1434) (by decide +kernel)⟩
theorem lw_p73 : lw_okq (⟨"RefundDeskModel", "interest", "(II)I"⟩, 45) := ⟨⟨by decide +kernel, by decide +kernel⟩, List.mem_of_getElem? (i := 1067) (by decide +kernel), List.mem_of_getElem? (i := 1437) (by decide +kernel), List.mem_of_getElem? (i := 1438) (by decide +kernel)⟩
theorem lw_p74 : lw_okq (⟨"RefundDeskModel", "pays", "([II)V"⟩, 45) := ⟨⟨by decide +kernel, by decide +kernel⟩, List.mem_of_getElem? (i := 1067) (by decide +kernel), List.mem_of_getElem? (i := 1441) (by decide +kernel), List.mem_of_getElem? (i := 1442) (by decide +kernel)⟩
theorem lw_p75 : lw_okq (⟨"RefundDeskModel", "runsOut", "([I)V"⟩, 45) := ⟨⟨by decide +kernel, by decide +kernel⟩, List.mem_of_getElem? (i := 1067) (by decide +kernel), List.mem_of_getElem? (i := 1445) (by decide +kernel), List.mem_of_getElem? (i := 1446) (by decide +kernel)⟩
theorem lw_p76 : lw_okq (⟨"RefundDeskModel", "newCoupon", "([III)I"⟩, 45) := ⟨⟨by decide +kernel, by decide +kernel⟩, List.mem_of_getElem? (i := 1067) (by decide +kernel), List.mem_of_getElem? (i := 1449) (by decide +kernel), List.mem_of_getElem? (i := 1450) (by decide +kernel)⟩
theorem lw_p77 : lw_okq (⟨"RefundDeskModel", "givesNotice", "([II)V"⟩, 45) := ⟨⟨by decide +kernel, by decide +kernel⟩, List.mem_of_getElem? (i := 1067) (by decide +kernel), List.mem_of_getElem? (i := 1453) (by decide +kernel), List.mem_of_getElem? (i := 1454) (by decide +kernel)⟩
theorem lw_p78 : lw_okq (⟨"RefundDeskModel", "bestHere", "([I)I"⟩, 45) := ⟨⟨by decide +kernel, by decide +kernel⟩, List.mem_of_getElem? (i := 1067) (by decide +kernel), List.mem_of_getElem? (i := 1457) (by decide +kernel), List.mem_of_getElem? (i := 1458) (by decide +kernel)⟩
theorem lw_p79 : lw_okq (⟨"RefundDeskModel", "lays", "([I[JZII)V"⟩, 45) := ⟨⟨by decide +kernel, by decide +kernel⟩, List.mem_of_getElem? (i := 1067) (by decide +kernel), List.mem_of_getElem? (i := 1461) (by decide +kernel), List.mem_of_getElem? (i := 1462) (by decide +kernel)⟩
def lw_privs_5 : List (MethodName × Nat) := [(⟨"RefundDeskModel", "does", "([IIIII)I"⟩, 45), (⟨"RefundDeskModel", "stops", "([IIIII)I"⟩, 45), (⟨"RefundDeskModel", "isOver", "([I)Z"⟩, 45), (⟨"RefundDeskModel", "may", "(III)Z"⟩, 45), (⟨"RefundDeskModel", "mayEnd", "(I)Z"⟩, 45), (⟨"RefundDeskModel", "rateOf", "([III)I"⟩, 45), (⟨"RefundDeskModel", "laysYears", "([I)V"⟩, 45), (⟨"RefundDeskModel", "passes", "([II)V"⟩, 45), (⟨"RefundDeskModel", "due", "(II)I"⟩, 45), (⟨"RefundDeskModel", "interest", "(II)I"⟩, 45), (⟨"RefundDeskModel", "pays", "([II)V"⟩, 45), (⟨"RefundDeskModel", "runsOut", "([I)V"⟩, 45), (⟨"RefundDeskModel", "newCoupon", "([III)I"⟩, 45), (⟨"RefundDeskModel", "givesNotice", "([II)V"⟩, 45), (⟨"RefundDeskModel", "bestHere", "([I)I"⟩, 45), (⟨"RefundDeskModel", "lays", "([I[JZII)V"⟩, 45)]
theorem lw_r5 : ∀ q ∈ lw_privs_5, lw_okq q := List.forall_mem_cons.mpr ⟨lw_p64, List.forall_mem_cons.mpr ⟨lw_p65, List.forall_mem_cons.mpr ⟨lw_p66, List.forall_mem_cons.mpr ⟨lw_p67, List.forall_mem_cons.mpr ⟨lw_p68, List.forall_mem_cons.mpr ⟨lw_p69, List.forall_mem_cons.mpr ⟨lw_p70, List.forall_mem_cons.mpr ⟨lw_p71, List.forall_mem_cons.mpr ⟨lw_p72, List.forall_mem_cons.mpr ⟨lw_p73, List.forall_mem_cons.mpr ⟨lw_p74, List.forall_mem_cons.mpr ⟨lw_p75, List.forall_mem_cons.mpr ⟨lw_p76, List.forall_mem_cons.mpr ⟨lw_p77, List.forall_mem_cons.mpr ⟨lw_p78, List.forall_mem_cons.mpr ⟨lw_p79, fun _ h => absurd h List.not_mem_nil⟩⟩⟩⟩⟩⟩⟩⟩⟩⟩⟩⟩⟩⟩⟩⟩
theorem lw_p80 : lw_okq (⟨"RefundDeskModel", "laysBy", "([I[JZIIII)V"⟩, 45) := ⟨⟨by decide +kernel, by decide +kernel⟩, List.mem_of_getElem? (i := 1067) (by decide +kernel), List.mem_of_getElem? (i := 1465) (by decide +kernel), List.mem_of_getElem? (i := 1466) (by decide +kernel)⟩
theorem lw_p81 : lw_okq (⟨"RefundDeskModel", "policyDeed", "([IIII)I"⟩, 45) := ⟨⟨by decide +kernel, by decide +kernel⟩, List.mem_of_getElem? (i := 1067) (by decide +kernel), List.mem_of_getElem? (i := 1469) (by decide +kernel), List.mem_of_getElem? (i := 1470) (by decide +kernel)⟩
theorem lw_p82 : lw_okq (⟨"RefundDeskModel", "bestDeed", "([I[JIIIII)I"⟩, 45) := ⟨⟨by decide +kernel, by decide +kernel⟩, List.mem_of_getElem? (i := 1067) (by decide +kernel), List.mem_of_getElem? (i := 1473) (by decide +kernel), List.mem_of_getElem? (i := 1474) (by decide +kernel)⟩
theorem lw_p83 : lw_okq (⟨"RefundDeskModel", "costBy", "([I[JIIIIII)J"⟩, 45) := ⟨⟨by decide +kernel, by decide +kernel⟩, List.mem_of_getElem? (i := 1067) (by decide +kernel), List.mem_of_getElem? (i := 1477) (by decide +kernel), List.mem_of_getElem? (i := 1478) (by decide +kernel)⟩
theorem lw_p84 : lw_okq (⟨"RefundDeskModel", "held", "([I[JIIIII)J"⟩, 45) := ⟨⟨by decide +kernel, by decide +kernel⟩, List.mem_of_getElem? (i := 1067) (by decide +kernel), List.mem_of_getElem? (i := 1481) (by decide +kernel), List.mem_of_getElem? (i := 1482) (by decide +kernel)⟩
theorem lw_p85 : lw_okq (⟨"RefundDeskModel", "behind", "([JIIII)J"⟩, 45) := ⟨⟨by decide +kernel, by decide +kernel⟩, List.mem_of_getElem? (i := 1067) (by decide +kernel), List.mem_of_getElem? (i := 1485) (by decide +kernel), List.mem_of_getElem? (i := 1486) (by decide +kernel)⟩
theorem lw_p86 : lw_okq (⟨"RefundDeskModel", "next", "([IIIJJ)J"⟩, 45) := ⟨⟨by decide +kernel, by decide +kernel⟩, List.mem_of_getElem? (i := 1067) (by decide +kernel), List.mem_of_getElem? (i := 1492) (by decide +kernel), List.mem_of_getElem? (i := 1493) (by decide +kernel)⟩
theorem lw_p87 : lw_okq (⟨"RefundDeskModel", "paid", "([I[JIIZIII)J"⟩, 45) := ⟨⟨by decide +kernel, by decide +kernel⟩, List.mem_of_getElem? (i := 1067) (by decide +kernel), List.mem_of_getElem? (i := 1497) (by decide +kernel), List.mem_of_getElem? (i := 1498) (by decide +kernel)⟩
theorem lw_p88 : lw_okq (⟨"RefundDeskModel", "doesBest", "([II)I"⟩, 45) := ⟨⟨by decide +kernel, by decide +kernel⟩, List.mem_of_getElem? (i := 1067) (by decide +kernel), List.mem_of_getElem? (i := 1501) (by decide +kernel), List.mem_of_getElem? (i := 1502) (by decide +kernel)⟩
theorem lw_p89 : lw_okq (⟨"RefundDeskModel", "adopts", "([I)I"⟩, 45) := ⟨⟨by decide +kernel, by decide +kernel⟩, List.mem_of_getElem? (i := 1067) (by decide +kernel), List.mem_of_getElem? (i := 1505) (by decide +kernel), List.mem_of_getElem? (i := 1506) (by decide +kernel)⟩
theorem lw_p90 : lw_okq (⟨"RefundDeskModel", "remember", "()V"⟩, 45) := ⟨⟨by decide +kernel, by decide +kernel⟩, List.mem_of_getElem? (i := 1067) (by decide +kernel), List.mem_of_getElem? (i := 1509) (by decide +kernel), List.mem_of_getElem? (i := 1510) (by decide +kernel)⟩
theorem lw_p91 : lw_okq (⟨"RefundDeskModel", "notes", "(I)V"⟩, 45) := ⟨⟨by decide +kernel, by decide +kernel⟩, List.mem_of_getElem? (i := 1067) (by decide +kernel), List.mem_of_getElem? (i := 1513) (by decide +kernel), List.mem_of_getElem? (i := 1514) (by decide +kernel)⟩
theorem lw_p92 : lw_okq (⟨"RefundDeskModel", "happens", "()I"⟩, 45) := ⟨⟨by decide +kernel, by decide +kernel⟩, List.mem_of_getElem? (i := 1067) (by decide +kernel), List.mem_of_getElem? (i := 1558) (by decide +kernel), List.mem_of_getElem? (i := 1559) (by decide +kernel)⟩
theorem lw_p93 : lw_okq (⟨"RefundDeskModel", "draw", "(I)I"⟩, 45) := ⟨⟨by decide +kernel, by decide +kernel⟩, List.mem_of_getElem? (i := 1067) (by decide +kernel), List.mem_of_getElem? (i := 1562) (by decide +kernel), List.mem_of_getElem? (i := 1563) (by decide +kernel)⟩
theorem lw_p94 : lw_okq (⟨"RefundDeskModel", "laysNow", "()V"⟩, 45) := ⟨⟨by decide +kernel, by decide +kernel⟩, List.mem_of_getElem? (i := 1067) (by decide +kernel), List.mem_of_getElem? (i := 1610) (by decide +kernel), List.mem_of_getElem? (i := 1611) (by decide +kernel)⟩
theorem lw_p95 : lw_okq (⟨"RefundDeskModel", "walks", "(I)V"⟩, 45) := ⟨⟨by decide +kernel, by decide +kernel⟩, List.mem_of_getElem? (i := 1067) (by decide +kernel), List.mem_of_getElem? (i := 1622) (by decide +kernel), List.mem_of_getElem? (i := 1623) (by decide +kernel)⟩
def lw_privs_6 : List (MethodName × Nat) := [(⟨"RefundDeskModel", "laysBy", "([I[JZIIII)V"⟩, 45), (⟨"RefundDeskModel", "policyDeed", "([IIII)I"⟩, 45), (⟨"RefundDeskModel", "bestDeed", "([I[JIIIII)I"⟩, 45), (⟨"RefundDeskModel", "costBy", "([I[JIIIIII)J"⟩, 45), (⟨"RefundDeskModel", "held", "([I[JIIIII)J"⟩, 45), (⟨"RefundDeskModel", "behind", "([JIIII)J"⟩, 45), (⟨"RefundDeskModel", "next", "([IIIJJ)J"⟩, 45), (⟨"RefundDeskModel", "paid", "([I[JIIZIII)J"⟩, 45), (⟨"RefundDeskModel", "doesBest", "([II)I"⟩, 45), (⟨"RefundDeskModel", "adopts", "([I)I"⟩, 45), (⟨"RefundDeskModel", "remember", "()V"⟩, 45), (⟨"RefundDeskModel", "notes", "(I)V"⟩, 45), (⟨"RefundDeskModel", "happens", "()I"⟩, 45), (⟨"RefundDeskModel", "draw", "(I)I"⟩, 45), (⟨"RefundDeskModel", "laysNow", "()V"⟩, 45), (⟨"RefundDeskModel", "walks", "(I)V"⟩, 45)]
theorem lw_r6 : ∀ q ∈ lw_privs_6, lw_okq q := List.forall_mem_cons.mpr ⟨lw_p80, List.forall_mem_cons.mpr ⟨lw_p81, List.forall_mem_cons.mpr ⟨lw_p82, List.forall_mem_cons.mpr ⟨lw_p83, List.forall_mem_cons.mpr ⟨lw_p84, List.forall_mem_cons.mpr ⟨lw_p85, List.forall_mem_cons.mpr ⟨lw_p86, List.forall_mem_cons.mpr ⟨lw_p87, List.forall_mem_cons.mpr ⟨lw_p88, List.forall_mem_cons.mpr ⟨lw_p89, List.forall_mem_cons.mpr ⟨lw_p90, List.forall_mem_cons.mpr ⟨lw_p91, List.forall_mem_cons.mpr ⟨lw_p92, List.forall_mem_cons.mpr ⟨lw_p93, List.forall_mem_cons.mpr ⟨lw_p94, List.forall_mem_cons.mpr ⟨lw_p95, fun _ h => absurd h List.not_mem_nil⟩⟩⟩⟩⟩⟩⟩⟩⟩⟩⟩⟩⟩⟩⟩⟩
theorem lw_p96 : lw_okq (⟨"RefundDeskModel", "walkActs", "()V"⟩, 45) := ⟨⟨by decide +kernel, by decide +kernel⟩, List.mem_of_getElem? (i := 1067) (by decide +kernel), List.mem_of_getElem? (i := 1626) (by decide +kernel), List.mem_of_getElem? (i := 1627) (by decide +kernel)⟩
theorem lw_p97 : lw_okq (⟨"RefundDeskModel", "walkGives", "(I)V"⟩, 45) := ⟨⟨by decide +kernel, by decide +kernel⟩, List.mem_of_getElem? (i := 1067) (by decide +kernel), List.mem_of_getElem? (i := 1630) (by decide +kernel), List.mem_of_getElem? (i := 1631) (by decide +kernel)⟩
theorem lw_p98 : lw_okq (⟨"RefundDeskModel", "isCalled", "()Z"⟩, 45) := ⟨⟨by decide +kernel, by decide +kernel⟩, List.mem_of_getElem? (i := 1067) (by decide +kernel), List.mem_of_getElem? (i := 1639) (by decide +kernel), List.mem_of_getElem? (i := 1640) (by decide +kernel)⟩
theorem lw_p99 : lw_okq (⟨"RefundDeskModel", "unlike", "(I)I"⟩, 45) := ⟨⟨by decide +kernel, by decide +kernel⟩, List.mem_of_getElem? (i := 1067) (by decide +kernel), List.mem_of_getElem? (i := 1643) (by decide +kernel), List.mem_of_getElem? (i := 1644) (by decide +kernel)⟩
theorem lw_p100 : lw_okq (⟨"RefundDeskModel", "laysMasses", "()V"⟩, 45) := ⟨⟨by decide +kernel, by decide +kernel⟩, List.mem_of_getElem? (i := 1067) (by decide +kernel), List.mem_of_getElem? (i := 1651) (by decide +kernel), List.mem_of_getElem? (i := 1652) (by decide +kernel)⟩
theorem lw_p101 : lw_okq (⟨"RefundDeskModel", "goesOn", "(II)V"⟩, 45) := ⟨⟨by decide +kernel, by decide +kernel⟩, List.mem_of_getElem? (i := 1067) (by decide +kernel), List.mem_of_getElem? (i := 1656) (by decide +kernel), List.mem_of_getElem? (i := 1657) (by decide +kernel)⟩
theorem lw_p102 : lw_okq (⟨"RefundDeskModel", "laysPolicy", "([I)V"⟩, 45) := ⟨⟨by decide +kernel, by decide +kernel⟩, List.mem_of_getElem? (i := 1067) (by decide +kernel), List.mem_of_getElem? (i := 1673) (by decide +kernel), List.mem_of_getElem? (i := 1674) (by decide +kernel)⟩
theorem lw_p103 : lw_okq (⟨"RefundDeskModel", "here", "([J)J"⟩, 45) := ⟨⟨by decide +kernel, by decide +kernel⟩, List.mem_of_getElem? (i := 1067) (by decide +kernel), List.mem_of_getElem? (i := 1677) (by decide +kernel), List.mem_of_getElem? (i := 1678) (by decide +kernel)⟩
theorem lw_p104 : lw_okq (⟨"RefundDeskModel", "mendsAll", "()I"⟩, 45) := ⟨⟨by decide +kernel, by decide +kernel⟩, List.mem_of_getElem? (i := 1067) (by decide +kernel), List.mem_of_getElem? (i := 1735) (by decide +kernel), List.mem_of_getElem? (i := 1736) (by decide +kernel)⟩
theorem lw_p105 : lw_okq (⟨"RefundDeskModel", "isScript", "(I)Z"⟩, 45) := ⟨⟨by decide +kernel, by decide +kernel⟩, List.mem_of_getElem? (i := 1067) (by decide +kernel), List.mem_of_getElem? (i := 1743) (by decide +kernel), List.mem_of_getElem? (i := 1744) (by decide +kernel)⟩
theorem lw_p106 : lw_okq (⟨"RefundDeskModel", "leftNow", "()I"⟩, 45) := ⟨⟨by decide +kernel, by decide +kernel⟩, List.mem_of_getElem? (i := 1067) (by decide +kernel), List.mem_of_getElem? (i := 1759) (by decide +kernel), List.mem_of_getElem? (i := 1760) (by decide +kernel)⟩
theorem lw_p107 : lw_okq (⟨"RefundDeskModel", "highest", "()I"⟩, 45) := ⟨⟨by decide +kernel, by decide +kernel⟩, List.mem_of_getElem? (i := 1067) (by decide +kernel), List.mem_of_getElem? (i := 1763) (by decide +kernel), List.mem_of_getElem? (i := 1764) (by decide +kernel)⟩
def lw_privs_7 : List (MethodName × Nat) := [(⟨"RefundDeskModel", "walkActs", "()V"⟩, 45), (⟨"RefundDeskModel", "walkGives", "(I)V"⟩, 45), (⟨"RefundDeskModel", "isCalled", "()Z"⟩, 45), (⟨"RefundDeskModel", "unlike", "(I)I"⟩, 45), (⟨"RefundDeskModel", "laysMasses", "()V"⟩, 45), (⟨"RefundDeskModel", "goesOn", "(II)V"⟩, 45), (⟨"RefundDeskModel", "laysPolicy", "([I)V"⟩, 45), (⟨"RefundDeskModel", "here", "([J)J"⟩, 45), (⟨"RefundDeskModel", "mendsAll", "()I"⟩, 45), (⟨"RefundDeskModel", "isScript", "(I)Z"⟩, 45), (⟨"RefundDeskModel", "leftNow", "()I"⟩, 45), (⟨"RefundDeskModel", "highest", "()I"⟩, 45)]
theorem lw_r7 : ∀ q ∈ lw_privs_7, lw_okq q := List.forall_mem_cons.mpr ⟨lw_p96, List.forall_mem_cons.mpr ⟨lw_p97, List.forall_mem_cons.mpr ⟨lw_p98, List.forall_mem_cons.mpr ⟨lw_p99, List.forall_mem_cons.mpr ⟨lw_p100, List.forall_mem_cons.mpr ⟨lw_p101, List.forall_mem_cons.mpr ⟨lw_p102, List.forall_mem_cons.mpr ⟨lw_p103, List.forall_mem_cons.mpr ⟨lw_p104, List.forall_mem_cons.mpr ⟨lw_p105, List.forall_mem_cons.mpr ⟨lw_p106, List.forall_mem_cons.mpr ⟨lw_p107, fun _ h => absurd h List.not_mem_nil⟩⟩⟩⟩⟩⟩⟩⟩⟩⟩⟩⟩
def lw_privs : List (MethodName × Nat) := lw_privs_1 ++ (lw_privs_2 ++ (lw_privs_3 ++ (lw_privs_4 ++ (lw_privs_5 ++ (lw_privs_6 ++ (lw_privs_7))))))
def lw_tbl : List Cond := k2_sels lw_privs ++ tables_1
theorem lw_privs_ok : ∀ q ∈ lw_privs, lw_okq q := by
  show ∀ q ∈ lw_privs_1 ++ (lw_privs_2 ++ (lw_privs_3 ++ (lw_privs_4 ++ (lw_privs_5 ++ (lw_privs_6 ++ (lw_privs_7)))))), lw_okq q
  exact List.forall_mem_append.mpr ⟨lw_r1, List.forall_mem_append.mpr ⟨lw_r2, List.forall_mem_append.mpr ⟨lw_r3, List.forall_mem_append.mpr ⟨lw_r4, List.forall_mem_append.mpr ⟨lw_r5, List.forall_mem_append.mpr ⟨lw_r6, lw_r7⟩⟩⟩⟩⟩⟩
-- ===== end of PART A; then your names; then what follows =====
end
section
-- names of classes, fields, methods: out of the printed names; then each method as a tuple
/-- a method: its name, its bytes, its locals, what it returns, its class -/
abbrev Me : Type := MethodName × ByteArray × Nat × Option FieldType × String
def RL : String := "RefundDeskLaw"
def RX0 : String := "RefundDesk$Cell"
def TX0 : u_T := fun k => match k with
  | _ => ("", "", "", false)
def tyX0 : Nat → FieldType := fun k => match k with
  | _ => .int
theorem nmX0 : ∀ a, a < 0 → ∀ b, b < 0 → a ≠ b → (TX0 a).2.1 ≠ (TX0 b).2.1 := by decide +kernel
theorem tyX0_ok : ∀ k, k < 0 → parseFieldDescriptor (TX0 k).2.2.1 = some (tyX0 k) := by decide +kernel
abbrev cX0_deedOf : ByteArray := prog_2_method_2_code
def yX0_deedOf : MethodName := ⟨RX0, "deedOf", "([III)I"⟩
abbrev cX0_setDeed : ByteArray := prog_2_method_3_code
def yX0_setDeed : MethodName := ⟨RX0, "setDeed", "([IIII)V"⟩
def RX1 : String := "RefundDesk$Flow"
def TX1 : u_T := fun k => match k with
  | 0 => ("RefundDesk$Flow", "amount", "[I", true)
  | _ => ("RefundDesk$Flow", "rules", "[I", true)
def tyX1 : Nat → FieldType := fun k => match k with
  | 0 => .array .int
  | _ => .array .int
theorem nmX1 : ∀ a, a < 2 → ∀ b, b < 2 → a ≠ b → (TX1 a).2.1 ≠ (TX1 b).2.1 := by decide +kernel
theorem tyX1_ok : ∀ k, k < 2 → parseFieldDescriptor (TX1 k).2.2.1 = some (tyX1 k) := by decide +kernel
abbrev cX1_init : ByteArray := prog_3_method_1_code
def yX1_init : MethodName := ⟨RX1, "<init>", "([I)V"⟩
abbrev cX1_pour : ByteArray := prog_3_method_2_code
def yX1_pour : MethodName := ⟨RX1, "pour", "([ILRefundDesk$Table;)V"⟩
abbrev cX1_stopped : ByteArray := prog_3_method_3_code
def yX1_stopped : MethodName := ⟨RX1, "stopped", "(LRefundDesk$Table;II)I"⟩
abbrev cX1_atTheEnd : ByteArray := prog_3_method_4_code
def yX1_atTheEnd : MethodName := ⟨RX1, "atTheEnd", "()I"⟩
def RX2 : String := "RefundDesk$History"
def TX2 : u_T := fun k => match k with
  | 0 => ("RefundDesk$History", "possible", "I", false)
  | 1 => ("RefundDesk$History", "rows", "[I", true)
  | 2 => ("RefundDesk$History", "entries", "[I", true)
  | 3 => ("RefundDesk$History", "imageCells", "[I", true)
  | 4 => ("RefundDesk$History", "imageEntries", "[I", true)
  | 5 => ("RefundDesk$History", "next", "I", false)
  | 6 => ("RefundDesk$History", "entered", "I", false)
  | 7 => ("RefundDesk$History", "imageEntered", "I", false)
  | _ => ("RefundDesk$History", "hasImage", "Z", false)
def tyX2 : Nat → FieldType := fun k => match k with
  | 0 => .int
  | 1 => .array .int
  | 2 => .array .int
  | 3 => .array .int
  | 4 => .array .int
  | 5 => .int
  | 6 => .int
  | 7 => .int
  | _ => .boolean
theorem nmX2 : ∀ a, a < 9 → ∀ b, b < 9 → a ≠ b → (TX2 a).2.1 ≠ (TX2 b).2.1 := by decide +kernel
theorem tyX2_ok : ∀ k, k < 9 → parseFieldDescriptor (TX2 k).2.2.1 = some (tyX2 k) := by decide +kernel
abbrev cX2_init : ByteArray := prog_4_method_1_code
def yX2_init : MethodName := ⟨RX2, "<init>", "()V"⟩
abbrev cX2_clear : ByteArray := prog_4_method_2_code
def yX2_clear : MethodName := ⟨RX2, "clear", "()V"⟩
abbrev cX2_save : ByteArray := prog_4_method_3_code
def yX2_save : MethodName := ⟨RX2, "save", "([I)V"⟩
abbrev cX2_enter : ByteArray := prog_4_method_4_code
def yX2_enter : MethodName := ⟨RX2, "enter", "(III)V"⟩
abbrev cX2_takeBack : ByteArray := prog_4_method_5_code
def yX2_takeBack : MethodName := ⟨RX2, "takeBack", "([I)Z"⟩
abbrev cX2_shown : ByteArray := prog_4_method_6_code
def yX2_shown : MethodName := ⟨RX2, "shown", "()I"⟩
abbrev cX2_entry : ByteArray := prog_4_method_7_code
def yX2_entry : MethodName := ⟨RX2, "entry", "(II)I"⟩
abbrev cX2_keepImage : ByteArray := prog_4_method_8_code
def yX2_keepImage : MethodName := ⟨RX2, "keepImage", "([I)V"⟩
abbrev cX2_bringBack : ByteArray := prog_4_method_9_code
def yX2_bringBack : MethodName := ⟨RX2, "bringBack", "([I)Z"⟩
def RX3 : String := "RefundDesk$Office"
def TX3 : u_T := fun k => match k with
  | 0 => ("RefundDesk$Office", "rules", "[I", true)
  | 1 => ("RefundDesk$Office", "cells", "[I", true)
  | 2 => ("RefundDesk$Office", "tables", "LRefundDesk$Tables;", true)
  | _ => ("RefundDesk$Office", "number", "I", false)
def tyX3 : Nat → FieldType := fun k => match k with
  | 0 => .array .int
  | 1 => .array .int
  | 2 => .object "RefundDesk$Tables"
  | _ => .int
theorem nmX3 : ∀ a, a < 4 → ∀ b, b < 4 → a ≠ b → (TX3 a).2.1 ≠ (TX3 b).2.1 := by decide +kernel
theorem tyX3_ok : ∀ k, k < 4 → parseFieldDescriptor (TX3 k).2.2.1 = some (tyX3 k) := by decide +kernel
abbrev cX3_init : ByteArray := prog_5_method_1_code
def yX3_init : MethodName := ⟨RX3, "<init>", "([I[ILRefundDesk$Tables;)V"⟩
abbrev cX3_attempt : ByteArray := prog_5_method_2_code
def yX3_attempt : MethodName := ⟨RX3, "attempt", "(IIII)I"⟩
abbrev cX3_here : ByteArray := prog_5_method_3_code
def yX3_here : MethodName := ⟨RX3, "here", "()I"⟩
abbrev cX3_passYear : ByteArray := prog_5_method_4_code
def yX3_passYear : MethodName := ⟨RX3, "passYear", "(I)I"⟩
abbrev cX3_giveNotice : ByteArray := prog_5_method_5_code
def yX3_giveNotice : MethodName := ⟨RX3, "giveNotice", "(I)I"⟩
abbrev cX3_settleNotice : ByteArray := prog_5_method_6_code
def yX3_settleNotice : MethodName := ⟨RX3, "settleNotice", "(I)I"⟩
abbrev cX3_takeNoticeBack : ByteArray := prog_5_method_7_code
def yX3_takeNoticeBack : MethodName := ⟨RX3, "takeNoticeBack", "()I"⟩
abbrev cX3_tellInstalment : ByteArray := prog_5_method_8_code
def yX3_tellInstalment : MethodName := ⟨RX3, "tellInstalment", "(II)I"⟩
abbrev cX3_tellRate : ByteArray := prog_5_method_9_code
def yX3_tellRate : MethodName := ⟨RX3, "tellRate", "(III)I"⟩
abbrev cX3_carryOut : ByteArray := prog_5_method_10_code
def yX3_carryOut : MethodName := ⟨RX3, "carryOut", "(I)I"⟩
abbrev cX3_takeDeeds : ByteArray := prog_5_method_11_code
def yX3_takeDeeds : MethodName := ⟨RX3, "takeDeeds", "(LRefundDesk$Table;)I"⟩
def RX4 : String := "RefundDesk$Reader"
def TX4 : u_T := fun k => match k with
  | 0 => ("RefundDesk$Reader", "items", "[I", true)
  | 1 => ("RefundDesk$Reader", "parts", "[I", true)
  | 2 => ("RefundDesk$Reader", "size", "I", false)
  | 3 => ("RefundDesk$Reader", "counted", "[I", true)
  | 4 => ("RefundDesk$Reader", "tape", "LRefundDesk$Tape;", true)
  | 5 => ("RefundDesk$Reader", "at", "I", false)
  | _ => ("RefundDesk$Reader", "number", "I", false)
def tyX4 : Nat → FieldType := fun k => match k with
  | 0 => .array .int
  | 1 => .array .int
  | 2 => .int
  | 3 => .array .int
  | 4 => .object "RefundDesk$Tape"
  | 5 => .int
  | _ => .int
theorem nmX4 : ∀ a, a < 7 → ∀ b, b < 7 → a ≠ b → (TX4 a).2.1 ≠ (TX4 b).2.1 := by decide +kernel
theorem tyX4_ok : ∀ k, k < 7 → parseFieldDescriptor (TX4 k).2.2.1 = some (tyX4 k) := by decide +kernel
abbrev cX4_init : ByteArray := prog_6_method_1_code
def yX4_init : MethodName := ⟨RX4, "<init>", "(LRefundDesk$Tape;)V"⟩
abbrev cX4_examine : ByteArray := prog_6_method_2_code
def yX4_examine : MethodName := ⟨RX4, "examine", "(I)I"⟩
abbrev cX4_part : ByteArray := prog_6_method_3_code
def yX4_part : MethodName := ⟨RX4, "part", "(II)I"⟩
abbrev cX4_readClauses : ByteArray := prog_6_method_4_code
def yX4_readClauses : MethodName := ⟨RX4, "readClauses", "(I)I"⟩
abbrev cX4_readItems : ByteArray := prog_6_method_5_code
def yX4_readItems : MethodName := ⟨RX4, "readItems", "(I)I"⟩
abbrev cX4_startPart : ByteArray := prog_6_method_6_code
def yX4_startPart : MethodName := ⟨RX4, "startPart", "(I)I"⟩
abbrev cX4_readSteps : ByteArray := prog_6_method_7_code
def yX4_readSteps : MethodName := ⟨RX4, "readSteps", "()I"⟩
abbrev cX4_readStepNumbers : ByteArray := prog_6_method_8_code
def yX4_readStepNumbers : MethodName := ⟨RX4, "readStepNumbers", "(I)I"⟩
abbrev cX4_readNumber : ByteArray := prog_6_method_9_code
def yX4_readNumber : MethodName := ⟨RX4, "readNumber", "(II)I"⟩
abbrev cX4_isDigit : ByteArray := prog_6_method_10_code
def yX4_isDigit : MethodName := ⟨RX4, "isDigit", "(I)Z"⟩
abbrev cX4_skipBlanks : ByteArray := prog_6_method_11_code
def yX4_skipBlanks : MethodName := ⟨RX4, "skipBlanks", "()V"⟩
abbrev cX4_placeOf : ByteArray := prog_6_method_12_code
def yX4_placeOf : MethodName := ⟨RX4, "placeOf", "([CIII)I"⟩
def RX5 : String := "RefundDesk$Rule"
def TX5 : u_T := fun k => match k with
  | _ => ("", "", "", false)
def tyX5 : Nat → FieldType := fun k => match k with
  | _ => .int
theorem nmX5 : ∀ a, a < 0 → ∀ b, b < 0 → a ≠ b → (TX5 a).2.1 ≠ (TX5 b).2.1 := by decide +kernel
theorem tyX5_ok : ∀ k, k < 0 → parseFieldDescriptor (TX5 k).2.2.1 = some (tyX5 k) := by decide +kernel
def RX6 : String := "RefundDesk$Scripts"
def TX6 : u_T := fun k => match k with
  | 0 => ("RefundDesk$Scripts", "steps", "[I", true)
  | 1 => ("RefundDesk$Scripts", "sizes", "[I", true)
  | _ => ("RefundDesk$Scripts", "size", "I", false)
def tyX6 : Nat → FieldType := fun k => match k with
  | 0 => .array .int
  | 1 => .array .int
  | _ => .int
theorem nmX6 : ∀ a, a < 3 → ∀ b, b < 3 → a ≠ b → (TX6 a).2.1 ≠ (TX6 b).2.1 := by decide +kernel
theorem tyX6_ok : ∀ k, k < 3 → parseFieldDescriptor (TX6 k).2.2.1 = some (tyX6 k) := by decide +kernel
abbrev cX6_init : ByteArray := prog_8_method_1_code
def yX6_init : MethodName := ⟨RX6, "<init>", "()V"⟩
abbrev cX6_has : ByteArray := prog_8_method_2_code
def yX6_has : MethodName := ⟨RX6, "has", "(I)Z"⟩
abbrev cX6_sizeOf : ByteArray := prog_8_method_3_code
def yX6_sizeOf : MethodName := ⟨RX6, "sizeOf", "(I)I"⟩
abbrev cX6_number : ByteArray := prog_8_method_4_code
def yX6_number : MethodName := ⟨RX6, "number", "(III)I"⟩
abbrev cX6_take : ByteArray := prog_8_method_5_code
def yX6_take : MethodName := ⟨RX6, "take", "([II)I"⟩
def RX7 : String := "RefundDesk$Table"
def TX7 : u_T := fun k => match k with
  | 0 => ("RefundDesk$Table", "cost", "[I", true)
  | 1 => ("RefundDesk$Table", "held", "[I", true)
  | 2 => ("RefundDesk$Table", "deed", "[I", true)
  | 3 => ("RefundDesk$Table", "calling", "[[I", true)
  | 4 => ("RefundDesk$Table", "renewing", "[[I", true)
  | 5 => ("RefundDesk$Table", "coupon", "I", false)
  | 6 => ("RefundDesk$Table", "refunds", "I", false)
  | _ => ("RefundDesk$Table", "known", "Z", false)
def tyX7 : Nat → FieldType := fun k => match k with
  | 0 => .array .int
  | 1 => .array .int
  | 2 => .array .int
  | 3 => .array (.array .int)
  | 4 => .array (.array .int)
  | 5 => .int
  | 6 => .int
  | _ => .boolean
theorem nmX7 : ∀ a, a < 8 → ∀ b, b < 8 → a ≠ b → (TX7 a).2.1 ≠ (TX7 b).2.1 := by decide +kernel
theorem tyX7_ok : ∀ k, k < 8 → parseFieldDescriptor (TX7 k).2.2.1 = some (tyX7 k) := by decide +kernel
abbrev cX7_init : ByteArray := prog_9_method_1_code
def yX7_init : MethodName := ⟨RX7, "<init>", "()V"⟩
def RX8 : String := "RefundDesk$Tables"
def TX8 : u_T := fun k => match k with
  | 0 => ("RefundDesk$Tables", "left", "[I", true)
  | 1 => ("RefundDesk$Tables", "part", "[I", true)
  | 2 => ("RefundDesk$Tables", "price", "[I", true)
  | 3 => ("RefundDesk$Tables", "scratch", "LRefundDesk$Table;", true)
  | 4 => ("RefundDesk$Tables", "least", "LRefundDesk$Table;", true)
  | 5 => ("RefundDesk$Tables", "byDeeds", "LRefundDesk$Table;", true)
  | 6 => ("RefundDesk$Tables", "rules", "[I", true)
  | 7 => ("RefundDesk$Tables", "seen", "[I", true)
  | 8 => ("RefundDesk$Tables", "leastNew", "[[I", true)
  | 9 => ("RefundDesk$Tables", "deedsNew", "[[I", true)
  | 10 => ("RefundDesk$Tables", "levels", "[I", true)
  | _ => ("RefundDesk$Tables", "stale", "Z", false)
def tyX8 : Nat → FieldType := fun k => match k with
  | 0 => .array .int
  | 1 => .array .int
  | 2 => .array .int
  | 3 => .object "RefundDesk$Table"
  | 4 => .object "RefundDesk$Table"
  | 5 => .object "RefundDesk$Table"
  | 6 => .array .int
  | 7 => .array .int
  | 8 => .array (.array .int)
  | 9 => .array (.array .int)
  | 10 => .array .int
  | _ => .boolean
theorem nmX8 : ∀ a, a < 12 → ∀ b, b < 12 → a ≠ b → (TX8 a).2.1 ≠ (TX8 b).2.1 := by decide +kernel
theorem tyX8_ok : ∀ k, k < 12 → parseFieldDescriptor (TX8 k).2.2.1 = some (tyX8 k) := by decide +kernel
abbrev cX8_init : ByteArray := prog_10_method_1_code
def yX8_init : MethodName := ⟨RX8, "<init>", "([I)V"⟩
abbrev cX8_nodeOf : ByteArray := prog_10_method_2_code
def yX8_nodeOf : MethodName := ⟨RX8, "nodeOf", "(II)I"⟩
abbrev cX8_bounded : ByteArray := prog_10_method_3_code
def yX8_bounded : MethodName := ⟨RX8, "bounded", "(I)I"⟩
abbrev cX8_forget : ByteArray := prog_10_method_4_code
def yX8_forget : MethodName := ⟨RX8, "forget", "()V"⟩
abbrev cX8_look : ByteArray := prog_10_method_5_code
def yX8_look : MethodName := ⟨RX8, "look", "([II)V"⟩
abbrev cX8_takesOver : ByteArray := prog_10_method_6_code
def yX8_takesOver : MethodName := ⟨RX8, "takesOver", "([III)Z"⟩
abbrev cX8_reckonYears : ByteArray := prog_10_method_7_code
def yX8_reckonYears : MethodName := ⟨RX8, "reckonYears", "()V"⟩
abbrev cX8_priceOf : ByteArray := prog_10_method_8_code
def yX8_priceOf : MethodName := ⟨RX8, "priceOf", "(I)I"⟩
abbrev cX8_interestOf : ByteArray := prog_10_method_9_code
def yX8_interestOf : MethodName := ⟨RX8, "interestOf", "(II)I"⟩
abbrev cX8_dueAt : ByteArray := prog_10_method_10_code
def yX8_dueAt : MethodName := ⟨RX8, "dueAt", "(II)I"⟩
abbrev cX8_renewalAt : ByteArray := prog_10_method_11_code
def yX8_renewalAt : MethodName := ⟨RX8, "renewalAt", "(I)I"⟩
abbrev cX8_couponAt : ByteArray := prog_10_method_12_code
def yX8_couponAt : MethodName := ⟨RX8, "couponAt", "(I)I"⟩
abbrev cX8_couponOfNode : ByteArray := prog_10_method_13_code
def yX8_couponOfNode : MethodName := ⟨RX8, "couponOfNode", "(I)I"⟩
abbrev cX8_mayCall : ByteArray := prog_10_method_14_code
def yX8_mayCall : MethodName := ⟨RX8, "mayCall", "(I)Z"⟩
abbrev cX8_costOf : ByteArray := prog_10_method_15_code
def yX8_costOf : MethodName := ⟨RX8, "costOf", "(LRefundDesk$Table;II)I"⟩
abbrev cX8_lastAllowed : ByteArray := prog_10_method_16_code
def yX8_lastAllowed : MethodName := ⟨RX8, "lastAllowed", "(II)I"⟩
abbrev cX8_leastDeed : ByteArray := prog_10_method_17_code
def yX8_leastDeed : MethodName := ⟨RX8, "leastDeed", "(LRefundDesk$Table;II)I"⟩
abbrev cX8_reckon : ByteArray := prog_10_method_18_code
def yX8_reckon : MethodName := ⟨RX8, "reckon", "([III)LRefundDesk$Table;"⟩
abbrev cX8_build : ByteArray := prog_10_method_19_code
def yX8_build : MethodName := ⟨RX8, "build", "(LRefundDesk$Table;III)V"⟩
abbrev cX8_reckonDeeds : ByteArray := prog_10_method_20_code
def yX8_reckonDeeds : MethodName := ⟨RX8, "reckonDeeds", "(LRefundDesk$Table;IIII)V"⟩
abbrev cX8_weigh : ByteArray := prog_10_method_21_code
def yX8_weigh : MethodName := ⟨RX8, "weigh", "([IIII)I"⟩
def RX9 : String := "RefundDesk$Tape"
def TX9 : u_T := fun k => match k with
  | 0 => ("RefundDesk$Tape", "bytes", "[B", true)
  | _ => ("RefundDesk$Tape", "length", "I", false)
def tyX9 : Nat → FieldType := fun k => match k with
  | 0 => .array .byte
  | _ => .int
theorem nmX9 : ∀ a, a < 2 → ∀ b, b < 2 → a ≠ b → (TX9 a).2.1 ≠ (TX9 b).2.1 := by decide +kernel
theorem tyX9_ok : ∀ k, k < 2 → parseFieldDescriptor (TX9 k).2.2.1 = some (tyX9 k) := by decide +kernel
abbrev cX9_init : ByteArray := prog_11_method_1_code
def yX9_init : MethodName := ⟨RX9, "<init>", "()V"⟩
abbrev cX9_countBytes : ByteArray := prog_11_method_2_code
def yX9_countBytes : MethodName := ⟨RX9, "countBytes", "(I)I"⟩
abbrev cX9_addBytes : ByteArray := prog_11_method_3_code
def yX9_addBytes : MethodName := ⟨RX9, "addBytes", "(I)V"⟩
abbrev cX9_at : ByteArray := prog_11_method_4_code
def yX9_at : MethodName := ⟨RX9, "at", "(I)I"⟩
def RX10 : String := "RefundDesk$Walk"
def TX10 : u_T := fun k => match k with
  | 0 => ("RefundDesk$Walk", "paid", "I", false)
  | 1 => ("RefundDesk$Walk", "renewals", "I", false)
  | 2 => ("RefundDesk$Walk", "lastYear", "I", false)
  | 3 => ("RefundDesk$Walk", "least", "I", false)
  | 4 => ("RefundDesk$Walk", "greatest", "I", false)
  | 5 => ("RefundDesk$Walk", "called", "I", false)
  | 6 => ("RefundDesk$Walk", "unlike", "I", false)
  | 7 => ("RefundDesk$Walk", "total", "I", false)
  | 8 => ("RefundDesk$Walk", "rules", "[I", true)
  | 9 => ("RefundDesk$Walk", "tables", "LRefundDesk$Tables;", true)
  | 10 => ("RefundDesk$Walk", "levels", "[LRefundDesk$Table;", true)
  | 11 => ("RefundDesk$Walk", "sums", "[J", true)
  | 12 => ("RefundDesk$Walk", "all", "Z", false)
  | 13 => ("RefundDesk$Walk", "moves", "I", false)
  | _ => ("RefundDesk$Walk", "start", "I", false)
def tyX10 : Nat → FieldType := fun k => match k with
  | 0 => .int
  | 1 => .int
  | 2 => .int
  | 3 => .int
  | 4 => .int
  | 5 => .int
  | 6 => .int
  | 7 => .int
  | 8 => .array .int
  | 9 => .object "RefundDesk$Tables"
  | 10 => .array (.object "RefundDesk$Table")
  | 11 => .array .long
  | 12 => .boolean
  | 13 => .int
  | _ => .int
theorem nmX10 : ∀ a, a < 15 → ∀ b, b < 15 → a ≠ b → (TX10 a).2.1 ≠ (TX10 b).2.1 := by decide +kernel
theorem tyX10_ok : ∀ k, k < 15 → parseFieldDescriptor (TX10 k).2.2.1 = some (tyX10 k) := by decide +kernel
abbrev cX10_init : ByteArray := prog_12_method_1_code
def yX10_init : MethodName := ⟨RX10, "<init>", "([ILRefundDesk$Tables;)V"⟩
abbrev cX10_go : ByteArray := prog_12_method_2_code
def yX10_go : MethodName := ⟨RX10, "go", "([IIZ)V"⟩
abbrev cX10_arrive : ByteArray := prog_12_method_3_code
def yX10_arrive : MethodName := ⟨RX10, "arrive", "(IIII)V"⟩
abbrev cX10_passYear : ByteArray := prog_12_method_4_code
def yX10_passYear : MethodName := ⟨RX10, "passYear", "(IIIIII)V"⟩
abbrev cX10_settleNotice : ByteArray := prog_12_method_5_code
def yX10_settleNotice : MethodName := ⟨RX10, "settleNotice", "(IIIII)V"⟩
abbrev cX10_finish : ByteArray := prog_12_method_6_code
def yX10_finish : MethodName := ⟨RX10, "finish", "(IIIZ)V"⟩
def RX11 : String := "RefundDesk"
def TX11 : u_T := fun k => match k with
  | 0 => ("RefundDesk", "rules", "[I", true)
  | 1 => ("RefundDesk", "cells", "[I", true)
  | 2 => ("RefundDesk", "trial", "[I", true)
  | 3 => ("RefundDesk", "refused", "[I", true)
  | 4 => ("RefundDesk", "chosen", "[I", true)
  | 5 => ("RefundDesk", "tape", "LRefundDesk$Tape;", true)
  | 6 => ("RefundDesk", "reader", "LRefundDesk$Reader;", true)
  | 7 => ("RefundDesk", "scripts", "LRefundDesk$Scripts;", true)
  | 8 => ("RefundDesk", "tables", "LRefundDesk$Tables;", true)
  | 9 => ("RefundDesk", "office", "LRefundDesk$Office;", true)
  | 10 => ("RefundDesk", "history", "LRefundDesk$History;", true)
  | 11 => ("RefundDesk", "walk", "LRefundDesk$Walk;", true)
  | 12 => ("RefundDesk", "flow", "LRefundDesk$Flow;", true)
  | _ => ("RefundDesk", "drawn", "J", false)
def tyX11 : Nat → FieldType := fun k => match k with
  | 0 => .array .int
  | 1 => .array .int
  | 2 => .array .int
  | 3 => .array .int
  | 4 => .array .int
  | 5 => .object "RefundDesk$Tape"
  | 6 => .object "RefundDesk$Reader"
  | 7 => .object "RefundDesk$Scripts"
  | 8 => .object "RefundDesk$Tables"
  | 9 => .object "RefundDesk$Office"
  | 10 => .object "RefundDesk$History"
  | 11 => .object "RefundDesk$Walk"
  | 12 => .object "RefundDesk$Flow"
  | _ => .long
theorem nmX11 : ∀ a, a < 14 → ∀ b, b < 14 → a ≠ b → (TX11 a).2.1 ≠ (TX11 b).2.1 := by decide +kernel
theorem tyX11_ok : ∀ k, k < 14 → parseFieldDescriptor (TX11 k).2.2.1 = some (tyX11 k) := by decide +kernel
abbrev cX11_init : ByteArray := prog_1_method_1_code
def yX11_init : MethodName := ⟨RX11, "<init>", "()V"⟩
abbrev cX11_feed : ByteArray := prog_1_method_2_code
def yX11_feed : MethodName := ⟨RX11, "feed", "(IIIII)I"⟩
abbrev cX11_end : ByteArray := prog_1_method_3_code
def yX11_end : MethodName := ⟨RX11, "end", "(I)Z"⟩
abbrev cX11_fault : ByteArray := prog_1_method_4_code
def yX11_fault : MethodName := ⟨RX11, "fault", "(I)I"⟩
abbrev cX11_text : ByteArray := prog_1_method_5_code
def yX11_text : MethodName := ⟨RX11, "text", "(I)I"⟩
abbrev cX11_takeLoan : ByteArray := prog_1_method_6_code
def yX11_takeLoan : MethodName := ⟨RX11, "takeLoan", "()I"⟩
abbrev cX11_takeClause : ByteArray := prog_1_method_7_code
def yX11_takeClause : MethodName := ⟨RX11, "takeClause", "(IIII)V"⟩
abbrev cX11_takePolicy : ByteArray := prog_1_method_8_code
def yX11_takePolicy : MethodName := ⟨RX11, "takePolicy", "()I"⟩
abbrev cX11_rule : ByteArray := prog_1_method_9_code
def yX11_rule : MethodName := ⟨RX11, "rule", "(I)I"⟩
abbrev cX11_rate : ByteArray := prog_1_method_10_code
def yX11_rate : MethodName := ⟨RX11, "rate", "(II)I"⟩
abbrev cX11_year : ByteArray := prog_1_method_11_code
def yX11_year : MethodName := ⟨RX11, "year", "(II)I"⟩
abbrev cX11_costs : ByteArray := prog_1_method_12_code
def yX11_costs : MethodName := ⟨RX11, "costs", "(III)J"⟩
abbrev cX11_best : ByteArray := prog_1_method_13_code
def yX11_best : MethodName := ⟨RX11, "best", "(II)I"⟩
abbrev cX11_up : ByteArray := prog_1_method_14_code
def yX11_up : MethodName := ⟨RX11, "up", "()I"⟩
abbrev cX11_down : ByteArray := prog_1_method_15_code
def yX11_down : MethodName := ⟨RX11, "down", "()I"⟩
abbrev cX11_call : ByteArray := prog_1_method_16_code
def yX11_call : MethodName := ⟨RX11, "call", "()I"⟩
abbrev cX11_refund : ByteArray := prog_1_method_17_code
def yX11_refund : MethodName := ⟨RX11, "refund", "()I"⟩
abbrev cX11_withdraw : ByteArray := prog_1_method_18_code
def yX11_withdraw : MethodName := ⟨RX11, "withdraw", "()I"⟩
abbrev cX11_instal : ByteArray := prog_1_method_19_code
def yX11_instal : MethodName := ⟨RX11, "instal", "(II)I"⟩
abbrev cX11_tell : ByteArray := prog_1_method_20_code
def yX11_tell : MethodName := ⟨RX11, "tell", "(III)I"⟩
abbrev cX11_doBest : ByteArray := prog_1_method_21_code
def yX11_doBest : MethodName := ⟨RX11, "doBest", "()I"⟩
abbrev cX11_adopt : ByteArray := prog_1_method_22_code
def yX11_adopt : MethodName := ⟨RX11, "adopt", "()I"⟩
abbrev cX11_follow : ByteArray := prog_1_method_23_code
def yX11_follow : MethodName := ⟨RX11, "follow", "()I"⟩
abbrev cX11_act : ByteArray := prog_1_method_24_code
def yX11_act : MethodName := ⟨RX11, "act", "(IIIIZ)I"⟩
abbrev cX11_years : ByteArray := prog_1_method_25_code
def yX11_years : MethodName := ⟨RX11, "years", "(IJ)I"⟩
abbrev cX11_chooseByDraws : ByteArray := prog_1_method_26_code
def yX11_chooseByDraws : MethodName := ⟨RX11, "chooseByDraws", "()V"⟩
abbrev cX11_draw : ByteArray := prog_1_method_27_code
def yX11_draw : MethodName := ⟨RX11, "draw", "(I)I"⟩
abbrev cX11_status : ByteArray := prog_1_method_28_code
def yX11_status : MethodName := ⟨RX11, "status", "(I)I"⟩
abbrev cX11_undo : ByteArray := prog_1_method_29_code
def yX11_undo : MethodName := ⟨RX11, "undo", "()I"⟩
abbrev cX11_log : ByteArray := prog_1_method_30_code
def yX11_log : MethodName := ⟨RX11, "log", "(II)I"⟩
abbrev cX11_way : ByteArray := prog_1_method_31_code
def yX11_way : MethodName := ⟨RX11, "way", "(II)I"⟩
abbrev cX11_mass : ByteArray := prog_1_method_32_code
def yX11_mass : MethodName := ⟨RX11, "mass", "(II)I"⟩
abbrev cX11_masses : ByteArray := prog_1_method_33_code
def yX11_masses : MethodName := ⟨RX11, "masses", "(I)I"⟩
abbrev cX11_worth : ByteArray := prog_1_method_34_code
def yX11_worth : MethodName := ⟨RX11, "worth", "()J"⟩
abbrev cX11_costHere : ByteArray := prog_1_method_35_code
def yX11_costHere : MethodName := ⟨RX11, "costHere", "(III)I"⟩
abbrev cX11_margin : ByteArray := prog_1_method_36_code
def yX11_margin : MethodName := ⟨RX11, "margin", "()J"⟩
abbrev cX11_till : ByteArray := prog_1_method_37_code
def yX11_till : MethodName := ⟨RX11, "till", "()I"⟩
abbrev cX11_weighedHere : ByteArray := prog_1_method_38_code
def yX11_weighedHere : MethodName := ⟨RX11, "weighedHere", "(LRefundDesk$Table;[I)I"⟩
abbrev cX11_tillWithNotice : ByteArray := prog_1_method_39_code
def yX11_tillWithNotice : MethodName := ⟨RX11, "tillWithNotice", "(LRefundDesk$Table;I)I"⟩
abbrev cX11_tillAtOnce : ByteArray := prog_1_method_40_code
def yX11_tillAtOnce : MethodName := ⟨RX11, "tillAtOnce", "(I)I"⟩
abbrev cX11_leavesAt : ByteArray := prog_1_method_41_code
def yX11_leavesAt : MethodName := ⟨RX11, "leavesAt", "(IIZ)Z"⟩
abbrev cX11_edge : ByteArray := prog_1_method_42_code
def yX11_edge : MethodName := ⟨RX11, "edge", "(I)I"⟩
abbrev cX11_fair : ByteArray := prog_1_method_43_code
def yX11_fair : MethodName := ⟨RX11, "fair", "()I"⟩
abbrev cX11_ending : ByteArray := prog_1_method_44_code
def yX11_ending : MethodName := ⟨RX11, "ending", "(II)I"⟩
abbrev cX11_saved : ByteArray := prog_1_method_45_code
def yX11_saved : MethodName := ⟨RX11, "saved", "()J"⟩
abbrev cX11_sums : ByteArray := prog_1_method_46_code
def yX11_sums : MethodName := ⟨RX11, "sums", "(I)I"⟩
abbrev cX11_deed : ByteArray := prog_1_method_47_code
def yX11_deed : MethodName := ⟨RX11, "deed", "(II)I"⟩
abbrev cX11_byPolicy : ByteArray := prog_1_method_48_code
def yX11_byPolicy : MethodName := ⟨RX11, "byPolicy", "(II)J"⟩
abbrev cX11_regret : ByteArray := prog_1_method_49_code
def yX11_regret : MethodName := ⟨RX11, "regret", "()J"⟩
abbrev cX11_strays : ByteArray := prog_1_method_50_code
def yX11_strays : MethodName := ⟨RX11, "strays", "(I)I"⟩
abbrev cX11_mended : ByteArray := prog_1_method_51_code
def yX11_mended : MethodName := ⟨RX11, "mended", "(II)I"⟩
abbrev cX11_rounds : ByteArray := prog_1_method_52_code
def yX11_rounds : MethodName := ⟨RX11, "rounds", "()I"⟩
abbrev cX11_mendsTrial : ByteArray := prog_1_method_53_code
def yX11_mendsTrial : MethodName := ⟨RX11, "mendsTrial", "()Z"⟩
abbrev cX11_shifted : ByteArray := prog_1_method_54_code
def yX11_shifted : MethodName := ⟨RX11, "shifted", "(I)J"⟩
abbrev cX11_spread : ByteArray := prog_1_method_55_code
def yX11_spread : MethodName := ⟨RX11, "spread", "(I)I"⟩
abbrev cX11_step : ByteArray := prog_1_method_56_code
def yX11_step : MethodName := ⟨RX11, "step", "(III)I"⟩
abbrev cX11_run : ByteArray := prog_1_method_57_code
def yX11_run : MethodName := ⟨RX11, "run", "(II)I"⟩
abbrev cX11_tries : ByteArray := prog_1_method_58_code
def yX11_tries : MethodName := ⟨RX11, "tries", "(II)Z"⟩
abbrev cX11_perform : ByteArray := prog_1_method_59_code
def yX11_perform : MethodName := ⟨RX11, "perform", "(I)I"⟩
abbrev cX11_most : ByteArray := prog_1_method_60_code
def yX11_most : MethodName := ⟨RX11, "most", "(I)I"⟩
abbrev cX11_leftNow : ByteArray := prog_1_method_61_code
def yX11_leftNow : MethodName := ⟨RX11, "leftNow", "()I"⟩
abbrev cX11_greatestRate : ByteArray := prog_1_method_62_code
def yX11_greatestRate : MethodName := ⟨RX11, "greatestRate", "()I"⟩
abbrev cX11_image : ByteArray := prog_1_method_63_code
def yX11_image : MethodName := ⟨RX11, "image", "()I"⟩
abbrev cX11_back : ByteArray := prog_1_method_64_code
def yX11_back : MethodName := ⟨RX11, "back", "()I"⟩
abbrev cX11_count : ByteArray := prog_1_method_65_code
def yX11_count : MethodName := ⟨RX11, "count", "(I)I"⟩
abbrev cX11_noLoan : ByteArray := prog_1_method_66_code
def yX11_noLoan : MethodName := ⟨RX11, "noLoan", "()Z"⟩
abbrev cX11_closed : ByteArray := prog_1_method_67_code
def yX11_closed : MethodName := ⟨RX11, "closed", "()Z"⟩
abbrev cX11_isNode : ByteArray := prog_1_method_68_code
def yX11_isNode : MethodName := ⟨RX11, "isNode", "(II)Z"⟩
abbrev cX11_here : ByteArray := prog_1_method_69_code
def yX11_here : MethodName := ⟨RX11, "here", "()I"⟩
def RX12 : String := "RefundDeskModel"
def TX12 : u_T := fun k => match k with
  | 0 => ("RefundDeskModel", "thrown", "I", false)
  | 1 => ("RefundDeskModel", "tape", "[B", true)
  | 2 => ("RefundDeskModel", "length", "I", false)
  | 3 => ("RefundDeskModel", "at", "I", false)
  | 4 => ("RefundDeskModel", "fault", "I", false)
  | 5 => ("RefundDeskModel", "ruleRead", "[I", true)
  | 6 => ("RefundDeskModel", "rule", "[I", true)
  | 7 => ("RefundDeskModel", "amountRead", "[I", true)
  | 8 => ("RefundDeskModel", "rateRead", "[I", true)
  | 9 => ("RefundDeskModel", "deedRead", "[I", true)
  | 10 => ("RefundDeskModel", "status", "[I", true)
  | 11 => ("RefundDeskModel", "script", "[I", true)
  | 12 => ("RefundDeskModel", "stepsOf", "[I", true)
  | 13 => ("RefundDeskModel", "amountsRead", "I", false)
  | 14 => ("RefundDeskModel", "ratesRead", "I", false)
  | 15 => ("RefundDeskModel", "deedsRead", "I", false)
  | 16 => ("RefundDeskModel", "scripts", "I", false)
  | 17 => ("RefundDeskModel", "isThere", "Z", false)
  | 18 => ("RefundDeskModel", "least", "I", false)
  | 19 => ("RefundDeskModel", "greatest", "I", false)
  | 20 => ("RefundDeskModel", "now", "[I", true)
  | 21 => ("RefundDeskModel", "trial", "[I", true)
  | 22 => ("RefundDeskModel", "image", "[I", true)
  | 23 => ("RefundDeskModel", "kept", "[I", true)
  | 24 => ("RefundDeskModel", "first", "I", false)
  | 25 => ("RefundDeskModel", "acts", "I", false)
  | 26 => ("RefundDeskModel", "hasImage", "Z", false)
  | 27 => ("RefundDeskModel", "shift", "I", false)
  | 28 => ("RefundDeskModel", "left", "[I", true)
  | 29 => ("RefundDeskModel", "amount", "[I", true)
  | 30 => ("RefundDeskModel", "price", "[I", true)
  | 31 => ("RefundDeskModel", "best", "[J", true)
  | 32 => ("RefundDeskModel", "told", "[J", true)
  | 33 => ("RefundDeskModel", "came", "I", false)
  | 34 => ("RefundDeskModel", "noted", "I", false)
  | 35 => ("RefundDeskModel", "own", "[J", true)
  | 36 => ("RefundDeskModel", "x", "J", false)
  | 37 => ("RefundDeskModel", "walk", "[I", true)
  | 38 => ("RefundDeskModel", "walkBy", "I", false)
  | 39 => ("RefundDeskModel", "sums", "[I", true)
  | 40 => ("RefundDeskModel", "masses", "[I", true)
  | 41 => ("RefundDeskModel", "massCalled", "I", false)
  | 42 => ("RefundDeskModel", "massRefunded", "I", false)
  | 43 => ("RefundDeskModel", "massLast", "I", false)
  | _ => ("RefundDeskModel", "deeds", "[I", true)
def tyX12 : Nat → FieldType := fun k => match k with
  | 0 => .int
  | 1 => .array .byte
  | 2 => .int
  | 3 => .int
  | 4 => .int
  | 5 => .array .int
  | 6 => .array .int
  | 7 => .array .int
  | 8 => .array .int
  | 9 => .array .int
  | 10 => .array .int
  | 11 => .array .int
  | 12 => .array .int
  | 13 => .int
  | 14 => .int
  | 15 => .int
  | 16 => .int
  | 17 => .boolean
  | 18 => .int
  | 19 => .int
  | 20 => .array .int
  | 21 => .array .int
  | 22 => .array .int
  | 23 => .array .int
  | 24 => .int
  | 25 => .int
  | 26 => .boolean
  | 27 => .int
  | 28 => .array .int
  | 29 => .array .int
  | 30 => .array .int
  | 31 => .array .long
  | 32 => .array .long
  | 33 => .int
  | 34 => .int
  | 35 => .array .long
  | 36 => .long
  | 37 => .array .int
  | 38 => .int
  | 39 => .array .int
  | 40 => .array .int
  | 41 => .int
  | 42 => .int
  | 43 => .int
  | _ => .array .int
theorem nmX12 : ∀ a, a < 45 → ∀ b, b < 45 → a ≠ b → (TX12 a).2.1 ≠ (TX12 b).2.1 := by decide +kernel
theorem tyX12_ok : ∀ k, k < 45 → parseFieldDescriptor (TX12 k).2.2.1 = some (tyX12 k) := by decide +kernel
abbrev cX12_init : ByteArray := prog_14_method_1_code
def yX12_init : MethodName := ⟨RX12, "<init>", "()V"⟩
abbrev cX12_thrown : ByteArray := prog_14_method_2_code
def yX12_thrown : MethodName := ⟨RX12, "thrown", "()I"⟩
abbrev cX12_isIn : ByteArray := prog_14_method_3_code
def yX12_isIn : MethodName := ⟨RX12, "isIn", "(JJJ)Z"⟩
abbrev cX12_bytesOf : ByteArray := prog_14_method_4_code
def yX12_bytesOf : MethodName := ⟨RX12, "bytesOf", "(I)I"⟩
abbrev cX12_brings : ByteArray := prog_14_method_5_code
def yX12_brings : MethodName := ⟨RX12, "brings", "(I)V"⟩
abbrev cX12_feed : ByteArray := prog_14_method_6_code
def yX12_feed : MethodName := ⟨RX12, "feed", "(IIIII)I"⟩
abbrev cX12_end : ByteArray := prog_14_method_7_code
def yX12_end : MethodName := ⟨RX12, "end", "(I)Z"⟩
abbrev cX12_here : ByteArray := prog_14_method_8_code
def yX12_here : MethodName := ⟨RX12, "here", "()I"⟩
abbrev cX12_look : ByteArray := prog_14_method_9_code
def yX12_look : MethodName := ⟨RX12, "look", "()I"⟩
abbrev cX12_fails : ByteArray := prog_14_method_10_code
def yX12_fails : MethodName := ⟨RX12, "fails", "()V"⟩
abbrev cX12_isDigit : ByteArray := prog_14_method_11_code
def yX12_isDigit : MethodName := ⟨RX12, "isDigit", "()Z"⟩
abbrev cX12_digit : ByteArray := prog_14_method_12_code
def yX12_digit : MethodName := ⟨RX12, "digit", "()I"⟩
abbrev cX12_number : ByteArray := prog_14_method_13_code
def yX12_number : MethodName := ⟨RX12, "number", "()I"⟩
abbrev cX12_spotOf : ByteArray := prog_14_method_14_code
def yX12_spotOf : MethodName := ⟨RX12, "spotOf", "(Ljava/lang/String;I)I"⟩
abbrev cX12_usual : ByteArray := prog_14_method_15_code
def yX12_usual : MethodName := ⟨RX12, "usual", "(I)I"⟩
abbrev cX12_mostOf : ByteArray := prog_14_method_16_code
def yX12_mostOf : MethodName := ⟨RX12, "mostOf", "(I)I"⟩
abbrev cX12_laysBounds : ByteArray := prog_14_method_17_code
def yX12_laysBounds : MethodName := ⟨RX12, "laysBounds", "(II)V"⟩
abbrev cX12_items : ByteArray := prog_14_method_18_code
def yX12_items : MethodName := ⟨RX12, "items", "([IIILjava/lang/String;)V"⟩
abbrev cX12_clause : ByteArray := prog_14_method_19_code
def yX12_clause : MethodName := ⟨RX12, "clause", "(Z)Z"⟩
abbrev cX12_readLoan : ByteArray := prog_14_method_20_code
def yX12_readLoan : MethodName := ⟨RX12, "readLoan", "()V"⟩
abbrev cX12_deedClause : ByteArray := prog_14_method_21_code
def yX12_deedClause : MethodName := ⟨RX12, "deedClause", "()V"⟩
abbrev cX12_readPolicy : ByteArray := prog_14_method_22_code
def yX12_readPolicy : MethodName := ⟨RX12, "readPolicy", "()V"⟩
abbrev cX12_numbersOf : ByteArray := prog_14_method_23_code
def yX12_numbersOf : MethodName := ⟨RX12, "numbersOf", "(I)I"⟩
abbrev cX12_readStep : ByteArray := prog_14_method_24_code
def yX12_readStep : MethodName := ⟨RX12, "readStep", "(I)V"⟩
abbrev cX12_readScript : ByteArray := prog_14_method_25_code
def yX12_readScript : MethodName := ⟨RX12, "readScript", "()V"⟩
abbrev cX12_fault : ByteArray := prog_14_method_26_code
def yX12_fault : MethodName := ⟨RX12, "fault", "(I)I"⟩
abbrev cX12_begins : ByteArray := prog_14_method_27_code
def yX12_begins : MethodName := ⟨RX12, "begins", "()V"⟩
abbrev cX12_tellsPolicy : ByteArray := prog_14_method_28_code
def yX12_tellsPolicy : MethodName := ⟨RX12, "tellsPolicy", "()I"⟩
abbrev cX12_text : ByteArray := prog_14_method_29_code
def yX12_text : MethodName := ⟨RX12, "text", "(I)I"⟩
abbrev cX12_copyRow : ByteArray := prog_14_method_30_code
def yX12_copyRow : MethodName := ⟨RX12, "copyRow", "([II[II)V"⟩
abbrev cX12_node : ByteArray := prog_14_method_31_code
def yX12_node : MethodName := ⟨RX12, "node", "(II)I"⟩
abbrev cX12_isNode : ByteArray := prog_14_method_32_code
def yX12_isNode : MethodName := ⟨RX12, "isNode", "(II)Z"⟩
abbrev cX12_bound : ByteArray := prog_14_method_33_code
def yX12_bound : MethodName := ⟨RX12, "bound", "(I)I"⟩
abbrev cX12_rateOf : ByteArray := prog_14_method_34_code
def yX12_rateOf : MethodName := ⟨RX12, "rateOf", "([III)I"⟩
abbrev cX12_newCoupon : ByteArray := prog_14_method_35_code
def yX12_newCoupon : MethodName := ⟨RX12, "newCoupon", "([III)I"⟩
abbrev cX12_canCome : ByteArray := prog_14_method_36_code
def yX12_canCome : MethodName := ⟨RX12, "canCome", "([III)Z"⟩
abbrev cX12_laysYears : ByteArray := prog_14_method_37_code
def yX12_laysYears : MethodName := ⟨RX12, "laysYears", "([I)V"⟩
abbrev cX12_interest : ByteArray := prog_14_method_38_code
def yX12_interest : MethodName := ⟨RX12, "interest", "(II)I"⟩
abbrev cX12_due : ByteArray := prog_14_method_39_code
def yX12_due : MethodName := ⟨RX12, "due", "(II)I"⟩
abbrev cX12_cell : ByteArray := prog_14_method_40_code
def yX12_cell : MethodName := ⟨RX12, "cell", "(IIII)I"⟩
abbrev cX12_next : ByteArray := prog_14_method_41_code
def yX12_next : MethodName := ⟨RX12, "next", "([IIIJJ)J"⟩
abbrev cX12_behind : ByteArray := prog_14_method_42_code
def yX12_behind : MethodName := ⟨RX12, "behind", "([JIIII)J"⟩
abbrev cX12_held : ByteArray := prog_14_method_43_code
def yX12_held : MethodName := ⟨RX12, "held", "([I[JIIIII)J"⟩
abbrev cX12_paid : ByteArray := prog_14_method_44_code
def yX12_paid : MethodName := ⟨RX12, "paid", "([I[JIIZIII)J"⟩
abbrev cX12_mayEnd : ByteArray := prog_14_method_45_code
def yX12_mayEnd : MethodName := ⟨RX12, "mayEnd", "(I)Z"⟩
abbrev cX12_may : ByteArray := prog_14_method_46_code
def yX12_may : MethodName := ⟨RX12, "may", "(III)Z"⟩
abbrev cX12_costBy : ByteArray := prog_14_method_47_code
def yX12_costBy : MethodName := ⟨RX12, "costBy", "([I[JIIIIII)J"⟩
abbrev cX12_bestDeed : ByteArray := prog_14_method_48_code
def yX12_bestDeed : MethodName := ⟨RX12, "bestDeed", "([I[JIIIII)I"⟩
abbrev cX12_policyDeed : ByteArray := prog_14_method_49_code
def yX12_policyDeed : MethodName := ⟨RX12, "policyDeed", "([IIII)I"⟩
abbrev cX12_laysBy : ByteArray := prog_14_method_50_code
def yX12_laysBy : MethodName := ⟨RX12, "laysBy", "([I[JZIIII)V"⟩
abbrev cX12_lays : ByteArray := prog_14_method_51_code
def yX12_lays : MethodName := ⟨RX12, "lays", "([I[JZII)V"⟩
abbrev cX12_laysNow : ByteArray := prog_14_method_52_code
def yX12_laysNow : MethodName := ⟨RX12, "laysNow", "()V"⟩
abbrev cX12_laysPolicy : ByteArray := prog_14_method_53_code
def yX12_laysPolicy : MethodName := ⟨RX12, "laysPolicy", "([I)V"⟩
abbrev cX12_isOver : ByteArray := prog_14_method_54_code
def yX12_isOver : MethodName := ⟨RX12, "isOver", "([I)Z"⟩
abbrev cX12_stops : ByteArray := prog_14_method_55_code
def yX12_stops : MethodName := ⟨RX12, "stops", "([IIIII)I"⟩
abbrev cX12_pays : ByteArray := prog_14_method_56_code
def yX12_pays : MethodName := ⟨RX12, "pays", "([II)V"⟩
abbrev cX12_runsOut : ByteArray := prog_14_method_57_code
def yX12_runsOut : MethodName := ⟨RX12, "runsOut", "([I)V"⟩
abbrev cX12_givesNotice : ByteArray := prog_14_method_58_code
def yX12_givesNotice : MethodName := ⟨RX12, "givesNotice", "([II)V"⟩
abbrev cX12_passes : ByteArray := prog_14_method_59_code
def yX12_passes : MethodName := ⟨RX12, "passes", "([II)V"⟩
abbrev cX12_bestHere : ByteArray := prog_14_method_60_code
def yX12_bestHere : MethodName := ⟨RX12, "bestHere", "([I)I"⟩
abbrev cX12_doesBest : ByteArray := prog_14_method_61_code
def yX12_doesBest : MethodName := ⟨RX12, "doesBest", "([II)I"⟩
abbrev cX12_adopts : ByteArray := prog_14_method_62_code
def yX12_adopts : MethodName := ⟨RX12, "adopts", "([I)I"⟩
abbrev cX12_does : ByteArray := prog_14_method_63_code
def yX12_does : MethodName := ⟨RX12, "does", "([IIIII)I"⟩
abbrev cX12_remember : ByteArray := prog_14_method_64_code
def yX12_remember : MethodName := ⟨RX12, "remember", "()V"⟩
abbrev cX12_notes : ByteArray := prog_14_method_65_code
def yX12_notes : MethodName := ⟨RX12, "notes", "(I)V"⟩
abbrev cX12_tries : ByteArray := prog_14_method_66_code
def yX12_tries : MethodName := ⟨RX12, "tries", "(IIII)I"⟩
abbrev cX12_act : ByteArray := prog_14_method_67_code
def yX12_act : MethodName := ⟨RX12, "act", "(IIII)I"⟩
abbrev cX12_up : ByteArray := prog_14_method_68_code
def yX12_up : MethodName := ⟨RX12, "up", "()I"⟩
abbrev cX12_down : ByteArray := prog_14_method_69_code
def yX12_down : MethodName := ⟨RX12, "down", "()I"⟩
abbrev cX12_call : ByteArray := prog_14_method_70_code
def yX12_call : MethodName := ⟨RX12, "call", "()I"⟩
abbrev cX12_refund : ByteArray := prog_14_method_71_code
def yX12_refund : MethodName := ⟨RX12, "refund", "()I"⟩
abbrev cX12_withdraw : ByteArray := prog_14_method_72_code
def yX12_withdraw : MethodName := ⟨RX12, "withdraw", "()I"⟩
abbrev cX12_instal : ByteArray := prog_14_method_73_code
def yX12_instal : MethodName := ⟨RX12, "instal", "(II)I"⟩
abbrev cX12_tell : ByteArray := prog_14_method_74_code
def yX12_tell : MethodName := ⟨RX12, "tell", "(III)I"⟩
abbrev cX12_doBest : ByteArray := prog_14_method_75_code
def yX12_doBest : MethodName := ⟨RX12, "doBest", "()I"⟩
abbrev cX12_adopt : ByteArray := prog_14_method_76_code
def yX12_adopt : MethodName := ⟨RX12, "adopt", "()I"⟩
abbrev cX12_follow : ByteArray := prog_14_method_77_code
def yX12_follow : MethodName := ⟨RX12, "follow", "()I"⟩
abbrev cX12_draw : ByteArray := prog_14_method_78_code
def yX12_draw : MethodName := ⟨RX12, "draw", "(I)I"⟩
abbrev cX12_happens : ByteArray := prog_14_method_79_code
def yX12_happens : MethodName := ⟨RX12, "happens", "()I"⟩
abbrev cX12_years : ByteArray := prog_14_method_80_code
def yX12_years : MethodName := ⟨RX12, "years", "(IJ)I"⟩
abbrev cX12_status : ByteArray := prog_14_method_81_code
def yX12_status : MethodName := ⟨RX12, "status", "(I)I"⟩
abbrev cX12_undo : ByteArray := prog_14_method_82_code
def yX12_undo : MethodName := ⟨RX12, "undo", "()I"⟩
abbrev cX12_log : ByteArray := prog_14_method_83_code
def yX12_log : MethodName := ⟨RX12, "log", "(II)I"⟩
abbrev cX12_image : ByteArray := prog_14_method_84_code
def yX12_image : MethodName := ⟨RX12, "image", "()I"⟩
abbrev cX12_back : ByteArray := prog_14_method_85_code
def yX12_back : MethodName := ⟨RX12, "back", "()I"⟩
abbrev cX12_rule : ByteArray := prog_14_method_86_code
def yX12_rule : MethodName := ⟨RX12, "rule", "(I)I"⟩
abbrev cX12_rate : ByteArray := prog_14_method_87_code
def yX12_rate : MethodName := ⟨RX12, "rate", "(II)I"⟩
abbrev cX12_year : ByteArray := prog_14_method_88_code
def yX12_year : MethodName := ⟨RX12, "year", "(II)I"⟩
abbrev cX12_costs : ByteArray := prog_14_method_89_code
def yX12_costs : MethodName := ⟨RX12, "costs", "(III)J"⟩
abbrev cX12_best : ByteArray := prog_14_method_90_code
def yX12_best : MethodName := ⟨RX12, "best", "(II)I"⟩
abbrev cX12_walkActs : ByteArray := prog_14_method_91_code
def yX12_walkActs : MethodName := ⟨RX12, "walkActs", "()V"⟩
abbrev cX12_walkGives : ByteArray := prog_14_method_92_code
def yX12_walkGives : MethodName := ⟨RX12, "walkGives", "(I)V"⟩
abbrev cX12_walks : ByteArray := prog_14_method_93_code
def yX12_walks : MethodName := ⟨RX12, "walks", "(I)V"⟩
abbrev cX12_way : ByteArray := prog_14_method_94_code
def yX12_way : MethodName := ⟨RX12, "way", "(II)I"⟩
abbrev cX12_unlike : ByteArray := prog_14_method_95_code
def yX12_unlike : MethodName := ⟨RX12, "unlike", "(I)I"⟩
abbrev cX12_spread : ByteArray := prog_14_method_96_code
def yX12_spread : MethodName := ⟨RX12, "spread", "(I)I"⟩
abbrev cX12_isCalled : ByteArray := prog_14_method_97_code
def yX12_isCalled : MethodName := ⟨RX12, "isCalled", "()Z"⟩
abbrev cX12_laysMasses : ByteArray := prog_14_method_98_code
def yX12_laysMasses : MethodName := ⟨RX12, "laysMasses", "()V"⟩
abbrev cX12_goesOn : ByteArray := prog_14_method_99_code
def yX12_goesOn : MethodName := ⟨RX12, "goesOn", "(II)V"⟩
abbrev cX12_mass : ByteArray := prog_14_method_100_code
def yX12_mass : MethodName := ⟨RX12, "mass", "(II)I"⟩
abbrev cX12_masses : ByteArray := prog_14_method_101_code
def yX12_masses : MethodName := ⟨RX12, "masses", "(I)I"⟩
abbrev cX12_ending : ByteArray := prog_14_method_102_code
def yX12_ending : MethodName := ⟨RX12, "ending", "(II)I"⟩
abbrev cX12_here_ : ByteArray := prog_14_method_103_code
def yX12_here_ : MethodName := ⟨RX12, "here", "([J)J"⟩
abbrev cX12_worth : ByteArray := prog_14_method_104_code
def yX12_worth : MethodName := ⟨RX12, "worth", "()J"⟩
abbrev cX12_margin : ByteArray := prog_14_method_105_code
def yX12_margin : MethodName := ⟨RX12, "margin", "()J"⟩
abbrev cX12_till : ByteArray := prog_14_method_106_code
def yX12_till : MethodName := ⟨RX12, "till", "()I"⟩
abbrev cX12_edge : ByteArray := prog_14_method_107_code
def yX12_edge : MethodName := ⟨RX12, "edge", "(I)I"⟩
abbrev cX12_saved : ByteArray := prog_14_method_108_code
def yX12_saved : MethodName := ⟨RX12, "saved", "()J"⟩
abbrev cX12_fair : ByteArray := prog_14_method_109_code
def yX12_fair : MethodName := ⟨RX12, "fair", "()I"⟩
abbrev cX12_sums : ByteArray := prog_14_method_110_code
def yX12_sums : MethodName := ⟨RX12, "sums", "(I)I"⟩
abbrev cX12_shifted : ByteArray := prog_14_method_111_code
def yX12_shifted : MethodName := ⟨RX12, "shifted", "(I)J"⟩
abbrev cX12_deed : ByteArray := prog_14_method_112_code
def yX12_deed : MethodName := ⟨RX12, "deed", "(II)I"⟩
abbrev cX12_byPolicy : ByteArray := prog_14_method_113_code
def yX12_byPolicy : MethodName := ⟨RX12, "byPolicy", "(II)J"⟩
abbrev cX12_regret : ByteArray := prog_14_method_114_code
def yX12_regret : MethodName := ⟨RX12, "regret", "()J"⟩
abbrev cX12_strays : ByteArray := prog_14_method_115_code
def yX12_strays : MethodName := ⟨RX12, "strays", "(I)I"⟩
abbrev cX12_mended : ByteArray := prog_14_method_116_code
def yX12_mended : MethodName := ⟨RX12, "mended", "(II)I"⟩
abbrev cX12_mendsAll : ByteArray := prog_14_method_117_code
def yX12_mendsAll : MethodName := ⟨RX12, "mendsAll", "()I"⟩
abbrev cX12_rounds : ByteArray := prog_14_method_118_code
def yX12_rounds : MethodName := ⟨RX12, "rounds", "()I"⟩
abbrev cX12_isScript : ByteArray := prog_14_method_119_code
def yX12_isScript : MethodName := ⟨RX12, "isScript", "(I)Z"⟩
abbrev cX12_step : ByteArray := prog_14_method_120_code
def yX12_step : MethodName := ⟨RX12, "step", "(III)I"⟩
abbrev cX12_run : ByteArray := prog_14_method_121_code
def yX12_run : MethodName := ⟨RX12, "run", "(II)I"⟩
abbrev cX12_perform : ByteArray := prog_14_method_122_code
def yX12_perform : MethodName := ⟨RX12, "perform", "(I)I"⟩
abbrev cX12_highest : ByteArray := prog_14_method_123_code
def yX12_highest : MethodName := ⟨RX12, "highest", "()I"⟩
abbrev cX12_leftNow : ByteArray := prog_14_method_124_code
def yX12_leftNow : MethodName := ⟨RX12, "leftNow", "()I"⟩
abbrev cX12_most : ByteArray := prog_14_method_125_code
def yX12_most : MethodName := ⟨RX12, "most", "(I)I"⟩
abbrev cX12_count : ByteArray := prog_14_method_126_code
def yX12_count : MethodName := ⟨RX12, "count", "(I)I"⟩
def RJ9 : String := "java/lang/Math"
def TJ9 : u_T := fun k => match k with
  | _ => ("", "", "", false)
def tyJ9 : Nat → FieldType := fun k => match k with
  | _ => .int
theorem nmJ9 : ∀ a, a < 0 → ∀ b, b < 0 → a ≠ b → (TJ9 a).2.1 ≠ (TJ9 b).2.1 := by decide +kernel
theorem tyJ9_ok : ∀ k, k < 0 → parseFieldDescriptor (TJ9 k).2.2.1 = some (tyJ9 k) := by decide +kernel
abbrev cJ9_max_7cf53 : ByteArray := prog_19_method_65_code
def yJ9_max_7cf53 : MethodName := ⟨RJ9, "max", "(II)I"⟩
abbrev cJ9_min_7cf53 : ByteArray := prog_19_method_69_code
def yJ9_min_7cf53 : MethodName := ⟨RJ9, "min", "(II)I"⟩
def RJ0 : String := "java/lang/String"
def TJ0 : u_T := fun k => match k with
  | _ => ("", "", "", false)
def tyJ0 : Nat → FieldType := fun k => match k with
  | _ => .int
theorem nmJ0 : ∀ a, a < 0 → ∀ b, b < 0 → a ≠ b → (TJ0 a).2.1 ≠ (TJ0 b).2.1 := by decide +kernel
theorem tyJ0_ok : ∀ k, k < 0 → parseFieldDescriptor (TJ0 k).2.2.1 = some (tyJ0 k) := by decide +kernel
abbrev cJ0_length_8abf5 : ByteArray := prog_21_method_54_code
def yJ0_length_8abf5 : MethodName := ⟨RJ0, "length", "()I"⟩
abbrev cJ0_charAt_5068e : ByteArray := prog_21_method_56_code
def yJ0_charAt_5068e : MethodName := ⟨RJ0, "charAt", "(I)C"⟩
abbrev cJ0_coder_7d493 : ByteArray := prog_21_method_152_code
def yJ0_coder_7d493 : MethodName := ⟨RJ0, "coder", "()B"⟩
abbrev cJ0_isLatin1_aae02 : ByteArray := prog_21_method_154_code
def yJ0_isLatin1_aae02 : MethodName := ⟨RJ0, "isLatin1", "()Z"⟩
abbrev cJ0_checkIndex_df160 : ByteArray := prog_21_method_155_code
def yJ0_checkIndex_df160 : MethodName := ⟨RJ0, "checkIndex", "(II)V"⟩
def RJ1 : String := "java/lang/StringLatin1"
def TJ1 : u_T := fun k => match k with
  | _ => ("", "", "", false)
def tyJ1 : Nat → FieldType := fun k => match k with
  | _ => .int
theorem nmJ1 : ∀ a, a < 0 → ∀ b, b < 0 → a ≠ b → (TJ1 a).2.1 ≠ (TJ1 b).2.1 := by decide +kernel
theorem tyJ1_ok : ∀ k, k < 0 → parseFieldDescriptor (TJ1 k).2.2.1 = some (tyJ1 k) := by decide +kernel
abbrev cJ1_charAt_3b067 : ByteArray := prog_22_method_2_code
def yJ1_charAt_3b067 : MethodName := ⟨RJ1, "charAt", "([BI)C"⟩
def RJ2 : String := "java/lang/StringUTF16"
def TJ2 : u_T := fun k => match k with
  | _ => ("", "", "", false)
def tyJ2 : Nat → FieldType := fun k => match k with
  | _ => .int
theorem nmJ2 : ∀ a, a < 0 → ∀ b, b < 0 → a ≠ b → (TJ2 a).2.1 ≠ (TJ2 b).2.1 := by decide +kernel
theorem tyJ2_ok : ∀ k, k < 0 → parseFieldDescriptor (TJ2 k).2.2.1 = some (tyJ2 k) := by decide +kernel
abbrev cJ2_getChar_3b067 : ByteArray := prog_23_method_5_code
def yJ2_getChar_3b067 : MethodName := ⟨RJ2, "getChar", "([BI)C"⟩
abbrev cJ2_length_9d52b : ByteArray := prog_23_method_6_code
def yJ2_length_9d52b : MethodName := ⟨RJ2, "length", "([B)I"⟩
abbrev cJ2_charAt_3b067 : ByteArray := prog_23_method_83_code
def yJ2_charAt_3b067 : MethodName := ⟨RJ2, "charAt", "([BI)C"⟩
abbrev cJ2_checkIndex_2214a : ByteArray := prog_23_method_91_code
def yJ2_checkIndex_2214a : MethodName := ⟨RJ2, "checkIndex", "(I[B)V"⟩
def RJ10 : String := "java/lang/System"
def TJ10 : u_T := fun k => match k with
  | _ => ("", "", "", false)
def tyJ10 : Nat → FieldType := fun k => match k with
  | _ => .int
theorem nmJ10 : ∀ a, a < 0 → ∀ b, b < 0 → a ≠ b → (TJ10 a).2.1 ≠ (TJ10 b).2.1 := by decide +kernel
theorem tyJ10_ok : ∀ k, k < 0 → parseFieldDescriptor (TJ10 k).2.2.1 = some (tyJ10 k) := by decide +kernel
def RJ7 : String := "java/util/Arrays"
def TJ7 : u_T := fun k => match k with
  | _ => ("", "", "", false)
def tyJ7 : Nat → FieldType := fun k => match k with
  | _ => .int
theorem nmJ7 : ∀ a, a < 0 → ∀ b, b < 0 → a ≠ b → (TJ7 a).2.1 ≠ (TJ7 b).2.1 := by decide +kernel
theorem tyJ7_ok : ∀ k, k < 0 → parseFieldDescriptor (TJ7 k).2.2.1 = some (tyJ7 k) := by decide +kernel
abbrev cJ7_rangeCheck_23922 : ByteArray := prog_28_method_30_code
def yJ7_rangeCheck_23922 : MethodName := ⟨RJ7, "rangeCheck", "(III)V"⟩
abbrev cJ7_fill_d0a16 : ByteArray := prog_28_method_101_code
def yJ7_fill_d0a16 : MethodName := ⟨RJ7, "fill", "([JJ)V"⟩
abbrev cJ7_fill_53178 : ByteArray := prog_28_method_103_code
def yJ7_fill_53178 : MethodName := ⟨RJ7, "fill", "([II)V"⟩
abbrev cJ7_fill_fda19 : ByteArray := prog_28_method_104_code
def yJ7_fill_fda19 : MethodName := ⟨RJ7, "fill", "([IIII)V"⟩
def RJ3 : String := "jdk/internal/util/Preconditions"
def TJ3 : u_T := fun k => match k with
  | _ => ("", "", "", false)
def tyJ3 : Nat → FieldType := fun k => match k with
  | _ => .int
theorem nmJ3 : ∀ a, a < 0 → ∀ b, b < 0 → a ≠ b → (TJ3 a).2.1 ≠ (TJ3 b).2.1 := by decide +kernel
theorem tyJ3_ok : ∀ k, k < 0 → parseFieldDescriptor (TJ3 k).2.2.1 = some (tyJ3 k) := by decide +kernel
abbrev cJ3_checkIndex_8e157 : ByteArray := prog_30_method_11_code
def yJ3_checkIndex_8e157 : MethodName := ⟨RJ3, "checkIndex", "(IILjava/util/function/BiFunction;)I"⟩
abbrev cL_rate : ByteArray := method_3_code
def yL_rate : MethodName := ⟨RL, "rate", "(LRefundDesk;II[J)I"⟩
abbrev cL_law : ByteArray := code
def yL_law : MethodName := ⟨RL, "law", "([I)Z"⟩
abbrev vwCl : List vw_C := [(RX1, TX1, 2), (RX2, TX2, 9), (RX3, TX3, 4), (RX4, TX4, 7), (RX6, TX6, 3), (RX7, TX7, 8), (RX8, TX8, 12), (RX9, TX9, 2), (RX10, TX10, 15), (RX11, TX11, 14), (RX12, TX12, 45)]
def mX0_deedOf : Me := (yX0_deedOf, cX0_deedOf, 3, some .int, RX0)
def mX0_setDeed : Me := (yX0_setDeed, cX0_setDeed, 4, none, RX0)
def mX1_init : Me := (yX1_init, cX1_init, 2, none, RX1)
def mX1_pour : Me := (yX1_pour, cX1_pour, 9, none, RX1)
def mX1_stopped : Me := (yX1_stopped, cX1_stopped, 7, some .int, RX1)
def mX1_atTheEnd : Me := (yX1_atTheEnd, cX1_atTheEnd, 4, some .int, RX1)
def mX2_init : Me := (yX2_init, cX2_init, 1, none, RX2)
def mX2_clear : Me := (yX2_clear, cX2_clear, 1, none, RX2)
def mX2_save : Me := (yX2_save, cX2_save, 2, none, RX2)
def mX2_enter : Me := (yX2_enter, cX2_enter, 5, none, RX2)
def mX2_takeBack : Me := (yX2_takeBack, cX2_takeBack, 2, some .boolean, RX2)
def mX2_shown : Me := (yX2_shown, cX2_shown, 1, some .int, RX2)
def mX2_entry : Me := (yX2_entry, cX2_entry, 3, some .int, RX2)
def mX2_keepImage : Me := (yX2_keepImage, cX2_keepImage, 2, none, RX2)
def mX2_bringBack : Me := (yX2_bringBack, cX2_bringBack, 2, some .boolean, RX2)
def mX3_init : Me := (yX3_init, cX3_init, 4, none, RX3)
def mX3_attempt : Me := (yX3_attempt, cX3_attempt, 5, some .int, RX3)
def mX3_here : Me := (yX3_here, cX3_here, 1, some .int, RX3)
def mX3_passYear : Me := (yX3_passYear, cX3_passYear, 5, some .int, RX3)
def mX3_giveNotice : Me := (yX3_giveNotice, cX3_giveNotice, 2, some .int, RX3)
def mX3_settleNotice : Me := (yX3_settleNotice, cX3_settleNotice, 4, some .int, RX3)
def mX3_takeNoticeBack : Me := (yX3_takeNoticeBack, cX3_takeNoticeBack, 2, some .int, RX3)
def mX3_tellInstalment : Me := (yX3_tellInstalment, cX3_tellInstalment, 4, some .int, RX3)
def mX3_tellRate : Me := (yX3_tellRate, cX3_tellRate, 6, some .int, RX3)
def mX3_carryOut : Me := (yX3_carryOut, cX3_carryOut, 3, some .int, RX3)
def mX3_takeDeeds : Me := (yX3_takeDeeds, cX3_takeDeeds, 8, some .int, RX3)
def mX4_init : Me := (yX4_init, cX4_init, 2, none, RX4)
def mX4_examine : Me := (yX4_examine, cX4_examine, 2, some .int, RX4)
def mX4_part : Me := (yX4_part, cX4_part, 3, some .int, RX4)
def mX4_readClauses : Me := (yX4_readClauses, cX4_readClauses, 5, some .int, RX4)
def mX4_readItems : Me := (yX4_readItems, cX4_readItems, 8, some .int, RX4)
def mX4_startPart : Me := (yX4_startPart, cX4_startPart, 4, some .int, RX4)
def mX4_readSteps : Me := (yX4_readSteps, cX4_readSteps, 4, some .int, RX4)
def mX4_readStepNumbers : Me := (yX4_readStepNumbers, cX4_readStepNumbers, 6, some .int, RX4)
def mX4_readNumber : Me := (yX4_readNumber, cX4_readNumber, 4, some .int, RX4)
def mX4_isDigit : Me := (yX4_isDigit, cX4_isDigit, 1, some .boolean, RX4)
def mX4_skipBlanks : Me := (yX4_skipBlanks, cX4_skipBlanks, 1, none, RX4)
def mX4_placeOf : Me := (yX4_placeOf, cX4_placeOf, 5, some .int, RX4)
def mX6_init : Me := (yX6_init, cX6_init, 1, none, RX6)
def mX6_has : Me := (yX6_has, cX6_has, 2, some .boolean, RX6)
def mX6_sizeOf : Me := (yX6_sizeOf, cX6_sizeOf, 2, some .int, RX6)
def mX6_number : Me := (yX6_number, cX6_number, 5, some .int, RX6)
def mX6_take : Me := (yX6_take, cX6_take, 3, some .int, RX6)
def mX7_init : Me := (yX7_init, cX7_init, 1, none, RX7)
def mX8_init : Me := (yX8_init, cX8_init, 2, none, RX8)
def mX8_nodeOf : Me := (yX8_nodeOf, cX8_nodeOf, 2, some .int, RX8)
def mX8_bounded : Me := (yX8_bounded, cX8_bounded, 1, some .int, RX8)
def mX8_forget : Me := (yX8_forget, cX8_forget, 1, none, RX8)
def mX8_look : Me := (yX8_look, cX8_look, 6, none, RX8)
def mX8_takesOver : Me := (yX8_takesOver, cX8_takesOver, 6, some .boolean, RX8)
def mX8_reckonYears : Me := (yX8_reckonYears, cX8_reckonYears, 3, none, RX8)
def mX8_priceOf : Me := (yX8_priceOf, cX8_priceOf, 2, some .int, RX8)
def mX8_interestOf : Me := (yX8_interestOf, cX8_interestOf, 3, some .int, RX8)
def mX8_dueAt : Me := (yX8_dueAt, cX8_dueAt, 3, some .int, RX8)
def mX8_renewalAt : Me := (yX8_renewalAt, cX8_renewalAt, 2, some .int, RX8)
def mX8_couponAt : Me := (yX8_couponAt, cX8_couponAt, 2, some .int, RX8)
def mX8_couponOfNode : Me := (yX8_couponOfNode, cX8_couponOfNode, 2, some .int, RX8)
def mX8_mayCall : Me := (yX8_mayCall, cX8_mayCall, 2, some .boolean, RX8)
def mX8_costOf : Me := (yX8_costOf, cX8_costOf, 4, some .int, RX8)
def mX8_lastAllowed : Me := (yX8_lastAllowed, cX8_lastAllowed, 3, some .int, RX8)
def mX8_leastDeed : Me := (yX8_leastDeed, cX8_leastDeed, 7, some .int, RX8)
def mX8_reckon : Me := (yX8_reckon, cX8_reckon, 12, some (.object "RefundDesk$Table"), RX8)
def mX8_build : Me := (yX8_build, cX8_build, 14, none, RX8)
def mX8_reckonDeeds : Me := (yX8_reckonDeeds, cX8_reckonDeeds, 8, none, RX8)
def mX8_weigh : Me := (yX8_weigh, cX8_weigh, 6, some .int, RX8)
def mX9_init : Me := (yX9_init, cX9_init, 1, none, RX9)
def mX9_countBytes : Me := (yX9_countBytes, cX9_countBytes, 4, some .int, RX9)
def mX9_addBytes : Me := (yX9_addBytes, cX9_addBytes, 4, none, RX9)
def mX9_at : Me := (yX9_at, cX9_at, 2, some .int, RX9)
def mX10_init : Me := (yX10_init, cX10_init, 3, none, RX10)
def mX10_go : Me := (yX10_go, cX10_go, 4, none, RX10)
def mX10_arrive : Me := (yX10_arrive, cX10_arrive, 6, none, RX10)
def mX10_passYear : Me := (yX10_passYear, cX10_passYear, 11, none, RX10)
def mX10_settleNotice : Me := (yX10_settleNotice, cX10_settleNotice, 7, none, RX10)
def mX10_finish : Me := (yX10_finish, cX10_finish, 7, none, RX10)
def mX11_init : Me := (yX11_init, cX11_init, 1, none, RX11)
def mX11_feed : Me := (yX11_feed, cX11_feed, 7, some .int, RX11)
def mX11_end : Me := (yX11_end, cX11_end, 2, some .boolean, RX11)
def mX11_fault : Me := (yX11_fault, cX11_fault, 2, some .int, RX11)
def mX11_text : Me := (yX11_text, cX11_text, 2, some .int, RX11)
def mX11_takeLoan : Me := (yX11_takeLoan, cX11_takeLoan, 5, some .int, RX11)
def mX11_takeClause : Me := (yX11_takeClause, cX11_takeClause, 5, none, RX11)
def mX11_takePolicy : Me := (yX11_takePolicy, cX11_takePolicy, 4, some .int, RX11)
def mX11_rule : Me := (yX11_rule, cX11_rule, 2, some .int, RX11)
def mX11_rate : Me := (yX11_rate, cX11_rate, 3, some .int, RX11)
def mX11_year : Me := (yX11_year, cX11_year, 3, some .int, RX11)
def mX11_costs : Me := (yX11_costs, cX11_costs, 6, some .long, RX11)
def mX11_best : Me := (yX11_best, cX11_best, 3, some .int, RX11)
def mX11_up : Me := (yX11_up, cX11_up, 1, some .int, RX11)
def mX11_down : Me := (yX11_down, cX11_down, 1, some .int, RX11)
def mX11_call : Me := (yX11_call, cX11_call, 1, some .int, RX11)
def mX11_refund : Me := (yX11_refund, cX11_refund, 1, some .int, RX11)
def mX11_withdraw : Me := (yX11_withdraw, cX11_withdraw, 1, some .int, RX11)
def mX11_instal : Me := (yX11_instal, cX11_instal, 3, some .int, RX11)
def mX11_tell : Me := (yX11_tell, cX11_tell, 4, some .int, RX11)
def mX11_doBest : Me := (yX11_doBest, cX11_doBest, 1, some .int, RX11)
def mX11_adopt : Me := (yX11_adopt, cX11_adopt, 1, some .int, RX11)
def mX11_follow : Me := (yX11_follow, cX11_follow, 1, some .int, RX11)
def mX11_act : Me := (yX11_act, cX11_act, 8, some .int, RX11)
def mX11_years : Me := (yX11_years, cX11_years, 5, some .int, RX11)
def mX11_chooseByDraws : Me := (yX11_chooseByDraws, cX11_chooseByDraws, 1, none, RX11)
def mX11_draw : Me := (yX11_draw, cX11_draw, 2, some .int, RX11)
def mX11_status : Me := (yX11_status, cX11_status, 2, some .int, RX11)
def mX11_undo : Me := (yX11_undo, cX11_undo, 1, some .int, RX11)
def mX11_log : Me := (yX11_log, cX11_log, 3, some .int, RX11)
def mX11_way : Me := (yX11_way, cX11_way, 3, some .int, RX11)
def mX11_mass : Me := (yX11_mass, cX11_mass, 3, some .int, RX11)
def mX11_masses : Me := (yX11_masses, cX11_masses, 5, some .int, RX11)
def mX11_worth : Me := (yX11_worth, cX11_worth, 2, some .long, RX11)
def mX11_costHere : Me := (yX11_costHere, cX11_costHere, 5, some .int, RX11)
def mX11_margin : Me := (yX11_margin, cX11_margin, 4, some .long, RX11)
def mX11_till : Me := (yX11_till, cX11_till, 3, some .int, RX11)
def mX11_weighedHere : Me := (yX11_weighedHere, cX11_weighedHere, 4, some .int, RX11)
def mX11_tillWithNotice : Me := (yX11_tillWithNotice, cX11_tillWithNotice, 6, some .int, RX11)
def mX11_tillAtOnce : Me := (yX11_tillAtOnce, cX11_tillAtOnce, 4, some .int, RX11)
def mX11_leavesAt : Me := (yX11_leavesAt, cX11_leavesAt, 9, some .boolean, RX11)
def mX11_edge : Me := (yX11_edge, cX11_edge, 4, some .int, RX11)
def mX11_fair : Me := (yX11_fair, cX11_fair, 5, some .int, RX11)
def mX11_ending : Me := (yX11_ending, cX11_ending, 4, some .int, RX11)
def mX11_saved : Me := (yX11_saved, cX11_saved, 2, some .long, RX11)
def mX11_sums : Me := (yX11_sums, cX11_sums, 4, some .int, RX11)
def mX11_deed : Me := (yX11_deed, cX11_deed, 3, some .int, RX11)
def mX11_byPolicy : Me := (yX11_byPolicy, cX11_byPolicy, 3, some .long, RX11)
def mX11_regret : Me := (yX11_regret, cX11_regret, 2, some .long, RX11)
def mX11_strays : Me := (yX11_strays, cX11_strays, 10, some .int, RX11)
def mX11_mended : Me := (yX11_mended, cX11_mended, 4, some .int, RX11)
def mX11_rounds : Me := (yX11_rounds, cX11_rounds, 2, some .int, RX11)
def mX11_mendsTrial : Me := (yX11_mendsTrial, cX11_mendsTrial, 9, some .boolean, RX11)
def mX11_shifted : Me := (yX11_shifted, cX11_shifted, 2, some .long, RX11)
def mX11_spread : Me := (yX11_spread, cX11_spread, 2, some .int, RX11)
def mX11_step : Me := (yX11_step, cX11_step, 4, some .int, RX11)
def mX11_run : Me := (yX11_run, cX11_run, 6, some .int, RX11)
def mX11_tries : Me := (yX11_tries, cX11_tries, 3, some .boolean, RX11)
def mX11_perform : Me := (yX11_perform, cX11_perform, 5, some .int, RX11)
def mX11_most : Me := (yX11_most, cX11_most, 2, some .int, RX11)
def mX11_leftNow : Me := (yX11_leftNow, cX11_leftNow, 1, some .int, RX11)
def mX11_greatestRate : Me := (yX11_greatestRate, cX11_greatestRate, 3, some .int, RX11)
def mX11_image : Me := (yX11_image, cX11_image, 1, some .int, RX11)
def mX11_back : Me := (yX11_back, cX11_back, 1, some .int, RX11)
def mX11_count : Me := (yX11_count, cX11_count, 2, some .int, RX11)
def mX11_noLoan : Me := (yX11_noLoan, cX11_noLoan, 1, some .boolean, RX11)
def mX11_closed : Me := (yX11_closed, cX11_closed, 1, some .boolean, RX11)
def mX11_isNode : Me := (yX11_isNode, cX11_isNode, 3, some .boolean, RX11)
def mX11_here : Me := (yX11_here, cX11_here, 1, some .int, RX11)
def mX12_init : Me := (yX12_init, cX12_init, 1, none, RX12)
def mX12_thrown : Me := (yX12_thrown, cX12_thrown, 1, some .int, RX12)
def mX12_isIn : Me := (yX12_isIn, cX12_isIn, 6, some .boolean, RX12)
def mX12_bytesOf : Me := (yX12_bytesOf, cX12_bytesOf, 3, some .int, RX12)
def mX12_brings : Me := (yX12_brings, cX12_brings, 4, none, RX12)
def mX12_feed : Me := (yX12_feed, cX12_feed, 6, some .int, RX12)
def mX12_end : Me := (yX12_end, cX12_end, 2, some .boolean, RX12)
def mX12_here : Me := (yX12_here, cX12_here, 1, some .int, RX12)
def mX12_look : Me := (yX12_look, cX12_look, 1, some .int, RX12)
def mX12_fails : Me := (yX12_fails, cX12_fails, 1, none, RX12)
def mX12_isDigit : Me := (yX12_isDigit, cX12_isDigit, 1, some .boolean, RX12)
def mX12_digit : Me := (yX12_digit, cX12_digit, 2, some .int, RX12)
def mX12_number : Me := (yX12_number, cX12_number, 3, some .int, RX12)
def mX12_spotOf : Me := (yX12_spotOf, cX12_spotOf, 3, some .int, RX12)
def mX12_usual : Me := (yX12_usual, cX12_usual, 1, some .int, RX12)
def mX12_mostOf : Me := (yX12_mostOf, cX12_mostOf, 1, some .int, RX12)
def mX12_laysBounds : Me := (yX12_laysBounds, cX12_laysBounds, 3, none, RX12)
def mX12_items : Me := (yX12_items, cX12_items, 7, none, RX12)
def mX12_clause : Me := (yX12_clause, cX12_clause, 5, some .boolean, RX12)
def mX12_readLoan : Me := (yX12_readLoan, cX12_readLoan, 2, none, RX12)
def mX12_deedClause : Me := (yX12_deedClause, cX12_deedClause, 2, none, RX12)
def mX12_readPolicy : Me := (yX12_readPolicy, cX12_readPolicy, 1, none, RX12)
def mX12_numbersOf : Me := (yX12_numbersOf, cX12_numbersOf, 1, some .int, RX12)
def mX12_readStep : Me := (yX12_readStep, cX12_readStep, 5, none, RX12)
def mX12_readScript : Me := (yX12_readScript, cX12_readScript, 3, none, RX12)
def mX12_fault : Me := (yX12_fault, cX12_fault, 2, some .int, RX12)
def mX12_begins : Me := (yX12_begins, cX12_begins, 2, none, RX12)
def mX12_tellsPolicy : Me := (yX12_tellsPolicy, cX12_tellsPolicy, 3, some .int, RX12)
def mX12_text : Me := (yX12_text, cX12_text, 4, some .int, RX12)
def mX12_copyRow : Me := (yX12_copyRow, cX12_copyRow, 5, none, RX12)
def mX12_node : Me := (yX12_node, cX12_node, 2, some .int, RX12)
def mX12_isNode : Me := (yX12_isNode, cX12_isNode, 3, some .boolean, RX12)
def mX12_bound : Me := (yX12_bound, cX12_bound, 1, some .int, RX12)
def mX12_rateOf : Me := (yX12_rateOf, cX12_rateOf, 6, some .int, RX12)
def mX12_newCoupon : Me := (yX12_newCoupon, cX12_newCoupon, 5, some .int, RX12)
def mX12_canCome : Me := (yX12_canCome, cX12_canCome, 3, some .boolean, RX12)
def mX12_laysYears : Me := (yX12_laysYears, cX12_laysYears, 4, none, RX12)
def mX12_interest : Me := (yX12_interest, cX12_interest, 3, some .int, RX12)
def mX12_due : Me := (yX12_due, cX12_due, 3, some .int, RX12)
def mX12_cell : Me := (yX12_cell, cX12_cell, 4, some .int, RX12)
def mX12_next : Me := (yX12_next, cX12_next, 8, some .long, RX12)
def mX12_behind : Me := (yX12_behind, cX12_behind, 6, some .long, RX12)
def mX12_held : Me := (yX12_held, cX12_held, 9, some .long, RX12)
def mX12_paid : Me := (yX12_paid, cX12_paid, 10, some .long, RX12)
def mX12_mayEnd : Me := (yX12_mayEnd, cX12_mayEnd, 2, some .boolean, RX12)
def mX12_may : Me := (yX12_may, cX12_may, 4, some .boolean, RX12)
def mX12_costBy : Me := (yX12_costBy, cX12_costBy, 9, some .long, RX12)
def mX12_bestDeed : Me := (yX12_bestDeed, cX12_bestDeed, 14, some .int, RX12)
def mX12_policyDeed : Me := (yX12_policyDeed, cX12_policyDeed, 6, some .int, RX12)
def mX12_laysBy : Me := (yX12_laysBy, cX12_laysBy, 11, none, RX12)
def mX12_lays : Me := (yX12_lays, cX12_lays, 9, none, RX12)
def mX12_laysNow : Me := (yX12_laysNow, cX12_laysNow, 1, none, RX12)
def mX12_laysPolicy : Me := (yX12_laysPolicy, cX12_laysPolicy, 2, none, RX12)
def mX12_isOver : Me := (yX12_isOver, cX12_isOver, 2, some .boolean, RX12)
def mX12_stops : Me := (yX12_stops, cX12_stops, 6, some .int, RX12)
def mX12_pays : Me := (yX12_pays, cX12_pays, 3, none, RX12)
def mX12_runsOut : Me := (yX12_runsOut, cX12_runsOut, 4, none, RX12)
def mX12_givesNotice : Me := (yX12_givesNotice, cX12_givesNotice, 3, none, RX12)
def mX12_passes : Me := (yX12_passes, cX12_passes, 3, none, RX12)
def mX12_bestHere : Me := (yX12_bestHere, cX12_bestHere, 2, some .int, RX12)
def mX12_doesBest : Me := (yX12_doesBest, cX12_doesBest, 3, some .int, RX12)
def mX12_adopts : Me := (yX12_adopts, cX12_adopts, 6, some .int, RX12)
def mX12_does : Me := (yX12_does, cX12_does, 7, some .int, RX12)
def mX12_remember : Me := (yX12_remember, cX12_remember, 1, none, RX12)
def mX12_notes : Me := (yX12_notes, cX12_notes, 3, none, RX12)
def mX12_tries : Me := (yX12_tries, cX12_tries, 6, some .int, RX12)
def mX12_act : Me := (yX12_act, cX12_act, 6, some .int, RX12)
def mX12_up : Me := (yX12_up, cX12_up, 1, some .int, RX12)
def mX12_down : Me := (yX12_down, cX12_down, 1, some .int, RX12)
def mX12_call : Me := (yX12_call, cX12_call, 1, some .int, RX12)
def mX12_refund : Me := (yX12_refund, cX12_refund, 1, some .int, RX12)
def mX12_withdraw : Me := (yX12_withdraw, cX12_withdraw, 1, some .int, RX12)
def mX12_instal : Me := (yX12_instal, cX12_instal, 3, some .int, RX12)
def mX12_tell : Me := (yX12_tell, cX12_tell, 4, some .int, RX12)
def mX12_doBest : Me := (yX12_doBest, cX12_doBest, 1, some .int, RX12)
def mX12_adopt : Me := (yX12_adopt, cX12_adopt, 1, some .int, RX12)
def mX12_follow : Me := (yX12_follow, cX12_follow, 1, some .int, RX12)
def mX12_draw : Me := (yX12_draw, cX12_draw, 2, some .int, RX12)
def mX12_happens : Me := (yX12_happens, cX12_happens, 4, some .int, RX12)
def mX12_years : Me := (yX12_years, cX12_years, 6, some .int, RX12)
def mX12_status : Me := (yX12_status, cX12_status, 2, some .int, RX12)
def mX12_undo : Me := (yX12_undo, cX12_undo, 1, some .int, RX12)
def mX12_log : Me := (yX12_log, cX12_log, 3, some .int, RX12)
def mX12_image : Me := (yX12_image, cX12_image, 1, some .int, RX12)
def mX12_back : Me := (yX12_back, cX12_back, 1, some .int, RX12)
def mX12_rule : Me := (yX12_rule, cX12_rule, 2, some .int, RX12)
def mX12_rate : Me := (yX12_rate, cX12_rate, 3, some .int, RX12)
def mX12_year : Me := (yX12_year, cX12_year, 3, some .int, RX12)
def mX12_costs : Me := (yX12_costs, cX12_costs, 4, some .long, RX12)
def mX12_best : Me := (yX12_best, cX12_best, 3, some .int, RX12)
def mX12_walkActs : Me := (yX12_walkActs, cX12_walkActs, 3, none, RX12)
def mX12_walkGives : Me := (yX12_walkGives, cX12_walkGives, 2, none, RX12)
def mX12_walks : Me := (yX12_walks, cX12_walks, 4, none, RX12)
def mX12_way : Me := (yX12_way, cX12_way, 3, some .int, RX12)
def mX12_unlike : Me := (yX12_unlike, cX12_unlike, 7, some .int, RX12)
def mX12_spread : Me := (yX12_spread, cX12_spread, 8, some .int, RX12)
def mX12_isCalled : Me := (yX12_isCalled, cX12_isCalled, 1, some .boolean, RX12)
def mX12_laysMasses : Me := (yX12_laysMasses, cX12_laysMasses, 3, none, RX12)
def mX12_goesOn : Me := (yX12_goesOn, cX12_goesOn, 6, none, RX12)
def mX12_mass : Me := (yX12_mass, cX12_mass, 3, some .int, RX12)
def mX12_masses : Me := (yX12_masses, cX12_masses, 2, some .int, RX12)
def mX12_ending : Me := (yX12_ending, cX12_ending, 5, some .int, RX12)
def mX12_here_ : Me := (yX12_here_, cX12_here_, 2, some .long, RX12)
def mX12_worth : Me := (yX12_worth, cX12_worth, 2, some .long, RX12)
def mX12_margin : Me := (yX12_margin, cX12_margin, 5, some .long, RX12)
def mX12_till : Me := (yX12_till, cX12_till, 5, some .int, RX12)
def mX12_edge : Me := (yX12_edge, cX12_edge, 3, some .int, RX12)
def mX12_saved : Me := (yX12_saved, cX12_saved, 1, some .long, RX12)
def mX12_fair : Me := (yX12_fair, cX12_fair, 2, some .int, RX12)
def mX12_sums : Me := (yX12_sums, cX12_sums, 4, some .int, RX12)
def mX12_shifted : Me := (yX12_shifted, cX12_shifted, 2, some .long, RX12)
def mX12_deed : Me := (yX12_deed, cX12_deed, 3, some .int, RX12)
def mX12_byPolicy : Me := (yX12_byPolicy, cX12_byPolicy, 3, some .long, RX12)
def mX12_regret : Me := (yX12_regret, cX12_regret, 1, some .long, RX12)
def mX12_strays : Me := (yX12_strays, cX12_strays, 6, some .int, RX12)
def mX12_mended : Me := (yX12_mended, cX12_mended, 3, some .int, RX12)
def mX12_mendsAll : Me := (yX12_mendsAll, cX12_mendsAll, 4, some .int, RX12)
def mX12_rounds : Me := (yX12_rounds, cX12_rounds, 2, some .int, RX12)
def mX12_isScript : Me := (yX12_isScript, cX12_isScript, 2, some .boolean, RX12)
def mX12_step : Me := (yX12_step, cX12_step, 4, some .int, RX12)
def mX12_run : Me := (yX12_run, cX12_run, 6, some .int, RX12)
def mX12_perform : Me := (yX12_perform, cX12_perform, 5, some .int, RX12)
def mX12_highest : Me := (yX12_highest, cX12_highest, 4, some .int, RX12)
def mX12_leftNow : Me := (yX12_leftNow, cX12_leftNow, 1, some .int, RX12)
def mX12_most : Me := (yX12_most, cX12_most, 2, some .int, RX12)
def mX12_count : Me := (yX12_count, cX12_count, 2, some .int, RX12)
def mJ9_max_7cf53 : Me := (yJ9_max_7cf53, cJ9_max_7cf53, 2, some .int, RJ9)
def mJ9_min_7cf53 : Me := (yJ9_min_7cf53, cJ9_min_7cf53, 2, some .int, RJ9)
def mJ0_length_8abf5 : Me := (yJ0_length_8abf5, cJ0_length_8abf5, 1, some .int, RJ0)
def mJ0_charAt_5068e : Me := (yJ0_charAt_5068e, cJ0_charAt_5068e, 2, some .char, RJ0)
def mJ0_coder_7d493 : Me := (yJ0_coder_7d493, cJ0_coder_7d493, 1, some .byte, RJ0)
def mJ0_isLatin1_aae02 : Me := (yJ0_isLatin1_aae02, cJ0_isLatin1_aae02, 1, some .boolean, RJ0)
def mJ0_checkIndex_df160 : Me := (yJ0_checkIndex_df160, cJ0_checkIndex_df160, 2, none, RJ0)
def mJ1_charAt_3b067 : Me := (yJ1_charAt_3b067, cJ1_charAt_3b067, 2, some .char, RJ1)
def mJ2_getChar_3b067 : Me := (yJ2_getChar_3b067, cJ2_getChar_3b067, 2, some .char, RJ2)
def mJ2_length_9d52b : Me := (yJ2_length_9d52b, cJ2_length_9d52b, 1, some .int, RJ2)
def mJ2_charAt_3b067 : Me := (yJ2_charAt_3b067, cJ2_charAt_3b067, 2, some .char, RJ2)
def mJ2_checkIndex_2214a : Me := (yJ2_checkIndex_2214a, cJ2_checkIndex_2214a, 2, none, RJ2)
def mJ7_rangeCheck_23922 : Me := (yJ7_rangeCheck_23922, cJ7_rangeCheck_23922, 3, none, RJ7)
def mJ7_fill_d0a16 : Me := (yJ7_fill_d0a16, cJ7_fill_d0a16, 5, none, RJ7)
def mJ7_fill_53178 : Me := (yJ7_fill_53178, cJ7_fill_53178, 4, none, RJ7)
def mJ7_fill_fda19 : Me := (yJ7_fill_fda19, cJ7_fill_fda19, 5, none, RJ7)
def mJ3_checkIndex_8e157 : Me := (yJ3_checkIndex_8e157, cJ3_checkIndex_8e157, 3, some .int, RJ3)
end
section
-- the world: its cells by abstract addresses
/-- what lies at an abstract address: (0 bytes, 1 ints, 2 longs, 3 Tables, 4 rows of ints; 10 + c: an object of class c), how many places, what refs -/
def sh (a : Nat) : Nat × Nat × List Nat := (if a < 61 then (if a < 30 then (if a < 15 then (if a < 7 then (if a < 3 then (if a < 1 then (19, 14, [3, 4, 5, 6, 7, 8, 10, 14, 17, 65, 66, 71, 98, 1]) else (if a < 2 then (1, 14, []) else (1, 115, []))) else (if a < 5 then (if a < 4 then (1, 115, []) else (1, 4, [])) else (if a < 6 then (1, 4, []) else (17, 2, [9, 0])))) else (if a < 11 then (if a < 9 then (if a < 8 then (0, 320, []) else (13, 7, [11, 12, 0, 13, 8, 0, 0])) else (if a < 10 then (1, 14, []) else (1, 112, []))) else (if a < 13 then (if a < 12 then (1, 4, []) else (14, 3, [15, 16, 0])) else (if a < 14 then (1, 256, []) else (1, 4, []))))) else (if a < 22 then (if a < 18 then (if a < 16 then (16, 12, [18, 19, 20, 21, 33, 45, 3, 57, 58, 61, 64, 0]) else (if a < 17 then (1, 13, []) else (1, 13, []))) else (if a < 20 then (if a < 19 then (1, 13, []) else (15, 8, [22, 23, 24, 25, 29, 0, 0, 0])) else (if a < 21 then (1, 91, []) else (1, 91, [])))) else (if a < 26 then (if a < 24 then (if a < 23 then (1, 91, []) else (4, 3, [24, 25, 26])) else (if a < 25 then (1, 91, []) else (1, 91, []))) else (if a < 28 then (if a < 27 then (1, 91, []) else (4, 3, [28, 29, 30])) else (if a < 29 then (1, 91, []) else (1, 91, [])))))) else (if a < 45 then (if a < 37 then (if a < 33 then (if a < 31 then (1, 91, []) else (if a < 32 then (15, 8, [34, 35, 36, 37, 41, 0, 0, 0]) else (1, 91, []))) else (if a < 35 then (if a < 34 then (1, 91, []) else (1, 91, [])) else (if a < 36 then (4, 3, [36, 37, 38]) else (1, 91, [])))) else (if a < 41 then (if a < 39 then (if a < 38 then (1, 91, []) else (1, 91, [])) else (if a < 40 then (4, 3, [40, 41, 42]) else (1, 91, []))) else (if a < 43 then (if a < 42 then (1, 91, []) else (1, 91, [])) else (if a < 44 then (15, 8, [46, 47, 48, 49, 53, 0, 0, 0]) else (1, 91, []))))) else (if a < 53 then (if a < 49 then (if a < 47 then (if a < 46 then (1, 91, []) else (1, 91, [])) else (if a < 48 then (4, 3, [48, 49, 50]) else (1, 91, []))) else (if a < 51 then (if a < 50 then (1, 91, []) else (1, 91, [])) else (if a < 52 then (4, 3, [52, 53, 54]) else (1, 91, [])))) else (if a < 57 then (if a < 55 then (if a < 54 then (1, 91, []) else (1, 91, [])) else (if a < 56 then (1, 115, []) else (4, 2, [57, 58]))) else (if a < 59 then (if a < 58 then (1, 78, []) else (1, 78, [])) else (if a < 60 then (4, 2, [60, 61]) else (1, 78, []))))))) else (if a < 92 then (if a < 76 then (if a < 68 then (if a < 64 then (if a < 62 then (1, 78, []) else (if a < 63 then (1, 2, []) else (12, 4, [3, 4, 17, 0]))) else (if a < 66 then (if a < 65 then (11, 9, [0, 67, 68, 69, 70, 0, 0, 0, 0]) else (1, 4715, [])) else (if a < 67 then (1, 300, []) else (1, 115, [])))) else (if a < 72 then (if a < 70 then (if a < 69 then (1, 300, []) else (18, 15, [0, 0, 0, 0, 0, 0, 0, 0, 3, 17, 72, 73, 0, 0, 0])) else (if a < 71 then (3, 3, [31, 72, 84]) else (2, 2560, []))) else (if a < 74 then (if a < 73 then (15, 8, [75, 76, 77, 78, 82, 0, 0, 0]) else (1, 91, [])) else (if a < 75 then (1, 91, []) else (1, 91, []))))) else (if a < 84 then (if a < 80 then (if a < 78 then (if a < 77 then (4, 3, [77, 78, 79]) else (1, 91, [])) else (if a < 79 then (1, 91, []) else (1, 91, []))) else (if a < 82 then (if a < 81 then (4, 3, [81, 82, 83]) else (1, 91, [])) else (if a < 83 then (1, 91, []) else (1, 91, [])))) else (if a < 88 then (if a < 86 then (if a < 85 then (15, 8, [87, 88, 89, 90, 94, 0, 0, 0]) else (1, 91, [])) else (if a < 87 then (1, 91, []) else (1, 91, []))) else (if a < 90 then (if a < 89 then (4, 3, [89, 90, 91]) else (1, 91, [])) else (if a < 91 then (1, 91, []) else (1, 91, [])))))) else (if a < 107 then (if a < 99 then (if a < 95 then (if a < 93 then (4, 3, [93, 94, 95]) else (if a < 94 then (1, 91, []) else (1, 91, []))) else (if a < 97 then (if a < 96 then (1, 91, []) else (10, 2, [99, 3])) else (if a < 98 then (1, 91, []) else (20, 45, [0, 101, 0, 0, 0, 102, 103, 104, 105, 106, 107, 108, 109, 0, 0, 0, 0, 0, 0, 0, 110, 111, 112, 113, 0, 0, 0, 0, 114, 115, 116, 117, 118, 0, 0, 119, 1, 120, 0, 121, 122, 0, 0, 0, 123])))) else (if a < 103 then (if a < 101 then (if a < 100 then (0, 320, []) else (1, 14, [])) else (if a < 102 then (1, 14, []) else (1, 24, []))) else (if a < 105 then (if a < 104 then (1, 48, []) else (1, 72, [])) else (if a < 106 then (1, 4, []) else (1, 320, []))))) else (if a < 115 then (if a < 111 then (if a < 109 then (if a < 108 then (1, 5, []) else (1, 494, [])) else (if a < 110 then (1, 494, []) else (1, 494, []))) else (if a < 113 then (if a < 112 then (1, 19760, []) else (1, 13, [])) else (if a < 114 then (1, 13, []) else (1, 13, [])))) else (if a < 119 then (if a < 117 then (if a < 116 then (2, 62640, []) else (2, 62640, [])) else (if a < 118 then (2, 62640, []) else (1, 494, []))) else (if a < 121 then (if a < 120 then (1, 4096, []) else (1, 144, [])) else (if a < 122 then (1, 144, []) else (2, 1, []))))))))
def NN : Nat := 123
/-- memory: what each int place and each long place of each abstract address holds -/
abbrev Mm : Type := (Nat → Nat → Int32) × (Nat → Nat → Int64)
abbrev Po : Type := Option Value → Mm → Prop
abbrev Lv : Type := List (Nat × Value)
abbrev Ko : Type := Option Nat → Lv → List Value → Mm → Prop
/-- the launch's classes, where each abstract address lies, the arrays' classes, the first new cell, what else stays so -/
abbrev GT : Type := va_G × (Nat → Nat) × (Nat → ClassId) × Nat × (State → Prop)
abbrev Tr : Type := Launch → GT → Nat → Ko → Po → Lv → List Value → Mm → Prop
abbrev In : Type := Nat × Nat × Tr
def gW : List Cond := lw_tbl.filter goodWord
def wsM (M : Me) : List Cond := .code M.1 M.2.1 M.2.2.1 M.2.2.2.1 :: gW
def rmD (d : Nat) : Room := { frames := d, cells := 0, slots := 0, locals := 96 * d }
def uI (σ : Mm) (a k : Nat) (v : Int32) : Mm := (fun b => if b = a then upd (σ.1 a) k v else σ.1 b, σ.2)
def uJ (σ : Mm) (a k : Nat) (v : Int64) : Mm := (σ.1, fun b => if b = a then vp_updL (σ.2 a) k v else σ.2 b)
def uR (σ : Mm) (a : Nat) (r : Nat → Int32) : Mm := (fun b => if b = a then r else σ.1 b, σ.2)
def uL (σ : Mm) (a : Nat) (r : Nat → Int64) : Mm := (σ.1, fun b => if b = a then r else σ.2 b)
def fv (G : GT) (σ : Mm) (a j : Nat) : Value := if (sh a).2.2.getD j 0 = 0 then .int (σ.1 a j) else if (sh a).2.2.getD j 0 = 1 then .long (σ.2 a j) else .ref (G.2.1 ((sh a).2.2.getD j 0 - 2))
def cel (G : GT) (σ : Mm) (a : Nat) : va_E :=
  if (sh a).1 < 2 then .inl (G.2.2.1 (sh a).1, (sh a).2.1, .inl (σ.1 a))
  else if (sh a).1 = 2 then .inl (G.2.2.1 2, (sh a).2.1, .inr (.inl (σ.2 a)))
  else if (sh a).1 < 10 then .inl (G.2.2.1 (sh a).1, (sh a).2.1, .inr (.inr (.inr (.inr (fun i => some (G.2.1 ((sh a).2.2.getD i 0)))))))
  else .inr ((sh a).1 - 10, (List.range (sh a).2.1).map (fv G σ a))
def wo (G : GT) (σ : Mm) : va_W := (List.range NN).map (fun a => (G.2.1 a, cel G σ a))
def tyL (G : GT) : List (ClassId × FieldType) := [(G.2.2.1 0, .byte), (G.2.2.1 1, .int), (G.2.2.1 2, .long), (G.2.2.1 3, .object "RefundDesk$Table"), (G.2.2.1 4, .array .int)]
def aX (G : GT) : Nat → Prop := fun q => G.2.2.2.1 ≤ q
def tv (G : GT) : Value → Value | .ref a => .ref (G.2.1 a) | v => v
def tl (G : GT) (q : Nat × Value) : Nat × Value := (q.1, tv G q.2)
theorem tv_cat (G : GT) (v : Value) : (tv G v).category = v.category := by cases v <;> rfl
/-- what holds of a state as a method is entered, and stays so -/
def Kx (G : GT) (U : State) : Prop := va_K G.1 vwCl (tyL G) U ∧ G.2.2.2.2 U ∧ G.2.2.2.1 ≤ U.heap.size ∧ (∀ a b, a < NN → b < NN → G.2.1 a = G.2.1 b → a = b) ∧ (∀ a, a < NN → G.2.2.2.1 ≤ G.2.1 a) ∧
  (∀ U U' : State, U.WarmedH U'.vm → U.heap.size ≤ U'.heap.size → (∀ q : Nat, q < U.heap.size → ¬ aX G q → U'.heap[q]? = U.heap[q]?) → G.2.2.2.2 U → G.2.2.2.2 U')
theorem Kx.moved {G : GT} {U U' : State} (h : Kx G U) (hv : U.WarmedH U'.vm) (hs : U.heap.size ≤ U'.heap.size) (hq : ∀ q : Nat, q < U.heap.size → ¬ aX G q → U'.heap[q]? = U.heap[q]?) : Kx G U' :=
  ⟨va_K.moved hv.alike h.1, h.2.2.2.2.2 U U' hv hs hq h.2.1, Nat.le_trans h.2.2.1 hs, h.2.2.2.1, h.2.2.2.2.1, h.2.2.2.2.2⟩
def Pcx (G : GT) (av : List Value) (σ : Mm) : Array Value → State → Prop := va_Pc (av.map (tv G)) (fun U => va_P G.1 vwCl (wo G σ) U.heap ∧ Kx G U)
def Qcx (G : GT) (Q : Po) : Array Value → State → Outcome → State → Prop := fun _ st oc t => (∃ (r : Option Value) (σ : Mm), oc = .returned (r.map (tv G)) ∧ Q r σ ∧ va_P G.1 vwCl (wo G σ) t.heap) ∧ va_F (aX G) st t
/-- method M, called with these arguments in this memory, returns, and Q of its answer and the memory then -/
def MW (l : Launch) (G : GT) (d : Nat) (M : Me) (av : List Value) (σ : Mm) (Q : Po) : Prop := Met l M.1 (wsM M) (rmD d) (Pcx G av σ) (Qcx G Q) 0 0 (aX G)
def Cw (G : GT) (M : Me) (p : Program) (s : State) (m : MethodId) (args : Array Value) (meth : Method) (c : Code) : Prop :=
  p.tables.exec = Jvm.exec ∧ c.code = M.2.1 ∧ meth.sig.returnType = M.2.2.2.1 ∧ c.maxLocals = M.2.2.1 ∧ s.vm.findClass M.2.2.2.2 = some m.cls ∧ (∀ w ∈ gW, w.before args s = true) ∧ meth.locks = false ∧ Kx G s
/-- from this place of M's body, with these locals, stack and memory, M returns, and Q -/
def Wp (l : Launch) (G : GT) (d : Nat) (M : Me) (pc : Nat) (lv : Lv) (st : List Value) (σ : Mm) (Q : Po) : Prop :=
  ∀ (p : Program) (e : Env) (s : State) (m : MethodId) (args : Array Value) (below : List Frame) (meth : Method) (c : Code) (H : Heap) (locs : List Loc) (ls : Array Slot), Cw G M p s m args meth c → va_P G.1 vwCl (wo G σ) H → va_S (aX G) s.heap H locs → lv_has ls M.2.2.1 (lv.map (tl G)) →
    W p l e (rmD d) s m args below meth c H locs 0 0 (MQ below (Qcx G Q) args s 0 0 (aX G)) (F0 m pc ls (st.map (tv G)))
/-- an instruction's transformer is sound -/
def Ent (M : Me) (i : In) : Prop := ∀ (l : Launch) (G : GT) (d : Nat) (K : Ko) (Q : Po) (lv : Lv) (st : List Value) (σ : Mm), (∀ lv st σ, K none lv st σ → Wp l G d M i.2.1 lv st σ Q) → (∀ t lv st σ, K (some t) lv st σ → Wp l G d M t lv st σ Q) → i.2.2 l G d K Q lv st σ → Wp l G d M i.1 lv st σ Q
-- locals
def lk : Lv → Nat → Option Value
  | [], _ => none
  | q :: l, i => if q.1 = i then some q.2 else lk l i
theorem lk_mem {lv : Lv} {i : Nat} {v : Value} (h : lk lv i = some v) : (i, v) ∈ lv := by
  induction lv with
  | nil => cases h
  | cons q l ih =>
    unfold lk at h
    split at h
    · next e => cases h; subst e; exact List.mem_cons_self
    · exact List.mem_cons_of_mem _ (ih h)
theorem lk_at {G : GT} {ls : Array Slot} {n : Nat} {lv : Lv} {i : Nat} {v : Value} (hl : lv_has ls n (lv.map (tl G))) (h : lk lv i = some v) : ls[i]? = some (.val (tv G v)) := hl.2.2 (i, tv G v) (List.mem_map.mpr ⟨(i, v), lk_mem h, rfl⟩)
def ins (i : Nat) (v : Value) : Lv → Lv
  | [] => [(i, v)]
  | q :: l => if i < q.1 then (i, v) :: q :: l else q :: ins i v l
theorem ins_mem {i : Nat} {v : Value} {l : Lv} {q : Nat × Value} (h : q ∈ ins i v l) : q = (i, v) ∨ q ∈ l := by
  induction l with
  | nil => exact Or.inl (List.mem_singleton.mp h)
  | cons x l ih =>
    unfold ins at h
    split at h
    · rcases List.mem_cons.mp h with h | h
      · exact Or.inl h
      · exact Or.inr h
    · rcases List.mem_cons.mp h with h | h
      · exact Or.inr (by rw [h]; exact List.mem_cons_self)
      · rcases ih h with h | h
        · exact Or.inl h
        · exact Or.inr (List.mem_cons_of_mem _ h)
def sto (lv : Lv) (i : Nat) (v : Value) : Lv := ins i v (lv.filter (fun q => !(q.1 == i) && !(q.1 + 1 == i && q.2.category == 2)))
def sto2 (lv : Lv) (i : Nat) (v : Value) : Lv := ins i v (lv.filter (fun q => !(q.1 == i) && (!(q.1 == i + 1) && !(q.1 + 1 == i && q.2.category == 2))))
theorem lv_mono {ls : Array Slot} {n : Nat} {l l' : List (Nat × Value)} (h : lv_has ls n l) (hm : ∀ q ∈ l', q ∈ l) : lv_has ls n l' := ⟨h.1, h.2.1, fun q hq => h.2.2 q (hm q hq)⟩
theorem sto_ok {G : GT} {lv : Lv} {i : Nat} {v : Value} : ∀ q ∈ (sto lv i v).map (tl G), q ∈ (i, tv G v) :: (lv.map (tl G)).filter (fun q => !(q.1 == i) && !(q.1 + 1 == i && q.2.category == 2)) := by
  intro q hq
  obtain ⟨x, hx, rfl⟩ := List.mem_map.mp hq
  rcases ins_mem hx with rfl | h
  · exact List.mem_cons_self
  · obtain ⟨h1, h2⟩ := List.mem_filter.mp h
    refine List.mem_cons_of_mem _ (List.mem_filter.mpr ⟨List.mem_map.mpr ⟨x, h1, rfl⟩, ?_⟩)
    simpa [tl, tv_cat] using h2
theorem sto2_ok {G : GT} {lv : Lv} {i : Nat} {v : Value} : ∀ q ∈ (sto2 lv i v).map (tl G), q ∈ (i, tv G v) :: (lv.map (tl G)).filter (fun q => !(q.1 == i) && (!(q.1 == i + 1) && !(q.1 + 1 == i && q.2.category == 2))) := by
  intro q hq
  obtain ⟨x, hx, rfl⟩ := List.mem_map.mp hq
  rcases ins_mem hx with rfl | h
  · exact List.mem_cons_self
  · obtain ⟨h1, h2⟩ := List.mem_filter.mp h
    refine List.mem_cons_of_mem _ (List.mem_filter.mpr ⟨List.mem_map.mpr ⟨x, h1, rfl⟩, ?_⟩)
    simpa [tl, tv_cat] using h2
theorem Wp.sub {l : Launch} {G : GT} {d : Nat} {M : Me} {pc : Nat} {lv lv' : Lv} {st : List Value} {σ : Mm} {Q : Po} (hm : ∀ q ∈ lv', q ∈ lv) (h : Wp l G d M pc lv' st σ Q) : Wp l G d M pc lv st σ Q :=
  fun p e s m args below meth c H locs ls C hP hS hl => h p e s m args below meth c H locs ls C hP hS (lv_mono hl (fun q hq => by
    obtain ⟨x, hx, rfl⟩ := List.mem_map.mp hq
    exact List.mem_map.mpr ⟨x, hm x hx, rfl⟩))
-- the world's places
theorem wo_at (G : GT) (σ : Mm) {a : Nat} (h : a < NN) : (wo G σ)[a]? = some (G.2.1 a, cel G σ a) := by
  unfold wo
  rw [List.getElem?_map, List.getElem?_range h]; rfl
theorem wo_D {G : GT} {U : State} (h : Kx G U) (σ : Mm) : va_D (aX G) (wo G σ) := by
  have key : ∀ (i : Nat) (x : Nat × va_E), (wo G σ)[i]? = some x → i < NN ∧ x.1 = G.2.1 i := by
    intro i x hx
    have hi : i < NN := by
      have := (List.getElem?_eq_some_iff.mp hx).1
      simpa [wo] using this
    rw [wo_at G σ hi] at hx
    cases hx
    exact ⟨hi, rfl⟩
  refine ⟨fun i j x y hi hj e => ?_, fun k q hk => ?_⟩
  · obtain ⟨a1, a2⟩ := key i x hi
    obtain ⟨b1, b2⟩ := key j y hj
    exact h.2.2.2.1 i j a1 b1 (by rw [← a2, ← b2]; exact e)
  · obtain ⟨a1, a2⟩ := key k q hk
    show G.2.2.2.1 ≤ q.1
    rw [a2]
    exact h.2.2.2.2.1 k a1
theorem mr_set {α : Type} {f g : Nat → α} {n k : Nat} {x : α} (h1 : g k = x) (h2 : ∀ j, j ≠ k → g j = f j) : ((List.range n).map f).set k x = (List.range n).map g := by
  apply List.ext_getElem?
  intro j
  by_cases hj : j < n
  · by_cases e : k = j
    · subst e
      rw [List.getElem?_set_self (by simpa using hj), List.getElem?_map, List.getElem?_range hj, ← h1]; rfl
    · rw [List.getElem?_set_ne e, List.getElem?_map, List.getElem?_map, List.getElem?_range hj]
      simp [h2 j (fun q => e q.symm)]
  · have h3 : ((List.range n).map g)[j]? = none := by simp; omega
    rw [h3]
    have h4 : (((List.range n).map f).set k x).length ≤ j := by simp; omega
    exact List.getElem?_eq_none h4
theorem cel_ne {G : GT} {σ σ' : Mm} {b : Nat} (h1 : σ'.1 b = σ.1 b) (h2 : σ'.2 b = σ.2 b) : cel G σ' b = cel G σ b := by
  unfold cel fv
  rw [h1, h2]
theorem wo_set {G : GT} {σ σ' : Mm} {a : Nat} {x : va_E} (h1 : cel G σ' a = x) (h2 : ∀ b, b ≠ a → σ'.1 b = σ.1 b) (h3 : ∀ b, b ≠ a → σ'.2 b = σ.2 b) : (wo G σ).set a (G.2.1 a, x) = wo G σ' := by
  unfold wo
  refine mr_set (by rw [h1]) (fun j hj => ?_)
  rw [cel_ne (h2 j hj) (h3 j hj)]
def lenB (a : Nat) : Nat := if (sh a).1 = 0 ∧ a < NN then (sh a).2.1 else 0
def lenI (a : Nat) : Nat := if (sh a).1 = 1 ∧ a < NN then (sh a).2.1 else 0
def lenJ (a : Nat) : Nat := if (sh a).1 = 2 ∧ a < NN then (sh a).2.1 else 0
def lenQ (a : Nat) : Nat := if ((sh a).1 = 3 ∨ (sh a).1 = 4) ∧ a < NN then (sh a).2.1 else 0
def refA (a k : Nat) : Nat := (sh a).2.2.getD k 0
theorem in_pos {i : Int32} {n : Nat} (h : vp_in i n) : 0 < n := Nat.pos_of_ne_zero (fun e => h (Or.inr (by rw [e]; exact Nat.zero_le _)))
theorem lenI_in {a : Nat} {i : Int32} (h : vp_in i (lenI a)) : (sh a).1 = 1 ∧ a < NN ∧ lenI a = (sh a).2.1 := by
  have := in_pos h
  unfold lenI at this ⊢
  split at this
  · next e => exact ⟨e.1, e.2, if_pos e⟩
  · exact absurd this (Nat.lt_irrefl _)
theorem lenB_in {a : Nat} {i : Int32} (h : vp_in i (lenB a)) : (sh a).1 = 0 ∧ a < NN ∧ lenB a = (sh a).2.1 := by
  have := in_pos h
  unfold lenB at this ⊢
  split at this
  · next e => exact ⟨e.1, e.2, if_pos e⟩
  · exact absurd this (Nat.lt_irrefl _)
theorem lenJ_in {a : Nat} {i : Int32} (h : vp_in i (lenJ a)) : (sh a).1 = 2 ∧ a < NN ∧ lenJ a = (sh a).2.1 := by
  have := in_pos h
  unfold lenJ at this ⊢
  split at this
  · next e => exact ⟨e.1, e.2, if_pos e⟩
  · exact absurd this (Nat.lt_irrefl _)
theorem lenQ_in {a : Nat} {i : Int32} (h : vp_in i (lenQ a)) : ((sh a).1 = 3 ∨ (sh a).1 = 4) ∧ a < NN ∧ lenQ a = (sh a).2.1 := by
  have := in_pos h
  unfold lenQ at this ⊢
  split at this
  · next e => exact ⟨e.1, e.2, if_pos e⟩
  · exact absurd this (Nat.lt_irrefl _)
theorem cel_I {G : GT} {σ : Mm} {a : Nat} (h : (sh a).1 = 1) : cel G σ a = .inl (G.2.2.1 1, (sh a).2.1, .inl (σ.1 a)) := by simp [cel, h]
theorem cel_B {G : GT} {σ : Mm} {a : Nat} (h : (sh a).1 = 0) : cel G σ a = .inl (G.2.2.1 0, (sh a).2.1, .inl (σ.1 a)) := by simp [cel, h]
theorem cel_J {G : GT} {σ : Mm} {a : Nat} (h : (sh a).1 = 2) : cel G σ a = .inl (G.2.2.1 2, (sh a).2.1, .inr (.inl (σ.2 a))) := by simp [cel, h]
theorem cel_O {G : GT} {σ : Mm} {a c : Nat} (h : (sh a).1 = 10 + c) : cel G σ a = .inr (c, (List.range (sh a).2.1).map (fv G σ a)) := by
  have h1 : ¬ 10 + c < 2 := by omega
  have h2 : ¬ 10 + c = 2 := by omega
  have h3 : ¬ 10 + c < 10 := by omega
  simp [cel, h, h1, h2]
end
section
-- the instructions: transformers and their soundness
section Ops
variable {M : Me} {pc : Nat}
def zt_ic (v : Int32) : Tr := fun _ _ _ K _ lv st σ => K none lv (.int v :: st) σ
theorem ze_iconst {n : Int} {v : Int32} (hd : decode M.2.1 pc = .ok (.iconst n, 1)) (hv : Int32.ofInt n = v) : Ent M (pc, pc + 1, zt_ic v) := by
  intro l G d K Q lv st σ hK hJ h p e s m args below meth c H locs ls C hP hS hl
  obtain ⟨hx, hb, hr, hml, hown, hts, hlocks, hKx⟩ := id C
  exact lv_iconst hx hb hd hv (hK _ _ _ h p e s m args below meth c H locs ls C hP hS hl)
theorem ze_bipush {n : Int} {v : Int32} (hd : decode M.2.1 pc = .ok (.bipush n, 2)) (hv : (Int8.ofInt n).toInt32 = v) : Ent M (pc, pc + 2, zt_ic v) := by
  intro l G d K Q lv st σ hK hJ h p e s m args below meth c H locs ls C hP hS hl
  obtain ⟨hx, hb, hr, hml, hown, hts, hlocks, hKx⟩ := id C
  exact lv_bipush hx hb hd hv (hK _ _ _ h p e s m args below meth c H locs ls C hP hS hl)
theorem ze_sipush {n : Int} {v : Int32} (hd : decode M.2.1 pc = .ok (.sipush n, 3)) (hv : (Int16.ofInt n).toInt32 = v) : Ent M (pc, pc + 3, zt_ic v) := by
  intro l G d K Q lv st σ hK hJ h p e s m args below meth c H locs ls C hP hS hl
  obtain ⟨hx, hb, hr, hml, hown, hts, hlocks, hKx⟩ := id C
  exact lv_sipush hx hb hd hv (hK _ _ _ h p e s m args below meth c H locs ls C hP hS hl)
theorem ze_ldc {i : Nat} {v : Int32} (hd : decode M.2.1 pc = .ok (.ldc i, 2)) (hw : Cond.constant M.2.2.2.2 i v ∈ gW) : Ent M (pc, pc + 2, zt_ic v) := by
  intro l G d K Q lv st σ hK hJ h p e s m args below meth c H locs ls C hP hS hl
  obtain ⟨hx, hb, hr, hml, hown, hts, hlocks, hKx⟩ := id C
  exact lv_ldc hx hb hown (hts _ hw) hd (hK _ _ _ h p e s m args below meth c H locs ls C hP hS hl)
theorem ze_ldcw {i : Nat} {v : Int32} (hd : decode M.2.1 pc = .ok (.ldc_w i, 3)) (hw : Cond.constant M.2.2.2.2 i v ∈ gW) : Ent M (pc, pc + 3, zt_ic v) := by
  intro l G d K Q lv st σ hK hJ h p e s m args below meth c H locs ls C hP hS hl
  obtain ⟨hx, hb, hr, hml, hown, hts, hlocks, hKx⟩ := id C
  exact lv_ldcw hx hb hown (hts _ hw) hd (hK _ _ _ h p e s m args below meth c H locs ls C hP hS hl)
def zt_lc (v : Int64) : Tr := fun _ _ _ K _ lv st σ => K none lv (.long v :: st) σ
theorem ze_lconst {n : Fin 2} {v : Int64} (hd : decode M.2.1 pc = .ok (.lconst n, 1)) (hv : Int64.ofNat (n : Nat) = v) : Ent M (pc, pc + 1, zt_lc v) := by
  intro l G d K Q lv st σ hK hJ h p e s m args below meth c H locs ls C hP hS hl
  obtain ⟨hx, hb, hr, hml, hown, hts, hlocks, hKx⟩ := id C
  exact lv_lconst hx hb hd hv (hK _ _ _ h p e s m args below meth c H locs ls C hP hS hl)
theorem ze_ldc2 {i : Nat} {v : Int64} (hd : decode M.2.1 pc = .ok (.ldc2_w i, 3)) (hw : Cond.constantLong M.2.2.2.2 i v ∈ gW) : Ent M (pc, pc + 3, zt_lc v) := by
  intro l G d K Q lv st σ hK hJ h p e s m args below meth c H locs ls C hP hS hl
  obtain ⟨hx, hb, hr, hml, hown, hts, hlocks, hKx⟩ := id C
  exact lv_ldc2 hx hb hown (hts _ hw) hd (hK _ _ _ h p e s m args below meth c H locs ls C hP hS hl)
def zt_iload (i : Nat) : Tr := fun _ _ _ K _ lv st σ => match lk lv i with | some (.int x) => K none lv (.int x :: st) σ | _ => False
theorem ze_iload {i : Nat} (hd : decode M.2.1 pc = .ok (.iload i, 2)) : Ent M (pc, pc + 2, zt_iload i) := by
  intro l G d K Q lv st σ hK hJ h p e s m args below meth c H locs ls C hP hS hl
  obtain ⟨hx, hb, hr, hml, hown, hts, hlocks, hKx⟩ := id C
  unfold zt_iload at h
  dsimp only at h
  split at h
  · next x hx1 => exact lv_iload hx hb hd (lk_at hl hx1) (hK _ _ _ h p e s m args below meth c H locs ls C hP hS hl)
  · exact h.elim
theorem ze_iload_n {i : Nat} {k : Fin 4} (hd : decode M.2.1 pc = .ok (.iload_n k, 1)) (hi : (k : Nat) = i) : Ent M (pc, pc + 1, zt_iload i) := by
  intro l G d K Q lv st σ hK hJ h p e s m args below meth c H locs ls C hP hS hl
  obtain ⟨hx, hb, hr, hml, hown, hts, hlocks, hKx⟩ := id C
  unfold zt_iload at h
  dsimp only at h
  split at h
  · next x hx1 => exact lv_iload_n hx hb hd hi (lk_at hl hx1) (hK _ _ _ h p e s m args below meth c H locs ls C hP hS hl)
  · exact h.elim
def zt_lload (i : Nat) : Tr := fun _ _ _ K _ lv st σ => match lk lv i with | some (.long x) => K none lv (.long x :: st) σ | _ => False
theorem ze_lload {i : Nat} (hd : decode M.2.1 pc = .ok (.lload i, 2)) : Ent M (pc, pc + 2, zt_lload i) := by
  intro l G d K Q lv st σ hK hJ h p e s m args below meth c H locs ls C hP hS hl
  obtain ⟨hx, hb, hr, hml, hown, hts, hlocks, hKx⟩ := id C
  unfold zt_lload at h
  dsimp only at h
  split at h
  · next x hx1 => exact lv_lload hx hb hd (lk_at hl hx1) (hK _ _ _ h p e s m args below meth c H locs ls C hP hS hl)
  · exact h.elim
theorem ze_lload_n {i : Nat} {k : Fin 4} (hd : decode M.2.1 pc = .ok (.lload_n k, 1)) (hi : (k : Nat) = i) : Ent M (pc, pc + 1, zt_lload i) := by
  intro l G d K Q lv st σ hK hJ h p e s m args below meth c H locs ls C hP hS hl
  obtain ⟨hx, hb, hr, hml, hown, hts, hlocks, hKx⟩ := id C
  unfold zt_lload at h
  dsimp only at h
  split at h
  · next x hx1 => exact lv_lload_n hx hb hd hi (lk_at hl hx1) (hK _ _ _ h p e s m args below meth c H locs ls C hP hS hl)
  · exact h.elim
def zt_aload (i : Nat) : Tr := fun _ _ _ K _ lv st σ => match lk lv i with | some (.ref x) => K none lv (.ref x :: st) σ | _ => False
theorem ze_aload {i : Nat} (hd : decode M.2.1 pc = .ok (.aload i, 2)) : Ent M (pc, pc + 2, zt_aload i) := by
  intro l G d K Q lv st σ hK hJ h p e s m args below meth c H locs ls C hP hS hl
  obtain ⟨hx, hb, hr, hml, hown, hts, hlocks, hKx⟩ := id C
  unfold zt_aload at h
  dsimp only at h
  split at h
  · next x hx1 => exact lv_aload hx hb hd (lk_at hl hx1) (hK _ _ _ h p e s m args below meth c H locs ls C hP hS hl)
  · exact h.elim
theorem ze_aload_n {i : Nat} {k : Fin 4} (hd : decode M.2.1 pc = .ok (.aload_n k, 1)) (hi : (k : Nat) = i) : Ent M (pc, pc + 1, zt_aload i) := by
  intro l G d K Q lv st σ hK hJ h p e s m args below meth c H locs ls C hP hS hl
  obtain ⟨hx, hb, hr, hml, hown, hts, hlocks, hKx⟩ := id C
  unfold zt_aload at h
  dsimp only at h
  split at h
  · next x hx1 => exact lv_aload_n hx hb hd hi (lk_at hl hx1) (hK _ _ _ h p e s m args below meth c H locs ls C hP hS hl)
  · exact h.elim
def zt_istore (i : Nat) : Tr := fun _ _ _ K _ lv st σ => match st with | .int x :: st => K none (sto lv i (.int x)) st σ | _ => False
theorem ze_istore {i : Nat} (hd : decode M.2.1 pc = .ok (.istore i, 2)) (hn : i < M.2.2.1) : Ent M (pc, pc + 2, zt_istore i) := by
  intro l G d K Q lv st σ hK hJ h p e s m args below meth c H locs ls C hP hS hl
  obtain ⟨hx, hb, hr, hml, hown, hts, hlocks, hKx⟩ := id C
  unfold zt_istore at h
  dsimp only at h
  split at h
  · next x st => exact lv_istore hx hb hd hl hn rfl (fun ls2 hl2 => hK _ _ _ h p e s m args below meth c H locs ls2 C hP hS (lv_mono hl2 sto_ok))
  · exact h.elim
theorem ze_istore_n {i : Nat} {k : Fin 4} (hd : decode M.2.1 pc = .ok (.istore_n k, 1)) (hi : (k : Nat) = i) (hn : i < M.2.2.1) : Ent M (pc, pc + 1, zt_istore i) := by
  intro l G d K Q lv st σ hK hJ h p e s m args below meth c H locs ls C hP hS hl
  obtain ⟨hx, hb, hr, hml, hown, hts, hlocks, hKx⟩ := id C
  unfold zt_istore at h
  dsimp only at h
  split at h
  · next x st => exact lv_istore_n hx hb hd hi hl hn rfl (fun ls2 hl2 => hK _ _ _ h p e s m args below meth c H locs ls2 C hP hS (lv_mono hl2 sto_ok))
  · exact h.elim
def zt_astore (i : Nat) : Tr := fun _ _ _ K _ lv st σ => match st with | .ref x :: st => K none (sto lv i (.ref x)) st σ | _ => False
theorem ze_astore {i : Nat} (hd : decode M.2.1 pc = .ok (.astore i, 2)) (hn : i < M.2.2.1) : Ent M (pc, pc + 2, zt_astore i) := by
  intro l G d K Q lv st σ hK hJ h p e s m args below meth c H locs ls C hP hS hl
  obtain ⟨hx, hb, hr, hml, hown, hts, hlocks, hKx⟩ := id C
  unfold zt_astore at h
  dsimp only at h
  split at h
  · next x st => exact lv_astore hx hb hd hl hn rfl (fun ls2 hl2 => hK _ _ _ h p e s m args below meth c H locs ls2 C hP hS (lv_mono hl2 sto_ok))
  · exact h.elim
theorem ze_astore_n {i : Nat} {k : Fin 4} (hd : decode M.2.1 pc = .ok (.astore_n k, 1)) (hi : (k : Nat) = i) (hn : i < M.2.2.1) : Ent M (pc, pc + 1, zt_astore i) := by
  intro l G d K Q lv st σ hK hJ h p e s m args below meth c H locs ls C hP hS hl
  obtain ⟨hx, hb, hr, hml, hown, hts, hlocks, hKx⟩ := id C
  unfold zt_astore at h
  dsimp only at h
  split at h
  · next x st => exact lv_astore_n hx hb hd hi hl hn rfl (fun ls2 hl2 => hK _ _ _ h p e s m args below meth c H locs ls2 C hP hS (lv_mono hl2 sto_ok))
  · exact h.elim
def zt_lstore (i : Nat) : Tr := fun _ _ _ K _ lv st σ => match st with | .long x :: st => K none (sto2 lv i (.long x)) st σ | _ => False
theorem ze_lstore {i : Nat} (hd : decode M.2.1 pc = .ok (.lstore i, 2)) (hn : i + 1 < M.2.2.1) : Ent M (pc, pc + 2, zt_lstore i) := by
  intro l G d K Q lv st σ hK hJ h p e s m args below meth c H locs ls C hP hS hl
  obtain ⟨hx, hb, hr, hml, hown, hts, hlocks, hKx⟩ := id C
  unfold zt_lstore at h
  dsimp only at h
  split at h
  · next x st => exact lv_lstore hx hb hd hl hn rfl (fun ls2 hl2 => hK _ _ _ h p e s m args below meth c H locs ls2 C hP hS (lv_mono hl2 sto2_ok))
  · exact h.elim
theorem ze_lstore_n {i : Nat} {k : Fin 4} (hd : decode M.2.1 pc = .ok (.lstore_n k, 1)) (hi : (k : Nat) = i) (hn : i + 1 < M.2.2.1) : Ent M (pc, pc + 1, zt_lstore i) := by
  intro l G d K Q lv st σ hK hJ h p e s m args below meth c H locs ls C hP hS hl
  obtain ⟨hx, hb, hr, hml, hown, hts, hlocks, hKx⟩ := id C
  unfold zt_lstore at h
  dsimp only at h
  split at h
  · next x st => exact lv_lstore_n hx hb hd hi hl hn rfl (fun ls2 hl2 => hK _ _ _ h p e s m args below meth c H locs ls2 C hP hS (lv_mono hl2 sto2_ok))
  · exact h.elim
def zt_iinc (i : Nat) (n : Int32) : Tr := fun _ _ _ K _ lv st σ => match lk lv i with | some (.int x) => K none (sto lv i (.int (x + n))) st σ | _ => False
theorem ze_iinc {i : Nat} {n : Int} {v : Int32} (hd : decode M.2.1 pc = .ok (.iinc i n, 3)) (hv : Int32.ofInt n = v) (hn : i < M.2.2.1) : Ent M (pc, pc + 3, zt_iinc i v) := by
  intro l G d K Q lv st σ hK hJ h p e s m args below meth c H locs ls C hP hS hl
  obtain ⟨hx, hb, hr, hml, hown, hts, hlocks, hKx⟩ := id C
  unfold zt_iinc at h
  dsimp only at h
  split at h
  · next x hx1 =>
      subst hv
      obtain ⟨k, hk⟩ := List.getElem?_of_mem (List.mem_map.mpr ⟨(i, Value.int x), lk_mem hx1, rfl⟩ : (i, Value.int x) ∈ lv.map (tl G))
      exact lv_iinc hx hb hd hl hk rfl hn rfl (fun ls2 hl2 => hK _ _ _ h p e s m args below meth c H locs ls2 C hP hS (lv_mono hl2 sto_ok))
  · exact h.elim
def zt_iadd : Tr := fun _ _ _ K _ lv st σ => match st with | .int y :: .int x :: st => K none lv (.int (x + y) :: st) σ | _ => False
theorem ze_iadd (hd : decode M.2.1 pc = .ok (.iadd, 1)) : Ent M (pc, pc + 1, zt_iadd) := by
  intro l G d K Q lv st σ hK hJ h p e s m args below meth c H locs ls C hP hS hl
  obtain ⟨hx, hb, hr, hml, hown, hts, hlocks, hKx⟩ := id C
  unfold zt_iadd at h
  dsimp only at h
  split at h
  · next y x st => exact lv_iadd hx hb hd (hK _ _ _ h p e s m args below meth c H locs ls C hP hS hl)
  · exact h.elim
def zt_isub : Tr := fun _ _ _ K _ lv st σ => match st with | .int y :: .int x :: st => K none lv (.int (x - y) :: st) σ | _ => False
theorem ze_isub (hd : decode M.2.1 pc = .ok (.isub, 1)) : Ent M (pc, pc + 1, zt_isub) := by
  intro l G d K Q lv st σ hK hJ h p e s m args below meth c H locs ls C hP hS hl
  obtain ⟨hx, hb, hr, hml, hown, hts, hlocks, hKx⟩ := id C
  unfold zt_isub at h
  dsimp only at h
  split at h
  · next y x st => exact lv_isub hx hb hd (hK _ _ _ h p e s m args below meth c H locs ls C hP hS hl)
  · exact h.elim
def zt_imul : Tr := fun _ _ _ K _ lv st σ => match st with | .int y :: .int x :: st => K none lv (.int (x * y) :: st) σ | _ => False
theorem ze_imul (hd : decode M.2.1 pc = .ok (.imul, 1)) : Ent M (pc, pc + 1, zt_imul) := by
  intro l G d K Q lv st σ hK hJ h p e s m args below meth c H locs ls C hP hS hl
  obtain ⟨hx, hb, hr, hml, hown, hts, hlocks, hKx⟩ := id C
  unfold zt_imul at h
  dsimp only at h
  split at h
  · next y x st => exact lv_imul hx hb hd (hK _ _ _ h p e s m args below meth c H locs ls C hP hS hl)
  · exact h.elim
def zt_iand : Tr := fun _ _ _ K _ lv st σ => match st with | .int y :: .int x :: st => K none lv (.int (x &&& y) :: st) σ | _ => False
theorem ze_iand (hd : decode M.2.1 pc = .ok (.iand, 1)) : Ent M (pc, pc + 1, zt_iand) := by
  intro l G d K Q lv st σ hK hJ h p e s m args below meth c H locs ls C hP hS hl
  obtain ⟨hx, hb, hr, hml, hown, hts, hlocks, hKx⟩ := id C
  unfold zt_iand at h
  dsimp only at h
  split at h
  · next y x st => exact lv_iand hx hb hd (hK _ _ _ h p e s m args below meth c H locs ls C hP hS hl)
  · exact h.elim
def zt_ior : Tr := fun _ _ _ K _ lv st σ => match st with | .int y :: .int x :: st => K none lv (.int (x ||| y) :: st) σ | _ => False
theorem ze_ior (hd : decode M.2.1 pc = .ok (.ior, 1)) : Ent M (pc, pc + 1, zt_ior) := by
  intro l G d K Q lv st σ hK hJ h p e s m args below meth c H locs ls C hP hS hl
  obtain ⟨hx, hb, hr, hml, hown, hts, hlocks, hKx⟩ := id C
  unfold zt_ior at h
  dsimp only at h
  split at h
  · next y x st => exact lv_ior hx hb hd (hK _ _ _ h p e s m args below meth c H locs ls C hP hS hl)
  · exact h.elim
def zt_ixor : Tr := fun _ _ _ K _ lv st σ => match st with | .int y :: .int x :: st => K none lv (.int (x ^^^ y) :: st) σ | _ => False
theorem ze_ixor (hd : decode M.2.1 pc = .ok (.ixor, 1)) : Ent M (pc, pc + 1, zt_ixor) := by
  intro l G d K Q lv st σ hK hJ h p e s m args below meth c H locs ls C hP hS hl
  obtain ⟨hx, hb, hr, hml, hown, hts, hlocks, hKx⟩ := id C
  unfold zt_ixor at h
  dsimp only at h
  split at h
  · next y x st => exact lv_ixor hx hb hd (hK _ _ _ h p e s m args below meth c H locs ls C hP hS hl)
  · exact h.elim
def zt_ishl : Tr := fun _ _ _ K _ lv st σ => match st with | .int y :: .int x :: st => K none lv (.int (x <<< (y &&& 31)) :: st) σ | _ => False
theorem ze_ishl (hd : decode M.2.1 pc = .ok (.ishl, 1)) : Ent M (pc, pc + 1, zt_ishl) := by
  intro l G d K Q lv st σ hK hJ h p e s m args below meth c H locs ls C hP hS hl
  obtain ⟨hx, hb, hr, hml, hown, hts, hlocks, hKx⟩ := id C
  unfold zt_ishl at h
  dsimp only at h
  split at h
  · next y x st => exact lv_ishl hx hb hd (hK _ _ _ h p e s m args below meth c H locs ls C hP hS hl)
  · exact h.elim
def zt_ishr : Tr := fun _ _ _ K _ lv st σ => match st with | .int y :: .int x :: st => K none lv (.int (x >>> (y &&& 31)) :: st) σ | _ => False
theorem ze_ishr (hd : decode M.2.1 pc = .ok (.ishr, 1)) : Ent M (pc, pc + 1, zt_ishr) := by
  intro l G d K Q lv st σ hK hJ h p e s m args below meth c H locs ls C hP hS hl
  obtain ⟨hx, hb, hr, hml, hown, hts, hlocks, hKx⟩ := id C
  unfold zt_ishr at h
  dsimp only at h
  split at h
  · next y x st => exact lv_ishr hx hb hd (hK _ _ _ h p e s m args below meth c H locs ls C hP hS hl)
  · exact h.elim
def zt_ladd : Tr := fun _ _ _ K _ lv st σ => match st with | .long y :: .long x :: st => K none lv (.long (x + y) :: st) σ | _ => False
theorem ze_ladd (hd : decode M.2.1 pc = .ok (.ladd, 1)) : Ent M (pc, pc + 1, zt_ladd) := by
  intro l G d K Q lv st σ hK hJ h p e s m args below meth c H locs ls C hP hS hl
  obtain ⟨hx, hb, hr, hml, hown, hts, hlocks, hKx⟩ := id C
  unfold zt_ladd at h
  dsimp only at h
  split at h
  · next y x st => exact lv_ladd hx hb hd (hK _ _ _ h p e s m args below meth c H locs ls C hP hS hl)
  · exact h.elim
def zt_lsub : Tr := fun _ _ _ K _ lv st σ => match st with | .long y :: .long x :: st => K none lv (.long (x - y) :: st) σ | _ => False
theorem ze_lsub (hd : decode M.2.1 pc = .ok (.lsub, 1)) : Ent M (pc, pc + 1, zt_lsub) := by
  intro l G d K Q lv st σ hK hJ h p e s m args below meth c H locs ls C hP hS hl
  obtain ⟨hx, hb, hr, hml, hown, hts, hlocks, hKx⟩ := id C
  unfold zt_lsub at h
  dsimp only at h
  split at h
  · next y x st => exact lv_lsub hx hb hd (hK _ _ _ h p e s m args below meth c H locs ls C hP hS hl)
  · exact h.elim
def zt_lmul : Tr := fun _ _ _ K _ lv st σ => match st with | .long y :: .long x :: st => K none lv (.long (x * y) :: st) σ | _ => False
theorem ze_lmul (hd : decode M.2.1 pc = .ok (.lmul, 1)) : Ent M (pc, pc + 1, zt_lmul) := by
  intro l G d K Q lv st σ hK hJ h p e s m args below meth c H locs ls C hP hS hl
  obtain ⟨hx, hb, hr, hml, hown, hts, hlocks, hKx⟩ := id C
  unfold zt_lmul at h
  dsimp only at h
  split at h
  · next y x st => exact lv_lmul hx hb hd (hK _ _ _ h p e s m args below meth c H locs ls C hP hS hl)
  · exact h.elim
def zt_land : Tr := fun _ _ _ K _ lv st σ => match st with | .long y :: .long x :: st => K none lv (.long (x &&& y) :: st) σ | _ => False
theorem ze_land (hd : decode M.2.1 pc = .ok (.land, 1)) : Ent M (pc, pc + 1, zt_land) := by
  intro l G d K Q lv st σ hK hJ h p e s m args below meth c H locs ls C hP hS hl
  obtain ⟨hx, hb, hr, hml, hown, hts, hlocks, hKx⟩ := id C
  unfold zt_land at h
  dsimp only at h
  split at h
  · next y x st => exact lv_land hx hb hd (hK _ _ _ h p e s m args below meth c H locs ls C hP hS hl)
  · exact h.elim
def zt_lor : Tr := fun _ _ _ K _ lv st σ => match st with | .long y :: .long x :: st => K none lv (.long (x ||| y) :: st) σ | _ => False
theorem ze_lor (hd : decode M.2.1 pc = .ok (.lor, 1)) : Ent M (pc, pc + 1, zt_lor) := by
  intro l G d K Q lv st σ hK hJ h p e s m args below meth c H locs ls C hP hS hl
  obtain ⟨hx, hb, hr, hml, hown, hts, hlocks, hKx⟩ := id C
  unfold zt_lor at h
  dsimp only at h
  split at h
  · next y x st => exact lv_lor hx hb hd (hK _ _ _ h p e s m args below meth c H locs ls C hP hS hl)
  · exact h.elim
def zt_idiv : Tr := fun _ _ _ K _ lv st σ => match st with | .int y :: .int x :: st => (¬ y = 0) ∧ K none lv (.int (x / y) :: st) σ | _ => False
theorem ze_idiv (hd : decode M.2.1 pc = .ok (.idiv, 1)) : Ent M (pc, pc + 1, zt_idiv) := by
  intro l G d K Q lv st σ hK hJ h p e s m args below meth c H locs ls C hP hS hl
  obtain ⟨hx, hb, hr, hml, hown, hts, hlocks, hKx⟩ := id C
  unfold zt_idiv at h
  dsimp only at h
  split at h
  · next y x st => exact lv_idiv hx hb hd h.1 (hK _ _ _ h.2 p e s m args below meth c H locs ls C hP hS hl)
  · exact h.elim
def zt_irem : Tr := fun _ _ _ K _ lv st σ => match st with | .int y :: .int x :: st => (¬ y = 0) ∧ K none lv (.int (x - x / y * y) :: st) σ | _ => False
theorem ze_irem (hd : decode M.2.1 pc = .ok (.irem, 1)) : Ent M (pc, pc + 1, zt_irem) := by
  intro l G d K Q lv st σ hK hJ h p e s m args below meth c H locs ls C hP hS hl
  obtain ⟨hx, hb, hr, hml, hown, hts, hlocks, hKx⟩ := id C
  unfold zt_irem at h
  dsimp only at h
  split at h
  · next y x st => exact lv_irem hx hb hd h.1 (hK _ _ _ h.2 p e s m args below meth c H locs ls C hP hS hl)
  · exact h.elim
def zt_ldiv : Tr := fun _ _ _ K _ lv st σ => match st with | .long y :: .long x :: st => (¬ y = 0) ∧ K none lv (.long (x / y) :: st) σ | _ => False
theorem ze_ldiv (hd : decode M.2.1 pc = .ok (.ldiv, 1)) : Ent M (pc, pc + 1, zt_ldiv) := by
  intro l G d K Q lv st σ hK hJ h p e s m args below meth c H locs ls C hP hS hl
  obtain ⟨hx, hb, hr, hml, hown, hts, hlocks, hKx⟩ := id C
  unfold zt_ldiv at h
  dsimp only at h
  split at h
  · next y x st => exact lv_ldiv hx hb hd h.1 (hK _ _ _ h.2 p e s m args below meth c H locs ls C hP hS hl)
  · exact h.elim
def zt_lrem : Tr := fun _ _ _ K _ lv st σ => match st with | .long y :: .long x :: st => (¬ y = 0) ∧ K none lv (.long (x - x / y * y) :: st) σ | _ => False
theorem ze_lrem (hd : decode M.2.1 pc = .ok (.lrem, 1)) : Ent M (pc, pc + 1, zt_lrem) := by
  intro l G d K Q lv st σ hK hJ h p e s m args below meth c H locs ls C hP hS hl
  obtain ⟨hx, hb, hr, hml, hown, hts, hlocks, hKx⟩ := id C
  unfold zt_lrem at h
  dsimp only at h
  split at h
  · next y x st => exact lv_lrem hx hb hd h.1 (hK _ _ _ h.2 p e s m args below meth c H locs ls C hP hS hl)
  · exact h.elim
def zt_ineg : Tr := fun _ _ _ K _ lv st σ => match st with | .int x :: st => K none lv (.int (-x) :: st) σ | _ => False
theorem ze_ineg (hd : decode M.2.1 pc = .ok (.ineg, 1)) : Ent M (pc, pc + 1, zt_ineg) := by
  intro l G d K Q lv st σ hK hJ h p e s m args below meth c H locs ls C hP hS hl
  obtain ⟨hx, hb, hr, hml, hown, hts, hlocks, hKx⟩ := id C
  unfold zt_ineg at h
  dsimp only at h
  split at h
  · next x st => exact lv_ineg hx hb hd (hK _ _ _ h p e s m args below meth c H locs ls C hP hS hl)
  · exact h.elim
def zt_i2l : Tr := fun _ _ _ K _ lv st σ => match st with | .int x :: st => K none lv (.long (x.toInt64) :: st) σ | _ => False
theorem ze_i2l (hd : decode M.2.1 pc = .ok (.i2l, 1)) : Ent M (pc, pc + 1, zt_i2l) := by
  intro l G d K Q lv st σ hK hJ h p e s m args below meth c H locs ls C hP hS hl
  obtain ⟨hx, hb, hr, hml, hown, hts, hlocks, hKx⟩ := id C
  unfold zt_i2l at h
  dsimp only at h
  split at h
  · next x st => exact lv_i2l hx hb hd rfl (hK _ _ _ h p e s m args below meth c H locs ls C hP hS hl)
  · exact h.elim
def zt_l2i : Tr := fun _ _ _ K _ lv st σ => match st with | .long x :: st => K none lv (.int (x.toInt32) :: st) σ | _ => False
theorem ze_l2i (hd : decode M.2.1 pc = .ok (.l2i, 1)) : Ent M (pc, pc + 1, zt_l2i) := by
  intro l G d K Q lv st σ hK hJ h p e s m args below meth c H locs ls C hP hS hl
  obtain ⟨hx, hb, hr, hml, hown, hts, hlocks, hKx⟩ := id C
  unfold zt_l2i at h
  dsimp only at h
  split at h
  · next x st => exact lv_l2i hx hb hd rfl (hK _ _ _ h p e s m args below meth c H locs ls C hP hS hl)
  · exact h.elim
def zt_i2b : Tr := fun _ _ _ K _ lv st σ => match st with | .int x :: st => K none lv (.int (x.toInt8.toInt32) :: st) σ | _ => False
theorem ze_i2b (hd : decode M.2.1 pc = .ok (.i2b, 1)) : Ent M (pc, pc + 1, zt_i2b) := by
  intro l G d K Q lv st σ hK hJ h p e s m args below meth c H locs ls C hP hS hl
  obtain ⟨hx, hb, hr, hml, hown, hts, hlocks, hKx⟩ := id C
  unfold zt_i2b at h
  dsimp only at h
  split at h
  · next x st => exact lv_i2b hx hb hd rfl (hK _ _ _ h p e s m args below meth c H locs ls C hP hS hl)
  · exact h.elim
def zt_iushr : Tr := fun _ _ _ K _ lv st σ => match st with | .int y :: .int x :: st => K none lv (.int ((x.toUInt32 >>> (y.toUInt32 &&& Int32.toUInt32 31)).toInt32) :: st) σ | _ => False
theorem ze_iushr (hd : decode M.2.1 pc = .ok (.iushr, 1)) : Ent M (pc, pc + 1, zt_iushr) := by
  intro l G d K Q lv st σ hK hJ h p e s m args below meth c H locs ls C hP hS hl
  obtain ⟨hx, hb, hr, hml, hown, hts, hlocks, hKx⟩ := id C
  unfold zt_iushr at h
  dsimp only at h
  split at h
  · next y x st => exact lv_iushr hx hb hd rfl (hK _ _ _ h p e s m args below meth c H locs ls C hP hS hl)
  · exact h.elim
def zt_lushr : Tr := fun _ _ _ K _ lv st σ => match st with | .int y :: .long x :: st => K none lv (.long ((x.toUInt64 >>> (y.toInt64.toUInt64 &&& Int64.toUInt64 63)).toInt64) :: st) σ | _ => False
theorem ze_lushr (hd : decode M.2.1 pc = .ok (.lushr, 1)) : Ent M (pc, pc + 1, zt_lushr) := by
  intro l G d K Q lv st σ hK hJ h p e s m args below meth c H locs ls C hP hS hl
  obtain ⟨hx, hb, hr, hml, hown, hts, hlocks, hKx⟩ := id C
  unfold zt_lushr at h
  dsimp only at h
  split at h
  · next y x st => exact lv_lushr hx hb hd rfl (hK _ _ _ h p e s m args below meth c H locs ls C hP hS hl)
  · exact h.elim
def zt_lshl : Tr := fun _ _ _ K _ lv st σ => match st with | .int y :: .long x :: st => K none lv (.long (x <<< (y.toInt64 &&& 63)) :: st) σ | _ => False
theorem ze_lshl (hd : decode M.2.1 pc = .ok (.lshl, 1)) : Ent M (pc, pc + 1, zt_lshl) := by
  intro l G d K Q lv st σ hK hJ h p e s m args below meth c H locs ls C hP hS hl
  obtain ⟨hx, hb, hr, hml, hown, hts, hlocks, hKx⟩ := id C
  unfold zt_lshl at h
  dsimp only at h
  split at h
  · next y x st => exact lv_lshl hx hb hd rfl (hK _ _ _ h p e s m args below meth c H locs ls C hP hS hl)
  · exact h.elim
def zt_lcmp : Tr := fun _ _ _ K _ lv st σ => match st with | .long y :: .long x :: st => K none lv (.int (lg_cmp x y) :: st) σ | _ => False
theorem ze_lcmp (hd : decode M.2.1 pc = .ok (.lcmp, 1)) : Ent M (pc, pc + 1, zt_lcmp) := by
  intro l G d K Q lv st σ hK hJ h p e s m args below meth c H locs ls C hP hS hl
  obtain ⟨hx, hb, hr, hml, hown, hts, hlocks, hKx⟩ := id C
  unfold zt_lcmp at h
  dsimp only at h
  split at h
  · next y x st => exact W.lcmp hx hb hd (hK _ _ _ h p e s m args below meth c H locs ls C hP hS hl)
  · exact h.elim
def zt_dup : Tr := fun _ _ _ K _ lv st σ => match st with | v :: st => if v.category = 1 then K none lv (v :: v :: st) σ else False | _ => False
theorem ze_dup (hd : decode M.2.1 pc = .ok (.dup, 1)) : Ent M (pc, pc + 1, zt_dup) := by
  intro l G d K Q lv st σ hK hJ h p e s m args below meth c H locs ls C hP hS hl
  obtain ⟨hx, hb, hr, hml, hown, hts, hlocks, hKx⟩ := id C
  unfold zt_dup at h
  dsimp only at h
  split at h
  · next v st =>
    split at h
    · next hv => exact lv_dup hx hb hd (by rw [tv_cat]; exact hv) (hK _ _ _ h p e s m args below meth c H locs ls C hP hS hl)
    · exact h.elim
  · exact h.elim
def zt_pop : Tr := fun _ _ _ K _ lv st σ => match st with | v :: st => if v.category = 1 then K none lv st σ else False | _ => False
theorem ze_pop (hd : decode M.2.1 pc = .ok (.pop, 1)) : Ent M (pc, pc + 1, zt_pop) := by
  intro l G d K Q lv st σ hK hJ h p e s m args below meth c H locs ls C hP hS hl
  obtain ⟨hx, hb, hr, hml, hown, hts, hlocks, hKx⟩ := id C
  unfold zt_pop at h
  dsimp only at h
  split at h
  · next v st =>
    split at h
    · next hv => exact lv_pop hx hb hd (by rw [tv_cat]; exact hv) (hK _ _ _ h p e s m args below meth c H locs ls C hP hS hl)
    · exact h.elim
  · exact h.elim
def zt_dup2 : Tr := fun _ _ _ K _ lv st σ => match st with | v :: w :: st => if v.category = 1 ∧ w.category = 1 then K none lv (v :: w :: v :: w :: st) σ else False | _ => False
theorem ze_dup2 (hd : decode M.2.1 pc = .ok (.dup2, 1)) : Ent M (pc, pc + 1, zt_dup2) := by
  intro l G d K Q lv st σ hK hJ h p e s m args below meth c H locs ls C hP hS hl
  obtain ⟨hx, hb, hr, hml, hown, hts, hlocks, hKx⟩ := id C
  unfold zt_dup2 at h
  dsimp only at h
  split at h
  · next v w st =>
    split at h
    · next hv => exact lv_dup2_11 hx hb hd (by rw [tv_cat]; exact hv.1) (by rw [tv_cat]; exact hv.2) (hK _ _ _ h p e s m args below meth c H locs ls C hP hS hl)
    · exact h.elim
  · exact h.elim
def zt_goto (t : Nat) : Tr := fun _ _ _ K _ lv st σ => K (some t) lv st σ
theorem ze_goto {off : Int} {t : Nat} (hd : decode M.2.1 pc = .ok (.goto off, 3)) (ht : (pc : Int) + off = (t : Int)) : Ent M (pc, pc + 3, zt_goto t) := by
  intro l G d K Q lv st σ hK hJ h p e s m args below meth c H locs ls C hP hS hl
  obtain ⟨hx, hb, hr, hml, hown, hts, hlocks, hKx⟩ := id C
  exact lv_goto hx hb hd ht (hJ _ _ _ _ h p e s m args below meth c H locs ls C hP hS hl)
def zt_if_eq (t : Nat) : Tr := fun _ _ _ K _ lv st σ => match st with | .int x :: st => (x = 0 → K (some t) lv st σ) ∧ (¬ x = 0 → K none lv st σ) | _ => False
theorem ze_if_eq {off : Int} {t : Nat} (hd : decode M.2.1 pc = .ok (.ifCond .eq off, 3)) (ht : (pc : Int) + off = (t : Int)) : Ent M (pc, pc + 3, zt_if_eq t) := by
  intro l G d K Q lv st σ hK hJ h p e s m args below meth c H locs ls C hP hS hl
  obtain ⟨hx, hb, hr, hml, hown, hts, hlocks, hKx⟩ := id C
  unfold zt_if_eq at h
  dsimp only at h
  split at h
  · next x st => exact lv_if_eq hx hb hd ht (fun q => hJ _ _ _ _ (h.1 q) p e s m args below meth c H locs ls C hP hS hl) (fun q => hK _ _ _ (h.2 q) p e s m args below meth c H locs ls C hP hS hl)
  · exact h.elim
def zt_icmp_eq (t : Nat) : Tr := fun _ _ _ K _ lv st σ => match st with | .int y :: .int x :: st => (x = y → K (some t) lv st σ) ∧ (¬ x = y → K none lv st σ) | _ => False
theorem ze_icmp_eq {off : Int} {t : Nat} (hd : decode M.2.1 pc = .ok (.if_icmp .eq off, 3)) (ht : (pc : Int) + off = (t : Int)) : Ent M (pc, pc + 3, zt_icmp_eq t) := by
  intro l G d K Q lv st σ hK hJ h p e s m args below meth c H locs ls C hP hS hl
  obtain ⟨hx, hb, hr, hml, hown, hts, hlocks, hKx⟩ := id C
  unfold zt_icmp_eq at h
  dsimp only at h
  split at h
  · next y x st => exact lv_icmp_eq hx hb hd ht (fun q => hJ _ _ _ _ (h.1 q) p e s m args below meth c H locs ls C hP hS hl) (fun q => hK _ _ _ (h.2 q) p e s m args below meth c H locs ls C hP hS hl)
  · exact h.elim
def zt_if_ne (t : Nat) : Tr := fun _ _ _ K _ lv st σ => match st with | .int x :: st => (x = 0 → K none lv st σ) ∧ (¬ x = 0 → K (some t) lv st σ) | _ => False
theorem ze_if_ne {off : Int} {t : Nat} (hd : decode M.2.1 pc = .ok (.ifCond .ne off, 3)) (ht : (pc : Int) + off = (t : Int)) : Ent M (pc, pc + 3, zt_if_ne t) := by
  intro l G d K Q lv st σ hK hJ h p e s m args below meth c H locs ls C hP hS hl
  obtain ⟨hx, hb, hr, hml, hown, hts, hlocks, hKx⟩ := id C
  unfold zt_if_ne at h
  dsimp only at h
  split at h
  · next x st => exact lv_if_ne hx hb hd ht (fun q => hJ _ _ _ _ (h.2 q) p e s m args below meth c H locs ls C hP hS hl) (fun q => hK _ _ _ (h.1 q) p e s m args below meth c H locs ls C hP hS hl)
  · exact h.elim
def zt_icmp_ne (t : Nat) : Tr := fun _ _ _ K _ lv st σ => match st with | .int y :: .int x :: st => (x = y → K none lv st σ) ∧ (¬ x = y → K (some t) lv st σ) | _ => False
theorem ze_icmp_ne {off : Int} {t : Nat} (hd : decode M.2.1 pc = .ok (.if_icmp .ne off, 3)) (ht : (pc : Int) + off = (t : Int)) : Ent M (pc, pc + 3, zt_icmp_ne t) := by
  intro l G d K Q lv st σ hK hJ h p e s m args below meth c H locs ls C hP hS hl
  obtain ⟨hx, hb, hr, hml, hown, hts, hlocks, hKx⟩ := id C
  unfold zt_icmp_ne at h
  dsimp only at h
  split at h
  · next y x st => exact lv_icmp_ne hx hb hd ht (fun q => hJ _ _ _ _ (h.2 q) p e s m args below meth c H locs ls C hP hS hl) (fun q => hK _ _ _ (h.1 q) p e s m args below meth c H locs ls C hP hS hl)
  · exact h.elim
def zt_if_lt (t : Nat) : Tr := fun _ _ _ K _ lv st σ => match st with | .int x :: st => (x < 0 → K (some t) lv st σ) ∧ (¬ x < 0 → K none lv st σ) | _ => False
theorem ze_if_lt {off : Int} {t : Nat} (hd : decode M.2.1 pc = .ok (.ifCond .lt off, 3)) (ht : (pc : Int) + off = (t : Int)) : Ent M (pc, pc + 3, zt_if_lt t) := by
  intro l G d K Q lv st σ hK hJ h p e s m args below meth c H locs ls C hP hS hl
  obtain ⟨hx, hb, hr, hml, hown, hts, hlocks, hKx⟩ := id C
  unfold zt_if_lt at h
  dsimp only at h
  split at h
  · next x st => exact lv_if_lt hx hb hd ht (fun q => hJ _ _ _ _ (h.1 q) p e s m args below meth c H locs ls C hP hS hl) (fun q => hK _ _ _ (h.2 q) p e s m args below meth c H locs ls C hP hS hl)
  · exact h.elim
def zt_icmp_lt (t : Nat) : Tr := fun _ _ _ K _ lv st σ => match st with | .int y :: .int x :: st => (x < y → K (some t) lv st σ) ∧ (¬ x < y → K none lv st σ) | _ => False
theorem ze_icmp_lt {off : Int} {t : Nat} (hd : decode M.2.1 pc = .ok (.if_icmp .lt off, 3)) (ht : (pc : Int) + off = (t : Int)) : Ent M (pc, pc + 3, zt_icmp_lt t) := by
  intro l G d K Q lv st σ hK hJ h p e s m args below meth c H locs ls C hP hS hl
  obtain ⟨hx, hb, hr, hml, hown, hts, hlocks, hKx⟩ := id C
  unfold zt_icmp_lt at h
  dsimp only at h
  split at h
  · next y x st => exact lv_icmp_lt hx hb hd ht (fun q => hJ _ _ _ _ (h.1 q) p e s m args below meth c H locs ls C hP hS hl) (fun q => hK _ _ _ (h.2 q) p e s m args below meth c H locs ls C hP hS hl)
  · exact h.elim
def zt_if_ge (t : Nat) : Tr := fun _ _ _ K _ lv st σ => match st with | .int x :: st => (0 ≤ x → K (some t) lv st σ) ∧ (¬ 0 ≤ x → K none lv st σ) | _ => False
theorem ze_if_ge {off : Int} {t : Nat} (hd : decode M.2.1 pc = .ok (.ifCond .ge off, 3)) (ht : (pc : Int) + off = (t : Int)) : Ent M (pc, pc + 3, zt_if_ge t) := by
  intro l G d K Q lv st σ hK hJ h p e s m args below meth c H locs ls C hP hS hl
  obtain ⟨hx, hb, hr, hml, hown, hts, hlocks, hKx⟩ := id C
  unfold zt_if_ge at h
  dsimp only at h
  split at h
  · next x st => exact lv_if_ge hx hb hd ht (fun q => hJ _ _ _ _ (h.1 q) p e s m args below meth c H locs ls C hP hS hl) (fun q => hK _ _ _ (h.2 q) p e s m args below meth c H locs ls C hP hS hl)
  · exact h.elim
def zt_icmp_ge (t : Nat) : Tr := fun _ _ _ K _ lv st σ => match st with | .int y :: .int x :: st => (y ≤ x → K (some t) lv st σ) ∧ (¬ y ≤ x → K none lv st σ) | _ => False
theorem ze_icmp_ge {off : Int} {t : Nat} (hd : decode M.2.1 pc = .ok (.if_icmp .ge off, 3)) (ht : (pc : Int) + off = (t : Int)) : Ent M (pc, pc + 3, zt_icmp_ge t) := by
  intro l G d K Q lv st σ hK hJ h p e s m args below meth c H locs ls C hP hS hl
  obtain ⟨hx, hb, hr, hml, hown, hts, hlocks, hKx⟩ := id C
  unfold zt_icmp_ge at h
  dsimp only at h
  split at h
  · next y x st => exact lv_icmp_ge hx hb hd ht (fun q => hJ _ _ _ _ (h.1 q) p e s m args below meth c H locs ls C hP hS hl) (fun q => hK _ _ _ (h.2 q) p e s m args below meth c H locs ls C hP hS hl)
  · exact h.elim
def zt_if_gt (t : Nat) : Tr := fun _ _ _ K _ lv st σ => match st with | .int x :: st => (0 < x → K (some t) lv st σ) ∧ (¬ 0 < x → K none lv st σ) | _ => False
theorem ze_if_gt {off : Int} {t : Nat} (hd : decode M.2.1 pc = .ok (.ifCond .gt off, 3)) (ht : (pc : Int) + off = (t : Int)) : Ent M (pc, pc + 3, zt_if_gt t) := by
  intro l G d K Q lv st σ hK hJ h p e s m args below meth c H locs ls C hP hS hl
  obtain ⟨hx, hb, hr, hml, hown, hts, hlocks, hKx⟩ := id C
  unfold zt_if_gt at h
  dsimp only at h
  split at h
  · next x st => exact lv_if_gt hx hb hd ht (fun q => hJ _ _ _ _ (h.1 q) p e s m args below meth c H locs ls C hP hS hl) (fun q => hK _ _ _ (h.2 q) p e s m args below meth c H locs ls C hP hS hl)
  · exact h.elim
def zt_icmp_gt (t : Nat) : Tr := fun _ _ _ K _ lv st σ => match st with | .int y :: .int x :: st => (y < x → K (some t) lv st σ) ∧ (¬ y < x → K none lv st σ) | _ => False
theorem ze_icmp_gt {off : Int} {t : Nat} (hd : decode M.2.1 pc = .ok (.if_icmp .gt off, 3)) (ht : (pc : Int) + off = (t : Int)) : Ent M (pc, pc + 3, zt_icmp_gt t) := by
  intro l G d K Q lv st σ hK hJ h p e s m args below meth c H locs ls C hP hS hl
  obtain ⟨hx, hb, hr, hml, hown, hts, hlocks, hKx⟩ := id C
  unfold zt_icmp_gt at h
  dsimp only at h
  split at h
  · next y x st => exact lv_icmp_gt hx hb hd ht (fun q => hJ _ _ _ _ (h.1 q) p e s m args below meth c H locs ls C hP hS hl) (fun q => hK _ _ _ (h.2 q) p e s m args below meth c H locs ls C hP hS hl)
  · exact h.elim
def zt_if_le (t : Nat) : Tr := fun _ _ _ K _ lv st σ => match st with | .int x :: st => (x ≤ 0 → K (some t) lv st σ) ∧ (¬ x ≤ 0 → K none lv st σ) | _ => False
theorem ze_if_le {off : Int} {t : Nat} (hd : decode M.2.1 pc = .ok (.ifCond .le off, 3)) (ht : (pc : Int) + off = (t : Int)) : Ent M (pc, pc + 3, zt_if_le t) := by
  intro l G d K Q lv st σ hK hJ h p e s m args below meth c H locs ls C hP hS hl
  obtain ⟨hx, hb, hr, hml, hown, hts, hlocks, hKx⟩ := id C
  unfold zt_if_le at h
  dsimp only at h
  split at h
  · next x st => exact lv_if_le hx hb hd ht (fun q => hJ _ _ _ _ (h.1 q) p e s m args below meth c H locs ls C hP hS hl) (fun q => hK _ _ _ (h.2 q) p e s m args below meth c H locs ls C hP hS hl)
  · exact h.elim
def zt_icmp_le (t : Nat) : Tr := fun _ _ _ K _ lv st σ => match st with | .int y :: .int x :: st => (x ≤ y → K (some t) lv st σ) ∧ (¬ x ≤ y → K none lv st σ) | _ => False
theorem ze_icmp_le {off : Int} {t : Nat} (hd : decode M.2.1 pc = .ok (.if_icmp .le off, 3)) (ht : (pc : Int) + off = (t : Int)) : Ent M (pc, pc + 3, zt_icmp_le t) := by
  intro l G d K Q lv st σ hK hJ h p e s m args below meth c H locs ls C hP hS hl
  obtain ⟨hx, hb, hr, hml, hown, hts, hlocks, hKx⟩ := id C
  unfold zt_icmp_le at h
  dsimp only at h
  split at h
  · next y x st => exact lv_icmp_le hx hb hd ht (fun q => hJ _ _ _ _ (h.1 q) p e s m args below meth c H locs ls C hP hS hl) (fun q => hK _ _ _ (h.2 q) p e s m args below meth c H locs ls C hP hS hl)
  · exact h.elim
def zt_iaload : Tr := fun _ _ _ K _ lv st σ => match st with | .int i :: .ref a :: st => vp_in i (lenI a) ∧ K none lv (.int (σ.1 a i.toNatClampNeg) :: st) σ | _ => False
theorem ze_iaload (hd : decode M.2.1 pc = .ok (.iaload, 1)) : Ent M (pc, pc + 1, zt_iaload) := by
  intro l G d K Q lv st σ hK hJ h p e s m args below meth c H locs ls C hP hS hl
  obtain ⟨hx, hb, hr, hml, hown, hts, hlocks, hKx⟩ := id C
  unfold zt_iaload at h
  dsimp only at h
  split at h
  · next i a st =>
    obtain ⟨h0, h1⟩ := h
    obtain ⟨q1, q2, q3⟩ := lenI_in h0
    exact va_iald hx hb hKx.1 hP a 1 ((wo_at G σ q2).trans (congrArg (fun z => some (G.2.1 a, z)) (cel_I q1))) rfl (by rw [← q3]; exact h0) hd (hK _ _ _ h1 p e s m args below meth c H locs ls C hP hS hl)
  · exact h.elim
def zt_baload : Tr := fun _ _ _ K _ lv st σ => match st with | .int i :: .ref a :: st => vp_in i (lenB a) ∧ K none lv (.int (σ.1 a i.toNatClampNeg) :: st) σ | _ => False
theorem ze_baload (hd : decode M.2.1 pc = .ok (.baload, 1)) : Ent M (pc, pc + 1, zt_baload) := by
  intro l G d K Q lv st σ hK hJ h p e s m args below meth c H locs ls C hP hS hl
  obtain ⟨hx, hb, hr, hml, hown, hts, hlocks, hKx⟩ := id C
  unfold zt_baload at h
  dsimp only at h
  split at h
  · next i a st =>
    obtain ⟨h0, h1⟩ := h
    obtain ⟨q1, q2, q3⟩ := lenB_in h0
    exact va_bald hx hb hKx.1 hP a 0 ((wo_at G σ q2).trans (congrArg (fun z => some (G.2.1 a, z)) (cel_B q1))) rfl (by rw [← q3]; exact h0) hd (hK _ _ _ h1 p e s m args below meth c H locs ls C hP hS hl)
  · exact h.elim
def zt_laload : Tr := fun _ _ _ K _ lv st σ => match st with | .int i :: .ref a :: st => vp_in i (lenJ a) ∧ K none lv (.long (σ.2 a i.toNatClampNeg) :: st) σ | _ => False
theorem ze_laload (hd : decode M.2.1 pc = .ok (.laload, 1)) : Ent M (pc, pc + 1, zt_laload) := by
  intro l G d K Q lv st σ hK hJ h p e s m args below meth c H locs ls C hP hS hl
  obtain ⟨hx, hb, hr, hml, hown, hts, hlocks, hKx⟩ := id C
  unfold zt_laload at h
  dsimp only at h
  split at h
  · next i a st =>
    obtain ⟨h0, h1⟩ := h
    obtain ⟨q1, q2, q3⟩ := lenJ_in h0
    exact va_lald hx hb hKx.1 hP a 2 ((wo_at G σ q2).trans (congrArg (fun z => some (G.2.1 a, z)) (cel_J q1))) rfl (by rw [← q3]; exact h0) hd (hK _ _ _ h1 p e s m args below meth c H locs ls C hP hS hl)
  · exact h.elim
def zt_iastore : Tr := fun _ _ _ K _ lv st σ => match st with | .int v :: .int i :: .ref a :: st => vp_in i (lenI a) ∧ K none lv st (uI σ a i.toNatClampNeg v) | _ => False
theorem ze_iastore (hd : decode M.2.1 pc = .ok (.iastore, 1)) : Ent M (pc, pc + 1, zt_iastore) := by
  intro l G d K Q lv st σ hK hJ h p e s m args below meth c H locs ls C hP hS hl
  obtain ⟨hx, hb, hr, hml, hown, hts, hlocks, hKx⟩ := id C
  unfold zt_iastore at h
  dsimp only at h
  split at h
  · next v i a st =>
    obtain ⟨h0, h1⟩ := h
    obtain ⟨q1, q2, q3⟩ := lenI_in h0
    refine va_iast hx hb hKx.1 hP (wo_D hKx σ) hS a 1 ((wo_at G σ q2).trans (congrArg (fun z => some (G.2.1 a, z)) (cel_I q1))) rfl (by rw [← q3]; exact h0) hd (fun H1 locs1 hP1 _ hS1 => ?_)
    rw [wo_set (σ' := uI σ a i.toNatClampNeg v) (by rw [cel_I q1]; simp [uI]) (fun b hb => by simp [uI, hb]) (fun b hb => by simp [uI, hb])] at hP1
    exact hK _ _ _ h1 p e s m args below meth c H1 locs1 ls C hP1 hS1 hl
  · exact h.elim
def zt_bastore : Tr := fun _ _ _ K _ lv st σ => match st with | .int v :: .int i :: .ref a :: st => vp_in i (lenB a) ∧ K none lv st (uI σ a i.toNatClampNeg (v.toInt8.toInt32)) | _ => False
theorem ze_bastore (hd : decode M.2.1 pc = .ok (.bastore, 1)) : Ent M (pc, pc + 1, zt_bastore) := by
  intro l G d K Q lv st σ hK hJ h p e s m args below meth c H locs ls C hP hS hl
  obtain ⟨hx, hb, hr, hml, hown, hts, hlocks, hKx⟩ := id C
  unfold zt_bastore at h
  dsimp only at h
  split at h
  · next v i a st =>
    obtain ⟨h0, h1⟩ := h
    obtain ⟨q1, q2, q3⟩ := lenB_in h0
    refine va_bast hx hb hKx.1 hP (wo_D hKx σ) hS a 0 ((wo_at G σ q2).trans (congrArg (fun z => some (G.2.1 a, z)) (cel_B q1))) rfl (by rw [← q3]; exact h0) hd (fun H1 locs1 hP1 _ hS1 => ?_)
    rw [vp_nar_byte] at hP1
    rw [wo_set (σ' := uI σ a i.toNatClampNeg (v.toInt8.toInt32)) (by rw [cel_B q1]; simp [uI]) (fun b hb => by simp [uI, hb]) (fun b hb => by simp [uI, hb])] at hP1
    exact hK _ _ _ h1 p e s m args below meth c H1 locs1 ls C hP1 hS1 hl
  · exact h.elim
def zt_lastore : Tr := fun _ _ _ K _ lv st σ => match st with | .long v :: .int i :: .ref a :: st => vp_in i (lenJ a) ∧ K none lv st (uJ σ a i.toNatClampNeg v) | _ => False
theorem ze_lastore (hd : decode M.2.1 pc = .ok (.lastore, 1)) : Ent M (pc, pc + 1, zt_lastore) := by
  intro l G d K Q lv st σ hK hJ h p e s m args below meth c H locs ls C hP hS hl
  obtain ⟨hx, hb, hr, hml, hown, hts, hlocks, hKx⟩ := id C
  unfold zt_lastore at h
  dsimp only at h
  split at h
  · next v i a st =>
    obtain ⟨h0, h1⟩ := h
    obtain ⟨q1, q2, q3⟩ := lenJ_in h0
    refine va_last hx hb hKx.1 hP (wo_D hKx σ) hS a 2 ((wo_at G σ q2).trans (congrArg (fun z => some (G.2.1 a, z)) (cel_J q1))) rfl (by rw [← q3]; exact h0) hd (fun H1 locs1 hP1 _ hS1 => ?_)
    rw [wo_set (σ' := uJ σ a i.toNatClampNeg v) (by rw [cel_J q1]; simp [uJ]) (fun b hb => by simp [uJ, hb]) (fun b hb => by simp [uJ, hb])] at hP1
    exact hK _ _ _ h1 p e s m args below meth c H1 locs1 ls C hP1 hS1 hl
  · exact h.elim
theorem cel_Q {G : GT} {σ : Mm} {a : Nat} (h : (sh a).1 = 3 ∨ (sh a).1 = 4) : cel G σ a = .inl (G.2.2.1 (sh a).1, (sh a).2.1, .inr (.inr (.inr (.inr (fun i => some (G.2.1 (refA a i))))))) := by
  rcases h with h | h <;> simp [cel, h, refA]
def zt_aaload : Tr := fun _ _ _ K _ lv st σ => match st with | .int i :: .ref a :: st => vp_in i (lenQ a) ∧ K none lv (.ref (refA a i.toNatClampNeg) :: st) σ | _ => False
theorem ze_aaload (hd : decode M.2.1 pc = .ok (.aaload, 1)) : Ent M (pc, pc + 1, zt_aaload) := by
  intro l G d K Q lv st σ hK hJ h p e s m args below meth c H locs ls C hP hS hl
  obtain ⟨hx, hb, hr, hml, hown, hts, hlocks, hKx⟩ := id C
  unfold zt_aaload at h
  dsimp only at h
  split at h
  · next i a st =>
    obtain ⟨h0, h1⟩ := h
    obtain ⟨q1, q2, q3⟩ := lenQ_in h0
    have hin : vp_in i (sh a).2.1 := by rw [← q3]; exact h0
    have hlt : i.toNatClampNeg < (sh a).2.1 := Nat.not_le.mp fun q => hin (Or.inr q)
    have hc : H[G.2.1 a]? = some (vp_cell (G.2.2.1 (sh a).1) ((sh a).2.1, .inr (.inr (.inr (.inr (fun i => some (G.2.1 (refA a i)))))))) := by
      have := hP a _ (wo_at G σ q2)
      rw [cel_Q q1] at this
      exact this
    have hk := hK _ _ _ h1 p e s m args below meth c H locs ls C hP hS hl
    rcases q1 with q1 | q1
    · rw [q1] at hc
      exact W.aald (v := .ref (G.2.1 (refA a i.toNatClampNeg))) (ty := .object "RefundDesk$Table") hx hb hc ((hKx.1.2 3 _ rfl).1 _ _) rfl (fun q => by cases q) (by show ¬ (i < 0 ∨ (arrV _ _ _).slots.size ≤ _); rw [arrV_size]; exact hin) (by show (arrV _ _ _).slots[_]? = _; rw [arrV_read _ _ hlt]; rfl) rfl rfl hd hk
    · rw [q1] at hc
      exact W.aald (v := .ref (G.2.1 (refA a i.toNatClampNeg))) (ty := .array .int) hx hb hc ((hKx.1.2 4 _ rfl).1 _ _) rfl (fun q => by cases q) (by show ¬ (i < 0 ∨ (arrV _ _ _).slots.size ≤ _); rw [arrV_size]; exact hin) (by show (arrV _ _ _).slots[_]? = _; rw [arrV_read _ _ hlt]; rfl) rfl rfl hd hk
  · exact h.elim
end Ops
end
section
-- fields, returns, switches, calls
theorem sh_out {a : Nat} (h : NN ≤ a) : (sh a).1 = 2 := by
  have h2 : 123 ≤ a := h
  unfold sh
  rw [if_neg (show ¬ a < 61 by omega), if_neg (show ¬ a < 92 by omega), if_neg (show ¬ a < 107 by omega), if_neg (show ¬ a < 115 by omega), if_neg (show ¬ a < 119 by omega), if_neg (show ¬ a < 121 by omega), if_neg (show ¬ a < 122 by omega)]
theorem sh_obj {a c : Nat} (h : (sh a).1 = 10 + c) : a < NN := by
  rcases Nat.lt_or_ge a NN with q | q
  · exact q
  · rw [sh_out q] at h; omega
theorem sh_N : ∀ a, a < NN → (sh a).1 < 10 ∨ (vwCl[(sh a).1 - 10]?).map (fun q => q.2.2) = some (sh a).2.1 := by decide +kernel
theorem sh_len {a c : Nat} {C : String} {T : u_T} {N : Nat} (h : (sh a).1 = 10 + c) (hc : vwCl[c]? = some (C, T, N)) : (sh a).2.1 = N := by
  rcases sh_N a (sh_obj h) with q | q
  · omega
  · rw [h, show 10 + c - 10 = c by omega, hc] at q
    exact (Option.some.inj q).symm
section Flds
variable {M : Me} {pc : Nat}
/-- a field's link: class number, place -/
def Fl (own : String) (idx ci k : Nat) : Prop := ∃ (C : String) (T : u_T) (N : Nat) (ty0 : Nat → FieldType), vwCl[ci]? = some (C, T, N) ∧ (∀ w ∈ u_ws C T N, w ∈ gW) ∧ k < N ∧ Cond.fieldLink own idx (T k).1 (T k).2.1 (T k).2.2.1 ∈ gW ∧ (∀ k, k < N → parseFieldDescriptor (T k).2.2.1 = some (ty0 k)) ∧ (∀ a, a < N → ∀ b, b < N → a ≠ b → (T a).2.1 ≠ (T b).2.1)
/-- .. of a field that may be written, of this type -/
def Fw (ci k : Nat) (ty : FieldType) : Prop := ∃ (C : String) (T : u_T) (N : Nat), vwCl[ci]? = some (C, T, N) ∧ (T k).2.2.2 = false ∧ parseFieldDescriptor (T k).2.2.1 = some ty

def zt_getI (cn k : Nat) : Tr := fun _ _ _ K _ lv st σ => match st with | .ref a :: st => if (sh a).1 = cn ∧ refA a k = 0 then K none lv (.int (σ.1 a k) :: st) σ else False | _ => False
theorem ze_getI {idx ci k cn : Nat} (hd : decode M.2.1 pc = .ok (.getfield idx, 3)) (hF : Fl M.2.2.2.2 idx ci k) (hcn : 10 + ci = cn) : Ent M (pc, pc + 3, zt_getI cn k) := by
  intro l G d K Q lv st σ hK hJ h p e s m args below meth c H locs ls C hP hS hl
  obtain ⟨hx, hb, hr, hml, hown, hts, hlocks, hKx⟩ := id C
  subst hcn
  unfold zt_getI at h
  dsimp only at h
  split at h
  · next a st =>
    split at h
    · next hc =>
      obtain ⟨Cn, T, N, ty0, f1, f2, f3, f4, f5, f6⟩ := hF
      have hk : k < (sh a).2.1 := by rw [sh_len hc.1 f1]; exact f3
      have hf : fv G σ a k = .int (σ.1 a k) := by unfold fv; rw [if_pos (show (sh a).2.2.getD k 0 = 0 from hc.2)]
      refine va_get hx hb hts f2 hown hKx.1 hP a ((wo_at G σ (sh_obj hc.1)).trans (congrArg (fun z => some (G.2.1 a, z)) (cel_O hc.1))) f1 k f3 (hts _ f4) (fun _ z => z) (v := .int (σ.1 a k)) (by rw [List.getElem?_map, List.getElem?_range hk, Option.map_some, hf]) hd (hK _ _ _ h p e s m args below meth c H locs ls C hP hS hl)
    · exact h.elim
  · exact h.elim
def zt_getJ (cn k : Nat) : Tr := fun _ _ _ K _ lv st σ => match st with | .ref a :: st => if (sh a).1 = cn ∧ refA a k = 1 then K none lv (.long (σ.2 a k) :: st) σ else False | _ => False
theorem ze_getJ {idx ci k cn : Nat} (hd : decode M.2.1 pc = .ok (.getfield idx, 3)) (hF : Fl M.2.2.2.2 idx ci k) (hcn : 10 + ci = cn) : Ent M (pc, pc + 3, zt_getJ cn k) := by
  intro l G d K Q lv st σ hK hJ h p e s m args below meth c H locs ls C hP hS hl
  obtain ⟨hx, hb, hr, hml, hown, hts, hlocks, hKx⟩ := id C
  subst hcn
  unfold zt_getJ at h
  dsimp only at h
  split at h
  · next a st =>
    split at h
    · next hc =>
      obtain ⟨Cn, T, N, ty0, f1, f2, f3, f4, f5, f6⟩ := hF
      have hk : k < (sh a).2.1 := by rw [sh_len hc.1 f1]; exact f3
      have hf : fv G σ a k = .long (σ.2 a k) := by unfold fv; rw [if_neg (by rw [show (sh a).2.2.getD k 0 = 1 from hc.2]; decide), if_pos (show (sh a).2.2.getD k 0 = 1 from hc.2)]
      refine va_get hx hb hts f2 hown hKx.1 hP a ((wo_at G σ (sh_obj hc.1)).trans (congrArg (fun z => some (G.2.1 a, z)) (cel_O hc.1))) f1 k f3 (hts _ f4) (fun _ z => z) (v := .long (σ.2 a k)) (by rw [List.getElem?_map, List.getElem?_range hk, Option.map_some, hf]) hd (hK _ _ _ h p e s m args below meth c H locs ls C hP hS hl)
    · exact h.elim
  · exact h.elim
def zt_getR (cn k : Nat) : Tr := fun _ _ _ K _ lv st σ => match st with | .ref a :: st => if (sh a).1 = cn ∧ 2 ≤ refA a k then K none lv (.ref (refA a k - 2) :: st) σ else False | _ => False
theorem ze_getR {idx ci k cn : Nat} (hd : decode M.2.1 pc = .ok (.getfield idx, 3)) (hF : Fl M.2.2.2.2 idx ci k) (hcn : 10 + ci = cn) : Ent M (pc, pc + 3, zt_getR cn k) := by
  intro l G d K Q lv st σ hK hJ h p e s m args below meth c H locs ls C hP hS hl
  obtain ⟨hx, hb, hr, hml, hown, hts, hlocks, hKx⟩ := id C
  subst hcn
  unfold zt_getR at h
  dsimp only at h
  split at h
  · next a st =>
    split at h
    · next hc =>
      obtain ⟨Cn, T, N, ty0, f1, f2, f3, f4, f5, f6⟩ := hF
      have hk : k < (sh a).2.1 := by rw [sh_len hc.1 f1]; exact f3
      have hf : fv G σ a k = .ref (G.2.1 (refA a k - 2)) := by have hz : 2 ≤ (sh a).2.2.getD k 0 := hc.2; simp only [fv, refA]; rw [if_neg (by omega), if_neg (by omega)]
      refine va_get hx hb hts f2 hown hKx.1 hP a ((wo_at G σ (sh_obj hc.1)).trans (congrArg (fun z => some (G.2.1 a, z)) (cel_O hc.1))) f1 k f3 (hts _ f4) (fun _ z => z) (v := .ref (G.2.1 (refA a k - 2))) (by rw [List.getElem?_map, List.getElem?_range hk, Option.map_some, hf]) hd (hK _ _ _ h p e s m args below meth c H locs ls C hP hS hl)
    · exact h.elim
  · exact h.elim
def zt_putI (cn k : Nat) : Tr := fun _ _ _ K _ lv st σ => match st with | .int v :: .ref a :: st => if (sh a).1 = cn ∧ refA a k = 0 then K none lv st (uI σ a k v) else False | _ => False
theorem ze_putI {idx ci k cn : Nat} (hd : decode M.2.1 pc = .ok (.putfield idx, 3)) (hF : Fl M.2.2.2.2 idx ci k) (hW : Fw ci k .int) (hcn : 10 + ci = cn) : Ent M (pc, pc + 3, zt_putI cn k) := by
  intro l G d K Q lv st σ hK hJ h p e s m args below meth c H locs ls C hP hS hl
  obtain ⟨hx, hb, hr, hml, hown, hts, hlocks, hKx⟩ := id C
  subst hcn
  unfold zt_putI at h
  dsimp only at h
  split at h
  · next v a st =>
    split at h
    · next hc =>
      obtain ⟨Cn, T, N, ty0, f1, f2, f3, f4, f5, f6⟩ := hF
      obtain ⟨Cn', T', N', g1, g2, g3⟩ := hW
      cases f1.symm.trans g1
      have hk : k < (sh a).2.1 := by rw [sh_len hc.1 f1]; exact f3
      have hz : (sh a).2.2.getD k 0 = 0 := hc.2
      refine va_put hx hb hts f2 ty0 f5 f6 hown hKx.1 hP (wo_D hKx σ) hS a ((wo_at G σ (sh_obj hc.1)).trans (congrArg (fun z => some (G.2.1 a, z)) (cel_O hc.1))) f1 k f3 (hts _ f4) (fun _ z => z) g2 (v := .int v) g3 (rfl) (rfl) (by simpa using hk) hd (fun H1 locs1 hP1 _ hS1 => ?_)
      rw [mr_set (g := fv G (uI σ a k v) a) (by unfold fv; rw [hz]; simp [uI, upd]) (fun j hj => by unfold fv; simp [uI, upd, hj])] at hP1
      rw [wo_set (σ' := uI σ a k v) (cel_O hc.1) (fun b hb => by simp [uI, hb]) (fun b hb => by simp [uI, hb])] at hP1
      exact hK _ _ _ h p e s m args below meth c H1 locs1 ls C hP1 hS1 hl
    · exact h.elim
  · exact h.elim
def zt_putZ (cn k : Nat) : Tr := fun _ _ _ K _ lv st σ => match st with | .int v :: .ref a :: st => if (sh a).1 = cn ∧ refA a k = 0 then (v = 0 ∨ v = 1) ∧ K none lv st (uI σ a k v) else False | _ => False
theorem ze_putZ {idx ci k cn : Nat} (hd : decode M.2.1 pc = .ok (.putfield idx, 3)) (hF : Fl M.2.2.2.2 idx ci k) (hW : Fw ci k .boolean) (hcn : 10 + ci = cn) : Ent M (pc, pc + 3, zt_putZ cn k) := by
  intro l G d K Q lv st σ hK hJ h p e s m args below meth c H locs ls C hP hS hl
  obtain ⟨hx, hb, hr, hml, hown, hts, hlocks, hKx⟩ := id C
  subst hcn
  unfold zt_putZ at h
  dsimp only at h
  split at h
  · next v a st =>
    split at h
    · next hc =>
      obtain ⟨Cn, T, N, ty0, f1, f2, f3, f4, f5, f6⟩ := hF
      obtain ⟨Cn', T', N', g1, g2, g3⟩ := hW
      cases f1.symm.trans g1
      have hk : k < (sh a).2.1 := by rw [sh_len hc.1 f1]; exact f3
      have hz : (sh a).2.2.getD k 0 = 0 := hc.2
      refine va_put hx hb hts f2 ty0 f5 f6 hown hKx.1 hP (wo_D hKx σ) hS a ((wo_at G σ (sh_obj hc.1)).trans (congrArg (fun z => some (G.2.1 a, z)) (cel_O hc.1))) f1 k f3 (hts _ f4) (fun _ z => z) g2 (v := .int v) g3 (by rcases h.1 with q | q <;> subst q <;> rfl) (by rcases h.1 with q | q <;> subst q <;> rfl) (by simpa using hk) hd (fun H1 locs1 hP1 _ hS1 => ?_)
      rw [mr_set (g := fv G (uI σ a k v) a) (by unfold fv; rw [hz]; simp [uI, upd]) (fun j hj => by unfold fv; simp [uI, upd, hj])] at hP1
      rw [wo_set (σ' := uI σ a k v) (cel_O hc.1) (fun b hb => by simp [uI, hb]) (fun b hb => by simp [uI, hb])] at hP1
      exact hK _ _ _ h.2 p e s m args below meth c H1 locs1 ls C hP1 hS1 hl
    · exact h.elim
  · exact h.elim
def zt_putJ (cn k : Nat) : Tr := fun _ _ _ K _ lv st σ => match st with | .long v :: .ref a :: st => if (sh a).1 = cn ∧ refA a k = 1 then K none lv st (uJ σ a k v) else False | _ => False
theorem ze_putJ {idx ci k cn : Nat} (hd : decode M.2.1 pc = .ok (.putfield idx, 3)) (hF : Fl M.2.2.2.2 idx ci k) (hW : Fw ci k .long) (hcn : 10 + ci = cn) : Ent M (pc, pc + 3, zt_putJ cn k) := by
  intro l G d K Q lv st σ hK hJ h p e s m args below meth c H locs ls C hP hS hl
  obtain ⟨hx, hb, hr, hml, hown, hts, hlocks, hKx⟩ := id C
  subst hcn
  unfold zt_putJ at h
  dsimp only at h
  split at h
  · next v a st =>
    split at h
    · next hc =>
      obtain ⟨Cn, T, N, ty0, f1, f2, f3, f4, f5, f6⟩ := hF
      obtain ⟨Cn', T', N', g1, g2, g3⟩ := hW
      cases f1.symm.trans g1
      have hk : k < (sh a).2.1 := by rw [sh_len hc.1 f1]; exact f3
      have hz : (sh a).2.2.getD k 0 = 1 := hc.2
      refine va_put hx hb hts f2 ty0 f5 f6 hown hKx.1 hP (wo_D hKx σ) hS a ((wo_at G σ (sh_obj hc.1)).trans (congrArg (fun z => some (G.2.1 a, z)) (cel_O hc.1))) f1 k f3 (hts _ f4) (fun _ z => z) g2 (v := .long v) g3 (rfl) (rfl) (by simpa using hk) hd (fun H1 locs1 hP1 _ hS1 => ?_)
      rw [mr_set (g := fv G (uJ σ a k v) a) (by unfold fv; rw [hz]; simp [uJ, vp_updL]) (fun j hj => by unfold fv; simp [uJ, vp_updL, hj])] at hP1
      rw [wo_set (σ' := uJ σ a k v) (cel_O hc.1) (fun b hb => by simp [uJ, hb]) (fun b hb => by simp [uJ, hb])] at hP1
      exact hK _ _ _ h p e s m args below meth c H1 locs1 ls C hP1 hS1 hl
    · exact h.elim
  · exact h.elim
def zt_iret : Tr := fun _ _ _ _ Q _ st σ => match st with | [.int v] => Q (some (.int v)) σ | _ => False
theorem ze_iret {n : Nat} (hd : decode M.2.1 pc = .ok (.ireturn, 1)) (hM : M.2.2.2.1 = some .int) : Ent M (pc, n, zt_iret) := by
  intro l G d K Q lv st σ hK hJ h p e s m args below meth c H locs ls C hP hS hl
  obtain ⟨hx, hb, hr, hml, hown, hts, hlocks, hKx⟩ := id C
  unfold zt_iret at h
  dsimp only at h
  split at h
  · next v => exact W.iret hx hb (hr.trans hM) (fun t ht _ => ⟨⟨some (.int v), σ, rfl, h, by rw [ht]; exact hP⟩, hS.F ht⟩) hS.2.2 hd hlocks
  · exact h.elim
def zt_zret : Tr := fun _ _ _ _ Q _ st σ => match st with | [.int v] => (v = 0 ∨ v = 1) ∧ Q (some (.int v)) σ | _ => False
theorem ze_zret {n : Nat} (hd : decode M.2.1 pc = .ok (.ireturn, 1)) (hM : M.2.2.2.1 = some .boolean) : Ent M (pc, n, zt_zret) := by
  intro l G d K Q lv st σ hK hJ h p e s m args below meth c H locs ls C hP hS hl
  obtain ⟨hx, hb, hr, hml, hown, hts, hlocks, hKx⟩ := id C
  unfold zt_zret at h
  dsimp only at h
  split at h
  · next v => exact W.zret hx hb (hr.trans hM) (by rcases h.1 with q | q <;> subst q <;> rfl) (fun t ht _ => ⟨⟨some (.int v), σ, rfl, h.2, by rw [ht]; exact hP⟩, hS.F ht⟩) hS.2.2 hd hlocks
  · exact h.elim
def zt_lret : Tr := fun _ _ _ _ Q _ st σ => match st with | [.long v] => Q (some (.long v)) σ | _ => False
theorem ze_lret {n : Nat} (hd : decode M.2.1 pc = .ok (.lreturn, 1)) (hM : M.2.2.2.1 = some .long) : Ent M (pc, n, zt_lret) := by
  intro l G d K Q lv st σ hK hJ h p e s m args below meth c H locs ls C hP hS hl
  obtain ⟨hx, hb, hr, hml, hown, hts, hlocks, hKx⟩ := id C
  unfold zt_lret at h
  dsimp only at h
  split at h
  · next v => exact W.lret hx hb (hr.trans hM) (fun t ht _ => ⟨⟨some (.long v), σ, rfl, h, by rw [ht]; exact hP⟩, hS.F ht⟩) hS.2.2 hd hlocks
  · exact h.elim
def zt_aret : Tr := fun _ _ _ _ Q _ st σ => match st with | [.ref v] => Q (some (.ref v)) σ | _ => False
theorem ze_aret {n : Nat} {cs : String} (hd : decode M.2.1 pc = .ok (.areturn, 1)) (hM : M.2.2.2.1 = some (.object cs)) : Ent M (pc, n, zt_aret) := by
  intro l G d K Q lv st σ hK hJ h p e s m args below meth c H locs ls C hP hS hl
  obtain ⟨hx, hb, hr, hml, hown, hts, hlocks, hKx⟩ := id C
  unfold zt_aret at h
  dsimp only at h
  split at h
  · next v => exact W.aret hx hb (hr.trans hM) (Or.inl ⟨cs, rfl⟩) (Or.inr ⟨_, rfl⟩) (fun t ht _ => ⟨⟨some (.ref v), σ, rfl, h, by rw [ht]; exact hP⟩, hS.F ht⟩) hS.2.2 hd hlocks
  · exact h.elim
def zt_vret : Tr := fun _ _ _ _ Q _ st σ => match st with | [] => Q none σ | _ => False
theorem ze_vret {n : Nat} (hd : decode M.2.1 pc = .ok (.return_, 1)) (hM : M.2.2.2.1 = none) : Ent M (pc, n, zt_vret) := by
  intro l G d K Q lv st σ hK hJ h p e s m args below meth c H locs ls C hP hS hl
  obtain ⟨hx, hb, hr, hml, hown, hts, hlocks, hKx⟩ := id C
  unfold zt_vret at h
  dsimp only at h
  split at h
  · exact W.vret hx hb (hr.trans hM) (fun t ht _ => ⟨⟨none, σ, rfl, h, by rw [ht]; exact hP⟩, hS.F ht⟩) hS.2.2 hd hlocks
  · exact h.elim
/-- a switch by a table: low, the targets, what else -/
def swA (K : Ko) (lv : Lv) (st : List Value) (σ : Mm) (x : Int32) : Int → List Nat → Prop
  | _, [] => True
  | lo, t :: ts => (x.toInt = lo → K (some t) lv st σ) ∧ swA K lv st σ x (lo + 1) ts
theorem swA_at {K : Ko} {lv : Lv} {st : List Value} {σ : Mm} {x : Int32} : ∀ (ts : List Nat) (lo : Int) (k t : Nat), swA K lv st σ x lo ts → ts[k]? = some t → x.toInt = lo + k → K (some t) lv st σ
  | [], _, k, t, _, h, _ => by simp at h
  | t0 :: ts, lo, 0, t, h, h1, h2 => by
    simp at h1
    subst h1
    exact h.1 (by simpa using h2)
  | t0 :: ts, lo, k + 1, t, h, h1, h2 => by
    refine swA_at ts (lo + 1) k t h.2 (by simpa using h1) ?_
    rw [h2]; push_cast; omega
def zt_tsw (lo hi : Int) (ts : List Nat) (df : Nat) : Tr := fun _ _ _ K _ lv st σ => match st with | .int x :: st => swA K lv st σ x lo ts ∧ ((x.toInt < lo ∨ hi < x.toInt) → K (some df) lv st σ) | _ => False
theorem ze_tsw {df0 lo hi : Int} {offs : Array Int} {len n df : Nat} {ts : List Nat} (hd : decode M.2.1 pc = .ok (.tableswitch df0 lo hi offs, len)) (hdf : (pc : Int) + df0 = (df : Int)) (hts0 : offs.toList.map (fun o => (pc : Int) + o) = ts.map (fun (t : Nat) => (t : Int))) (hle : (ts.length : Int) = hi - lo + 1) : Ent M (pc, n, zt_tsw lo hi ts df) := by
  intro l G d K Q lv st σ hK hJ h p e s m args below meth c H locs ls C hP hS hl
  obtain ⟨hx, hb, hr, hml, hown, hts, hlocks, hKx⟩ := id C
  unfold zt_tsw at h
  dsimp only at h
  split at h
  · next x st =>
    by_cases hq : x.toInt < lo ∨ hi < x.toInt
    · exact lv_tableOut hx hb hd hq hdf (hJ _ _ _ _ (h.2 hq) p e s m args below meth c H locs ls C hP hS hl)
    · have h1 : ¬ x.toInt < lo := fun z => hq (Or.inl z)
      have h2 : ¬ hi < x.toInt := fun z => hq (Or.inr z)
      have hlt : (x.toInt - lo).toNat < ts.length := by omega
      have hlo : offs.toList.length = ts.length := by simpa using congrArg List.length hts0
      have hlt2 : (x.toInt - lo).toNat < offs.toList.length := by rw [hlo]; exact hlt
      have he : (pc : Int) + offs.toList[(x.toInt - lo).toNat] = (ts[(x.toInt - lo).toNat] : Int) := by
        have := congrArg (fun z => z[(x.toInt - lo).toNat]?) hts0
        simp only [List.getElem?_map, List.getElem?_eq_getElem hlt, List.getElem?_eq_getElem hlt2, Option.map_some] at this
        exact Option.some.inj this
      refine lv_tableIn hx hb hd h1 h2 (off := offs.toList[(x.toInt - lo).toNat]) (by rw [← Array.getElem?_toList]; exact List.getElem?_eq_getElem hlt2) he ?_
      exact hJ _ _ _ _ (swA_at ts lo (x.toInt - lo).toNat _ h.1 (List.getElem?_eq_getElem hlt) (by omega)) p e s m args below meth c H locs ls C hP hS hl
  · exact h.elim
end Flds
end
section
-- calls
def catS (st : List Value) : Nat := (st.map fun v => v.category).sum
theorem catS_tv (G : GT) (st : List Value) : ((st.map (tv G)).map fun v => v.category).sum = catS st := by
  unfold catS
  rw [List.map_map]
  congr 1
  apply List.map_congr_left
  intro v _
  exact tv_cat G v
theorem gW_good {w : Cond} (h : w ∈ gW) : (w.onTables && w.keeps) = true ∨ ∃ ty, w = .arrayClass ty := good_of_word (List.mem_filter.mp h).2
/-- what the tables say of a method that is called -/
def MeC (M' : Me) : Prop := Cond.code M'.1 M'.2.1 M'.2.2.1 M'.2.2.2.1 ∈ gW ∧ Cond.initialized M'.1.cls ∈ gW ∧ (M'.1.cls ≠ "java/lang/invoke/MethodHandle" ∧ M'.1.cls ≠ "java/lang/invoke/VarHandle") ∧ M'.2.2.1 ≤ 60 ∧ plainName M'.1.cls = true
def MeN (M' : Me) (n : Nat) : Prop := (parseMethodDescriptor M'.1.desc).map (fun d => d.parameters.length) = some n
def MeS (M' : Me) (n : Nat) : Prop := MeC M' ∧ MeN M' n ∧ Cond.static M'.1 ∈ gW
def MeV (M' : Me) (n ci : Nat) : Prop := MeC M' ∧ MeN M' n ∧ Cond.instanceMethod M'.1 ∈ gW ∧ Cond.selects M'.1.cls M'.1 M'.1 ∈ gW ∧ (vwCl[ci]?).map (fun q => q.1) = some M'.1.cls
theorem ws_in {M' : Me} (h : MeC M') : ∀ w ∈ wsM M', w ∈ gW ∧ ((w.onTables && w.keeps) = true ∨ ∃ ty, w = .arrayClass ty) := by
  intro w hw
  have hm : w ∈ gW := by
    rcases List.mem_cons.mp hw with e | e
    · rw [e]; exact h.1
    · exact e
  exact ⟨hm, gW_good hm⟩
theorem blind_Pcx (G : GT) (av : List Value) (σ : Mm) : FrameBlind (Pcx G av σ) := fun a U g mk q => ⟨q.1, q.2.1, Kx.moved (U := U) (U' := U.calling g mk a) q.2.2 (State.WarmedH.refl U) (Nat.le_refl _) (fun _ _ _ => rfl)⟩
section Cal
variable {M : Me} {pc : Nat}
theorem cal_back {l : Launch} {G : GT} {d : Nat} {M' : Me} {av : List Value} {σ : Mm} {Q' : Po} {p : Program} {e : Env} {s : State} {args : Array Value} {below : List Frame} (hc : MeC M') (hts : ∀ w ∈ gW, w.before args s = true) (h : MW l G d M' av σ Q') : Back l (rmD (d + 1)) p e below s args M'.1 3 24 (PreOf (rmD (d + 1)) 0 0 (Pcx G av σ)) (PostOf (Qcx G Q') 0 0 (aX G)) :=
  back_of (bytes := M'.2.1) (maxL := M'.2.2.1) (ret := M'.2.2.2.1) h (blind_Pcx G av σ) rfl rfl (Nat.le_refl _) (by
    have := hc.2.2.2.1
    show 24 + (M'.2.2.1 + 11) + 96 * d ≤ 96 * (d + 1)
    omega) (pay_in hts (ws_in hc)) List.mem_cons_self (fun a' U hW => word_at hW (gW_good hc.2.1) (hts _ hc.2.1))
theorem cal_pre {l : Launch} {G : GT} {d : Nat} {av : List Value} {σ : Mm} {s : State} {H : Heap} {locs : List Loc} {T : State} (hT : T.heap = H) (hP : va_P G.1 vwCl (wo G σ) H) (hS : va_S (aX G) s.heap H locs) (hKx : Kx G s) (vm1 : Vm) (hW : s.WarmedH vm1) : PreOf (rmD (d + 1)) 0 0 (Pcx G av σ) ⟨T.setVm vm1, locs, 0, 0⟩ (av.map (tv G)).toArray := by
  refine ⟨Nat.le_refl _, Nat.le_refl _, rfl, ?_, ?_⟩
  · show va_P G.1 vwCl (wo G σ) T.heap
    rw [hT]; exact hP
  · refine Kx.moved (U := s) (U' := T.setVm vm1) hKx hW ?_ ?_
    · show s.heap.size ≤ T.heap.size
      rw [hT]; exact hS.1
    · intro q h1 h2
      show T.heap[q]? = _
      rw [hT]; exact hS.2.1 q h1 h2
theorem cal_S {G : GT} {s st0 t : State} {H : Heap} {locs L : List Loc} (hS : va_S (aX G) s.heap H locs) (h0 : st0.heap = H) (hF : va_F (aX G) st0 t) (hL : ∀ q ∈ L, aX G q.base) : va_S (aX G) s.heap t.heap (locs ++ L) := by
  obtain ⟨hz, hk⟩ := hF
  rw [h0] at hz hk
  refine ⟨Nat.le_trans hS.1 hz, fun q h1 h2 => by rw [hk q (Nat.lt_of_lt_of_le h1 hS.1) h2]; exact hS.2.1 q h1 h2, fun q hq => ?_⟩
  rcases List.mem_append.mp hq with h | h
  · exact hS.2.2 q h
  · exact hL q h
theorem room24 {m : MethodId} {ls : Array Slot} {st : List Value} {G : GT} {rest : List Value} (h : catS rest ≤ 24) : 2 * (F0 m pc ls st).monitorRoom + ((rest.map (tv G)).map fun v => v.category).sum ≤ 24 := by
  rw [catS_tv]
  show 2 * 0 + _ ≤ _
  omega
theorem len_of {M' : Me} {n : Nat} (h : MeN M' n) {xs : List Value} (hx : xs.length = n) : ∀ sig, parseMethodDescriptor M'.1.desc = some sig → xs.length = sig.parameters.length := by
  intro sig hs
  unfold MeN at h
  rw [hs] at h
  rw [hx]
  exact (Option.some.inj h).symm
def zt_callS (M' : Me) (n : Nat) : Tr := fun l G d K _ lv st σ => match d with
  | 0 => False
  | d' + 1 => if n ≤ st.length ∧ catS (st.drop n) ≤ 24 then MW l G d' M' (st.take n).reverse σ (fun r σ' => K none lv (r.toList ++ st.drop n) σ') else False
theorem ze_callS {M' : Me} {n idx : Nat} (hd : decode M.2.1 pc = .ok (.invokestatic idx, 3)) (hk : Cond.methodLink M.2.2.2.2 idx M'.1 ∈ gW) (hm : MeS M' n) : Ent M (pc, pc + 3, zt_callS M' n) := by
  intro l G d K Q lv st σ hK hJ h p e s m args below meth c H locs ls C hP hS hl
  obtain ⟨hx, hb, hr, hml, hown, hts, hlocks, hKx⟩ := id C
  unfold zt_callS at h
  dsimp only at h
  cases d with
  | zero => exact h.elim
  | succ d =>
    dsimp only at h
    split at h
    · next hn =>
      intro T hT X
      have hst : st.map (tv G) = (((st.take n).reverse).map (tv G)).reverse ++ (st.drop n).map (tv G) := by
        rw [← List.map_reverse, List.reverse_reverse, ← List.map_append, List.take_append_drop]
      obtain ⟨v, vm1, ⟨U', l2, c2, s2⟩, hW1, X', ⟨g', mk, t, L, e1, e2, hq, h1, hL, h2, h3⟩, go⟩ := callS X hx (bytes := M'.2.1) (maxL := M'.2.2.1) (ret := M'.2.2.2.1) hown (hts _ hk) (hts _ hm.2.2) (hts _ hm.1.2.1) (hts _ hm.1.1) hm.1.2.2.1 (cal_back hm.1 hts h) (g := F0 m pc ls (st.map (tv G))) rfl (hl.1.trans hml.symm) (argsL := (st.take n).reverse.map (tv G)) (rest := (st.drop n).map (tv G)) (len_of hm.2.1 (by simp; omega)) hst (room24 hn.2) (by rw [hb]; exact hd) (fun vm1 hW1 => cal_pre (l := l) hT hP hS hKx vm1 hW1)
      dsimp only [Pt.U, Pt.locs, Pt.cells, Pt.slots] at X' e1 e2 h1 h2 h3 go
      subst h1; subst h2; subst h3
      obtain ⟨⟨r, σ', hv, hQ, hP'⟩, hF⟩ := hq
      cases hv
      have hgo := hK _ _ _ hQ p e s m args below meth c t.heap (locs ++ L) ls C hP' (cal_S hS (st0 := (T.setVm vm1).calling g' mk _) hT hF hL) hl
      obtain ⟨t2, a1, b1⟩ := hgo U' e1 X'
      refine ⟨t2, go t2 ?_, b1⟩
      have he : (r.map (tv G)).toList ++ (st.drop n).map (tv G) = (r.toList ++ st.drop n).map (tv G) := by cases r <;> simp
      rw [he]
      exact a1
    · exact h.elim
def zt_callV (M' : Me) (n cn : Nat) : Tr := fun l G d K _ lv st σ => match d with
  | 0 => False
  | d' + 1 => match st.drop n with
    | .ref a :: rest => if n ≤ st.length ∧ (sh a).1 = cn ∧ catS rest ≤ 24 then MW l G d' M' (.ref a :: (st.take n).reverse) σ (fun r σ' => K none lv (r.toList ++ rest) σ') else False
    | _ => False
theorem ze_callV {M' : Me} {n idx ci cn : Nat} (hd : decode M.2.1 pc = .ok (.invokevirtual idx, 3)) (hk : Cond.methodLink M.2.2.2.2 idx M'.1 ∈ gW) (hm : MeV M' n ci) (hcn : 10 + ci = cn) : Ent M (pc, pc + 3, zt_callV M' n cn) := by
  intro l G d K Q lv st σ hK hJ h p e s m args below meth c H locs ls C hP hS hl
  obtain ⟨hx, hb, hr, hml, hown, hts, hlocks, hKx⟩ := id C
  subst hcn
  unfold zt_callV at h
  dsimp only at h
  cases d with
  | zero => exact h.elim
  | succ d =>
    dsimp only at h
    split at h
    · next a rest hdr =>
      split at h
      · next hn =>
        intro T hT X
        obtain ⟨Q1, Q2⟩ : ∃ q : vw_C, vwCl[ci]? = some q ∧ q.1 = M'.1.cls := by
          have := hm.2.2.2.2
          cases hz : vwCl[ci]? with
          | none => rw [hz] at this; cases this
          | some q => rw [hz] at this; exact ⟨q, rfl, Option.some.inj this⟩
        obtain ⟨cellB, hcB, hoB, hclB⟩ := va_recv hKx.1 hP Q2.1 ((wo_at G σ (sh_obj hn.2.1)).trans (congrArg (fun z => some (G.2.1 a, z)) (cel_O hn.2.1)))
        rw [Q2.2] at hclB
        have hst : st.map (tv G) = (((st.take n).reverse).map (tv G)).reverse ++ .ref (G.2.1 a) :: rest.map (tv G) := by
          rw [← List.map_reverse, List.reverse_reverse]
          have : st.map (tv G) = (st.take n).map (tv G) ++ (st.drop n).map (tv G) := by rw [← List.map_append, List.take_append_drop]
          rw [this, hdr]; rfl
        obtain ⟨v, vm1, ⟨U', l2, c2, s2⟩, hW1, X', ⟨g', mk, t, L, e1, e2, hq, h1, hL, h2, h3⟩, go⟩ := callV X hx (C := M'.1.cls) (bytes := M'.2.1) (maxL := M'.2.2.1) (ret := M'.2.2.2.1) hown (hts _ hk) (hts _ hm.2.2.1) (hts _ hm.2.2.2.1) (hts _ hm.1.1) hm.1.2.2.1 (cal_back hm.1 hts h) (by rw [hT]; exact hcB) hoB hclB (g := F0 m pc ls (st.map (tv G))) rfl (hl.1.trans hml.symm) (argsL := (st.take n).reverse.map (tv G)) (rest := rest.map (tv G)) (len_of hm.2.1 (by simp; omega)) hst (room24 hn.2.2) (by rw [hb]; exact hd) (fun vm1 hW1 => cal_pre (l := l) hT hP hS hKx vm1 hW1)
        dsimp only [Pt.U, Pt.locs, Pt.cells, Pt.slots] at X' e1 e2 h1 h2 h3 go
        subst h1; subst h2; subst h3
        obtain ⟨⟨r, σ', hv, hQ, hP'⟩, hF⟩ := hq
        cases hv
        have hgo := hK _ _ _ hQ p e s m args below meth c t.heap (locs ++ L) ls C hP' (cal_S hS (st0 := (T.setVm vm1).calling g' mk _) hT hF hL) hl
        obtain ⟨t2, a1, b1⟩ := hgo U' e1 X'
        refine ⟨t2, go t2 ?_, b1⟩
        have he : (r.map (tv G)).toList ++ rest.map (tv G) = (r.toList ++ rest).map (tv G) := by cases r <;> simp
        rw [he]
        exact a1
      · exact h.elim
    · exact h.elim
end Cal
end
section
-- the conditions of a method's body, reckoned instruction by instruction
def pick (lv : Lv) (ks : List Nat) : Lv := ks.filterMap (fun k => (lk lv k).map (fun v => (k, v)))
theorem pick_mem {lv : Lv} {ks : List Nat} {q : Nat × Value} (h : q ∈ pick lv ks) : q ∈ lv := by
  obtain ⟨k, -, hk⟩ := List.mem_filterMap.mp h
  cases hv : lk lv k with
  | none => rw [hv] at hk; cases hk
  | some v => rw [hv] at hk; cases hk; exact lk_mem hv
def cutk : List (Nat × List Nat) → Nat → Option (List Nat)
  | [], _ => none
  | q :: l, pc => if q.1 = pc then some q.2 else cutk l pc
def drp : List In → Nat → List In
  | [], _ => []
  | i :: l, t => if i.1 = t then i :: l else drp l t
theorem drp_mem {T : List In} {t : Nat} {i : In} (h : i ∈ drp T t) : i ∈ T := by
  induction T with
  | nil => cases h
  | cons x l ih =>
    unfold drp at h
    split at h
    · exact h
    · exact List.mem_cons_of_mem _ (ih h)
def vcG (go : List In → Lv → List Value → Mm → Prop) (stop : Nat → Lv → List Value → Mm → Prop) (cs : List (Nat × List Nat)) (is : List In) (pc : Nat) (lv : Lv) (st : List Value) (σ : Mm) : Prop :=
  match cutk cs pc with
  | some ks => stop pc (pick lv ks) st σ
  | none => match is with
    | i :: _ => if i.1 = pc then go is lv st σ else False
    | [] => False
def hdp : List In → Nat
  | [] => 0
  | i :: _ => i.1
/-- from the rows 'is' of the table T on: the conditions under which M returns with Q; at the places of 'cs' they stop, and ask Wp there, of the locals named -/
def vc (l : Launch) (G : GT) (d : Nat) (M : Me) (T : List In) (Q : Po) (cs : List (Nat × List Nat)) : Nat → List In → Lv → List Value → Mm → Prop
  | 0, is, lv, st, σ => Wp l G d M (hdp is) lv st σ Q
  | _ + 1, [], _, _, _ => False
  | n + 1, i :: rest, lv, st, σ => i.2.2 l G d (fun j lv st σ => match j with
      | none => vcG (vc l G d M T Q cs n) (fun pc lv st σ => Wp l G d M pc lv st σ Q) cs rest i.2.1 lv st σ
      | some t => vcG (vc l G d M T Q cs n) (fun pc lv st σ => Wp l G d M pc lv st σ Q) cs (drp T t) t lv st σ) Q lv st σ
theorem vcG_ok {l : Launch} {G : GT} {d : Nat} {M : Me} {Q : Po} {go : List In → Lv → List Value → Mm → Prop} {cs : List (Nat × List Nat)} {is : List In} {pc : Nat} {lv : Lv} {st : List Value} {σ : Mm} (hgo : ∀ lv st σ, go is lv st σ → Wp l G d M (hdp is) lv st σ Q) (h : vcG go (fun pc lv st σ => Wp l G d M pc lv st σ Q) cs is pc lv st σ) : Wp l G d M pc lv st σ Q := by
  unfold vcG at h
  split at h
  · exact Wp.sub (fun q hq => pick_mem hq) h
  · split at h
    · next i l0 =>
      split at h
      · next he => rw [← he]; exact hgo _ _ _ h
      · exact h.elim
    · exact h.elim
theorem vc_ok {l : Launch} {G : GT} {d : Nat} {M : Me} {T : List In} {Q : Po} {cs : List (Nat × List Nat)} (hT : ∀ i ∈ T, Ent M i) : ∀ (n : Nat) (is : List In) (lv : Lv) (st : List Value) (σ : Mm), (∀ i ∈ is, Ent M i) → vc l G d M T Q cs n is lv st σ → Wp l G d M (hdp is) lv st σ Q
  | 0, is, lv, st, σ, _, h => h
  | _ + 1, [], _, _, _, _, h => h.elim
  | n + 1, i :: rest, lv, st, σ, hi, h => by
    refine hi i List.mem_cons_self l G d _ Q lv st σ ?_ ?_ h
    · intro lv st σ h1
      exact vcG_ok (fun lv st σ h2 => vc_ok hT n rest lv st σ (fun j hj => hi j (List.mem_cons_of_mem _ hj)) h2) h1
    · intro t lv st σ h1
      exact vcG_ok (fun lv st σ h2 => vc_ok hT n (drp T t) lv st σ (fun j hj => hT j (drp_mem hj)) h2) h1
/-- from a place of the body on -/
theorem wp_vc {l : Launch} {G : GT} {d : Nat} {M : Me} {T : List In} {Q : Po} {pc : Nat} {lv : Lv} {st : List Value} {σ : Mm} (hT : ∀ i ∈ T, Ent M i) (cs : List (Nat × List Nat)) (n : Nat) (hpc : hdp (drp T pc) = pc) (h : vc l G d M T Q cs n (drp T pc) lv st σ) : Wp l G d M pc lv st σ Q := by
  have := vc_ok hT n (drp T pc) lv st σ (fun j hj => hT j (drp_mem hj)) h
  rw [hpc] at this
  exact this
theorem lv_args_tv (G : GT) (av : List Value) (i : Nat) : lv_args i (av.map (tv G)) = (lv_args i av).map (tl G) := by
  induction av generalizing i with
  | nil => rfl
  | cons v vs ih =>
    show (i, tv G v) :: lv_args (if (tv G v).category = 2 then i + 2 else i + 1) (vs.map (tv G)) = _
    rw [tv_cat, ih]; rfl
theorem lg_sl_tv (G : GT) (av : List Value) : (lg_sl (av.map (tv G))).length = (lg_sl av).length := by
  induction av with
  | nil => rfl
  | cons v vs ih =>
    have h1 : ∀ (v : Value) (vs : List Value), (lg_sl (v :: vs)).length = (if v.category = 2 then 2 else 1) + (lg_sl vs).length := by
      intro v vs
      simp only [lg_sl, List.flatMap_cons, List.length_append]
      congr 1
      split <;> rfl
    rw [List.map_cons, h1, h1, ih, tv_cat]
/-- a method's contract out of the conditions of its body -/
theorem mw_vc {l : Launch} {G : GT} {d : Nat} {M : Me} {T : List In} {av : List Value} {Q : Po} {σ : Mm} (hT : ∀ i ∈ T, Ent M i) (hc : MeC M) (ho : M.2.2.2.2 = M.1.cls) (hlen : (lg_sl av).length ≤ M.2.2.1) (cs : List (Nat × List Nat)) (n : Nat) (h0 : hdp T = 0) (h : vc l G d M T Q cs n T (lv_args 0 av) [] σ) : MW l G d M av σ Q := by
  refine Met.ofW (cc := M.2.1) (maxL := M.2.2.1) (ret := M.2.2.2.1) hc.2.2.2.2 rfl ?_
  intro p e s m args below meth c s1 B hml hv
  obtain ⟨rfl, hP, hKx⟩ := hv
  have hts := atoms_spec (ws := wsM M) B.pre
  have hown : s.vm.findClass M.1.cls = some m.cls := findClass_of_methodNamed B.named
  have hl := lv_entry (av.map (tv G)) (n := M.2.2.1) (by rw [lg_sl_tv]; exact hlen)
  rw [lg_entry_eq]
  generalize (lg_sl (av.map (tv G)) ++ List.replicate (M.2.2.1 - (lg_sl (av.map (tv G))).length) Slot.unset).toArray = ls at hl ⊢
  rw [lv_args_tv] at hl
  have hw := vc_ok hT n T _ _ _ hT h
  rw [h0] at hw
  exact hw p e s m _ below meth c s.heap [] ls ⟨B.exec, B.bytes, B.returns, hml, by rw [ho]; exact hown, fun w hw => hts w (List.mem_cons_of_mem _ hw), B.notSynchronized, hKx⟩ hP va_S.rf hl
theorem MW.mono {l : Launch} {G : GT} {d : Nat} {M : Me} {av : List Value} {σ : Mm} {Q Q' : Po} (h : MW l G d M av σ Q) (hq : ∀ r σ', Q r σ' → Q' r σ') : MW l G d M av σ Q' := by
  intro p e ha hc hk s m args below hf h1 h2 h3
  obtain ⟨k, o, a1, a2, a3, ⟨⟨⟨r, σ', b1, b2, b3⟩, b4⟩, b5⟩⟩ := h p e ha hc hk s m args below hf h1 h2 h3
  exact ⟨k, o, a1, a2, a3, ⟨⟨⟨r, σ', b1, hq _ _ b2, b3⟩, b4⟩, b5⟩⟩
-- the library's own: Math.max, Math.min, System.arraycopy of ints
section Nat1
variable {M : Me} {pc : Nat}
def zt_max : Tr := fun _ _ d K _ lv st σ => match st with | .int y :: .int x :: st => if 1 ≤ d ∧ catS st ≤ 24 then K none lv (.int (if x < y then y else x) :: st) σ else False | _ => False
theorem ze_max {idx : Nat} (hd : decode M.2.1 pc = .ok (.invokestatic idx, 3)) (hk : Cond.methodLink M.2.2.2.2 idx Lib.Math.max.name ∈ gW) (h2 : Cond.static Lib.Math.max.name ∈ gW) (h3 : Cond.initialized "java/lang/Math" ∈ gW) (h4 : Cond.code Lib.Math.max.name Lib.Math.max.code 2 (some .int) ∈ gW) : Ent M (pc, pc + 3, zt_max) := by
  intro l G d K Q lv st σ hK hJ h p e s m args below meth c H locs ls C hP hS hl
  obtain ⟨hx, hb, hr, hml, hown, hts, hlocks, hKx⟩ := id C
  unfold zt_max at h
  dsimp only at h
  split at h
  · next y x st =>
    split at h
    · next hn => exact va_mmax hx hb (hml.trans hl.1.symm) hown (hts _ hk) (hts _ h2) (hts _ h3) (hts _ h4) hn.1 (by rw [catS_tv]; show catS st + 13 ≤ 96 * d; omega) (Nat.le_refl _) (Nat.le_refl _) hd (hK _ _ _ h p e s m args below meth c H locs ls C hP hS hl)
    · exact h.elim
  · exact h.elim
def zt_min : Tr := fun _ _ d K _ lv st σ => match st with | .int y :: .int x :: st => if 1 ≤ d ∧ catS st ≤ 24 then K none lv (.int (if y < x then y else x) :: st) σ else False | _ => False
theorem ze_min {idx : Nat} (hd : decode M.2.1 pc = .ok (.invokestatic idx, 3)) (hk : Cond.methodLink M.2.2.2.2 idx Lib.Math.min.name ∈ gW) (h2 : Cond.static Lib.Math.min.name ∈ gW) (h3 : Cond.initialized "java/lang/Math" ∈ gW) (h4 : Cond.code Lib.Math.min.name Lib.Math.min.code 2 (some .int) ∈ gW) : Ent M (pc, pc + 3, zt_min) := by
  intro l G d K Q lv st σ hK hJ h p e s m args below meth c H locs ls C hP hS hl
  obtain ⟨hx, hb, hr, hml, hown, hts, hlocks, hKx⟩ := id C
  unfold zt_min at h
  dsimp only at h
  split at h
  · next y x st =>
    split at h
    · next hn => exact va_mmin hx hb (hml.trans hl.1.symm) hown (hts _ hk) (hts _ h2) (hts _ h3) (hts _ h4) hn.1 (by rw [catS_tv]; show catS st + 13 ≤ 96 * d; omega) (Nat.le_refl _) (Nat.le_refl _) hd (hK _ _ _ h p e s m args below meth c H locs ls C hP hS hl)
    · exact h.elim
  · exact h.elim
def zt_copyI : Tr := fun _ _ d K _ lv st σ => match st with
  | .int n :: .int dp :: .ref a :: .int sp :: .ref a0 :: st => if 1 ≤ d ∧ catS st ≤ 24 then (¬ sp < 0 ∧ ¬ dp < 0 ∧ ¬ n < 0 ∧ (sh a0).1 = 1 ∧ (sh a).1 = 1 ∧ a0 < NN ∧ a < NN ∧ sp.toNatClampNeg + n.toNatClampNeg ≤ lenI a0 ∧ dp.toNatClampNeg + n.toNatClampNeg ≤ lenI a) ∧ K none lv st (uR σ a (va_cpy (σ.1 a0) (σ.1 a) sp.toNatClampNeg dp.toNatClampNeg n.toNatClampNeg)) else False
  | _ => False
theorem ze_copyI {idx : Nat} (hd : decode M.2.1 pc = .ok (.invokestatic idx, 3)) (hk : Cond.methodLink M.2.2.2.2 idx arraycopyName ∈ gW) (h1 : Cond.native arraycopyName ∈ gW) (h2 : Cond.static arraycopyName ∈ gW) (h3 : Cond.initialized "java/lang/System" ∈ gW) : Ent M (pc, pc + 3, zt_copyI) := by
  intro l G d K Q lv st σ hK hJ h p e s m args below meth c H locs ls C hP hS hl
  obtain ⟨hx, hb, hr, hml, hown, hts, hlocks, hKx⟩ := id C
  unfold zt_copyI at h
  dsimp only at h
  split at h
  · next n dp a sp a0 st =>
    split at h
    · next hn =>
      obtain ⟨⟨g1, g2, g3, g4, g5, g6, g7, g8, g9⟩, h⟩ := h
      have q0 : lenI a0 = (sh a0).2.1 := if_pos ⟨g4, g6⟩
      have q1 : lenI a = (sh a).2.1 := if_pos ⟨g5, g7⟩
      have hlo : ((st.map (tv G)).map fun v => v.category).sum + (nativeFrameWords "java/lang/System" "arraycopy" 5 + 11) ≤ (rmD d).locals := by
        rw [catS_tv]
        have h5 : nativeFrameWords "java/lang/System" "arraycopy" 5 + 11 ≤ 60 := by decide +kernel
        show catS st + (nativeFrameWords "java/lang/System" "arraycopy" 5 + 11) ≤ 96 * d
        omega
      refine va_copyi hx hb (hml.trans hl.1.symm) hown (hts _ hk) (hts _ h1) (hts _ h2) (hts _ h3) hKx.1 hP (wo_D hKx σ) hS a0 a 1 1 ((wo_at G σ g6).trans (congrArg (fun z => some (G.2.1 a0, z)) (cel_I g4))) ((wo_at G σ g7).trans (congrArg (fun z => some (G.2.1 a, z)) (cel_I g5))) rfl rfl rfl g1 g2 g3 (by rw [← q0]; exact g8) (by rw [← q1]; exact g9) (fun _ _ => rfl) hn.1 hlo hd (fun H1 locs1 hP1 _ hS1 => ?_)
      rw [wo_set (σ' := uR σ a (va_cpy (σ.1 a0) (σ.1 a) sp.toNatClampNeg dp.toNatClampNeg n.toNatClampNeg)) (by rw [cel_I g5]; simp [uR]) (fun b hb => by simp [uR, hb]) (fun b hb => by simp [uR, hb])] at hP1
      exact hK _ _ _ h p e s m args below meth c H1 locs1 ls C hP1 hS1 hl
    · exact h.elim
  · exact h.elim
end Nat1
end
section
-- the tables' words that links rest on, by their places
theorem gw {i : Nat} {w : Cond} (h : tables_1[i]? = some w) (hg : goodWord w = true) : w ∈ gW := List.mem_filter.mpr ⟨List.mem_append_right _ (List.mem_of_getElem? h), hg⟩
theorem gs {i : Nat} {w : Cond} (h : (k2_sels lw_privs)[i]? = some w) (hg : goodWord w = true) : w ∈ gW := List.mem_filter.mpr ⟨List.mem_append_left _ (List.mem_of_getElem? h), hg⟩
theorem inW1 : ∀ w ∈ u_ws RX1 TX1 2, w ∈ gW := by
  intro w hw
  obtain ⟨k, hk, rfl⟩ := List.mem_map.mp hw
  have hk := List.mem_range.mp hk
  have h : ∀ k, k < 2 → (tables_1[([327, 329] : List Nat).getD k 0]? = some (u_lay RX1 TX1 k) ∧ goodWord (u_lay RX1 TX1 k) = true) := by decide +kernel
  exact gw (h k hk).1 (h k hk).2
theorem inW2 : ∀ w ∈ u_ws RX2 TX2 9, w ∈ gW := by
  intro w hw
  obtain ⟨k, hk, rfl⟩ := List.mem_map.mp hw
  have hk := List.mem_range.mp hk
  have h : ∀ k, k < 9 → (tables_1[([235, 237, 239, 241, 243, 245, 247, 249, 251] : List Nat).getD k 0]? = some (u_lay RX2 TX2 k) ∧ goodWord (u_lay RX2 TX2 k) = true) := by decide +kernel
  exact gw (h k hk).1 (h k hk).2
theorem inW3 : ∀ w ∈ u_ws RX3 TX3 4, w ∈ gW := by
  intro w hw
  obtain ⟨k, hk, rfl⟩ := List.mem_map.mp hw
  have hk := List.mem_range.mp hk
  have h : ∀ k, k < 4 → (tables_1[([210, 212, 214, 216] : List Nat).getD k 0]? = some (u_lay RX3 TX3 k) ∧ goodWord (u_lay RX3 TX3 k) = true) := by decide +kernel
  exact gw (h k hk).1 (h k hk).2
theorem inW4 : ∀ w ∈ u_ws RX4 TX4 7, w ∈ gW := by
  intro w hw
  obtain ⟨k, hk, rfl⟩ := List.mem_map.mp hw
  have hk := List.mem_range.mp hk
  have h : ∀ k, k < 7 → (tables_1[([65, 67, 69, 71, 73, 75, 77] : List Nat).getD k 0]? = some (u_lay RX4 TX4 k) ∧ goodWord (u_lay RX4 TX4 k) = true) := by decide +kernel
  exact gw (h k hk).1 (h k hk).2
theorem inW6 : ∀ w ∈ u_ws RX6 TX6 3, w ∈ gW := by
  intro w hw
  obtain ⟨k, hk, rfl⟩ := List.mem_map.mp hw
  have hk := List.mem_range.mp hk
  have h : ∀ k, k < 3 → (tables_1[([90, 92, 94] : List Nat).getD k 0]? = some (u_lay RX6 TX6 k) ∧ goodWord (u_lay RX6 TX6 k) = true) := by decide +kernel
  exact gw (h k hk).1 (h k hk).2
theorem inW7 : ∀ w ∈ u_ws RX7 TX7 8, w ∈ gW := by
  intro w hw
  obtain ⟨k, hk, rfl⟩ := List.mem_map.mp hw
  have hk := List.mem_range.mp hk
  have h : ∀ k, k < 8 → (tables_1[([136, 138, 140, 142, 144, 146, 148, 150] : List Nat).getD k 0]? = some (u_lay RX7 TX7 k) ∧ goodWord (u_lay RX7 TX7 k) = true) := by decide +kernel
  exact gw (h k hk).1 (h k hk).2
theorem inW8 : ∀ w ∈ u_ws RX8 TX8 12, w ∈ gW := by
  intro w hw
  obtain ⟨k, hk, rfl⟩ := List.mem_map.mp hw
  have hk := List.mem_range.mp hk
  have h : ∀ k, k < 12 → (tables_1[([174, 176, 178, 180, 182, 184, 186, 188, 190, 192, 194, 196] : List Nat).getD k 0]? = some (u_lay RX8 TX8 k) ∧ goodWord (u_lay RX8 TX8 k) = true) := by decide +kernel
  exact gw (h k hk).1 (h k hk).2
theorem inW9 : ∀ w ∈ u_ws RX9 TX9 2, w ∈ gW := by
  intro w hw
  obtain ⟨k, hk, rfl⟩ := List.mem_map.mp hw
  have hk := List.mem_range.mp hk
  have h : ∀ k, k < 2 → (tables_1[([42, 44] : List Nat).getD k 0]? = some (u_lay RX9 TX9 k) ∧ goodWord (u_lay RX9 TX9 k) = true) := by decide +kernel
  exact gw (h k hk).1 (h k hk).2
theorem inW10 : ∀ w ∈ u_ws RX10 TX10 15, w ∈ gW := by
  intro w hw
  obtain ⟨k, hk, rfl⟩ := List.mem_map.mp hw
  have hk := List.mem_range.mp hk
  have h : ∀ k, k < 15 → (tables_1[([286, 288, 290, 292, 294, 296, 298, 300, 302, 304, 306, 308, 310, 312, 314] : List Nat).getD k 0]? = some (u_lay RX10 TX10 k) ∧ goodWord (u_lay RX10 TX10 k) = true) := by decide +kernel
  exact gw (h k hk).1 (h k hk).2
theorem inW11 : ∀ w ∈ u_ws RX11 TX11 14, w ∈ gW := by
  intro w hw
  obtain ⟨k, hk, rfl⟩ := List.mem_map.mp hw
  have hk := List.mem_range.mp hk
  have h : ∀ k, k < 14 → (tables_1[([346, 348, 350, 352, 354, 356, 358, 360, 362, 364, 366, 368, 370, 372] : List Nat).getD k 0]? = some (u_lay RX11 TX11 k) ∧ goodWord (u_lay RX11 TX11 k) = true) := by decide +kernel
  exact gw (h k hk).1 (h k hk).2
theorem inW12 : ∀ w ∈ u_ws RX12 TX12 45, w ∈ gW := by
  intro w hw
  obtain ⟨k, hk, rfl⟩ := List.mem_map.mp hw
  have hk := List.mem_range.mp hk
  have h : ∀ k, k < 45 → (tables_1[([1118, 1120, 1122, 1124, 1126, 1128, 1130, 1132, 1134, 1136, 1138, 1140, 1142, 1144, 1146, 1148, 1150, 1152, 1154, 1156, 1158, 1160, 1162, 1164, 1166, 1168, 1170, 1172, 1174, 1176, 1178, 1180, 1182, 1184, 1186, 1188, 1190, 1192, 1194, 1196, 1198, 1200, 1202, 1204, 1206] : List Nat).getD k 0]? = some (u_lay RX12 TX12 k) ∧ goodWord (u_lay RX12 TX12 k) = true) := by decide +kernel
  exact gw (h k hk).1 (h k hk).2
theorem fl_X11_9 : Fl RX11 9 9 0 := ⟨RX11, TX11, 14, tyX11, rfl, inW11, by decide, gw (i := 332) (by decide +kernel) rfl, tyX11_ok, nmX11⟩
theorem fl_X11_17 : Fl RX11 17 9 1 := ⟨RX11, TX11, 14, tyX11, rfl, inW11, by decide, gw (i := 333) (by decide +kernel) rfl, tyX11_ok, nmX11⟩
theorem fl_X11_20 : Fl RX11 20 9 2 := ⟨RX11, TX11, 14, tyX11, rfl, inW11, by decide, gw (i := 334) (by decide +kernel) rfl, tyX11_ok, nmX11⟩
theorem fl_X11_23 : Fl RX11 23 9 3 := ⟨RX11, TX11, 14, tyX11, rfl, inW11, by decide, gw (i := 335) (by decide +kernel) rfl, tyX11_ok, nmX11⟩
theorem fl_X11_26 : Fl RX11 26 9 4 := ⟨RX11, TX11, 14, tyX11, rfl, inW11, by decide, gw (i := 336) (by decide +kernel) rfl, tyX11_ok, nmX11⟩
theorem fl_X11_32 : Fl RX11 32 9 5 := ⟨RX11, TX11, 14, tyX11, rfl, inW11, by decide, gw (i := 337) (by decide +kernel) rfl, tyX11_ok, nmX11⟩
theorem fl_X11_41 : Fl RX11 41 9 6 := ⟨RX11, TX11, 14, tyX11, rfl, inW11, by decide, gw (i := 338) (by decide +kernel) rfl, tyX11_ok, nmX11⟩
theorem fl_X11_48 : Fl RX11 48 9 7 := ⟨RX11, TX11, 14, tyX11, rfl, inW11, by decide, gw (i := 339) (by decide +kernel) rfl, tyX11_ok, nmX11⟩
theorem fl_X11_57 : Fl RX11 57 9 8 := ⟨RX11, TX11, 14, tyX11, rfl, inW11, by decide, gw (i := 340) (by decide +kernel) rfl, tyX11_ok, nmX11⟩
theorem fl_X11_66 : Fl RX11 66 9 9 := ⟨RX11, TX11, 14, tyX11, rfl, inW11, by decide, gw (i := 341) (by decide +kernel) rfl, tyX11_ok, nmX11⟩
theorem fl_X11_73 : Fl RX11 73 9 10 := ⟨RX11, TX11, 14, tyX11, rfl, inW11, by decide, gw (i := 342) (by decide +kernel) rfl, tyX11_ok, nmX11⟩
theorem fl_X11_82 : Fl RX11 82 9 11 := ⟨RX11, TX11, 14, tyX11, rfl, inW11, by decide, gw (i := 343) (by decide +kernel) rfl, tyX11_ok, nmX11⟩
theorem fl_X11_89 : Fl RX11 89 9 12 := ⟨RX11, TX11, 14, tyX11, rfl, inW11, by decide, gw (i := 344) (by decide +kernel) rfl, tyX11_ok, nmX11⟩
theorem fl_X11_97 : Fl RX11 97 7 1 := ⟨RX9, TX9, 2, tyX9, rfl, inW9, by decide, gw (i := 39) (by decide +kernel) rfl, tyX9_ok, nmX9⟩
theorem fl_X11_108 : Fl RX11 108 4 2 := ⟨RX6, TX6, 3, tyX6, rfl, inW6, by decide, gw (i := 89) (by decide +kernel) rfl, tyX6_ok, nmX6⟩
theorem fl_X11_115 : Fl RX11 115 3 1 := ⟨RX4, TX4, 7, tyX4, rfl, inW4, by decide, gw (i := 58) (by decide +kernel) rfl, tyX4_ok, nmX4⟩
theorem fl_X11_118 : Fl RX11 118 3 2 := ⟨RX4, TX4, 7, tyX4, rfl, inW4, by decide, gw (i := 60) (by decide +kernel) rfl, tyX4_ok, nmX4⟩
theorem fl_X11_130 : Fl RX11 130 3 0 := ⟨RX4, TX4, 7, tyX4, rfl, inW4, by decide, gw (i := 56) (by decide +kernel) rfl, tyX4_ok, nmX4⟩
theorem fl_X11_189 : Fl RX11 189 6 1 := ⟨RX8, TX8, 12, tyX8, rfl, inW8, by decide, gw (i := 158) (by decide +kernel) rfl, tyX8_ok, nmX8⟩
theorem fl_X11_194 : Fl RX11 194 6 0 := ⟨RX8, TX8, 12, tyX8, rfl, inW8, by decide, gw (i := 156) (by decide +kernel) rfl, tyX8_ok, nmX8⟩
theorem fl_X11_197 : Fl RX11 197 6 2 := ⟨RX8, TX8, 12, tyX8, rfl, inW8, by decide, gw (i := 162) (by decide +kernel) rfl, tyX8_ok, nmX8⟩
theorem fl_X11_208 : Fl RX11 208 5 0 := ⟨RX7, TX7, 8, tyX7, rfl, inW7, by decide, gw (i := 112) (by decide +kernel) rfl, tyX7_ok, nmX7⟩
theorem fl_X11_213 : Fl RX11 213 5 6 := ⟨RX7, TX7, 8, tyX7, rfl, inW7, by decide, gw (i := 133) (by decide +kernel) rfl, tyX7_ok, nmX7⟩
theorem fl_X11_223 : Fl RX11 223 5 2 := ⟨RX7, TX7, 8, tyX7, rfl, inW7, by decide, gw (i := 121) (by decide +kernel) rfl, tyX7_ok, nmX7⟩
theorem fl_X11_237 : Fl RX11 237 2 3 := ⟨RX3, TX3, 4, tyX3, rfl, inW3, by decide, gw (i := 209) (by decide +kernel) rfl, tyX3_ok, nmX3⟩
theorem fl_X11_244 : Fl RX11 244 9 13 := ⟨RX11, TX11, 14, tyX11, rfl, inW11, by decide, gw (i := 345) (by decide +kernel) rfl, tyX11_ok, nmX11⟩
theorem fl_X11_262 : Fl RX11 262 1 0 := ⟨RX2, TX2, 9, tyX2, rfl, inW2, by decide, gw (i := 226) (by decide +kernel) rfl, tyX2_ok, nmX2⟩
theorem fl_X11_279 : Fl RX11 279 8 0 := ⟨RX10, TX10, 15, tyX10, rfl, inW10, by decide, gw (i := 264) (by decide +kernel) rfl, tyX10_ok, nmX10⟩
theorem fl_X11_282 : Fl RX11 282 8 1 := ⟨RX10, TX10, 15, tyX10, rfl, inW10, by decide, gw (i := 266) (by decide +kernel) rfl, tyX10_ok, nmX10⟩
theorem fl_X11_285 : Fl RX11 285 8 2 := ⟨RX10, TX10, 15, tyX10, rfl, inW10, by decide, gw (i := 268) (by decide +kernel) rfl, tyX10_ok, nmX10⟩
theorem fl_X11_292 : Fl RX11 292 0 0 := ⟨RX1, TX1, 2, tyX1, rfl, inW1, by decide, gw (i := 325) (by decide +kernel) rfl, tyX1_ok, nmX1⟩
theorem fl_X11_308 : Fl RX11 308 6 3 := ⟨RX8, TX8, 12, tyX8, rfl, inW8, by decide, gw (i := 164) (by decide +kernel) rfl, tyX8_ok, nmX8⟩
theorem fl_X11_312 : Fl RX11 312 5 5 := ⟨RX7, TX7, 8, tyX7, rfl, inW7, by decide, gw (i := 131) (by decide +kernel) rfl, tyX7_ok, nmX7⟩
theorem fl_X11_328 : Fl RX11 328 5 1 := ⟨RX7, TX7, 8, tyX7, rfl, inW7, by decide, gw (i := 116) (by decide +kernel) rfl, tyX7_ok, nmX7⟩
theorem fl_X11_349 : Fl RX11 349 5 3 := ⟨RX7, TX7, 8, tyX7, rfl, inW7, by decide, gw (i := 125) (by decide +kernel) rfl, tyX7_ok, nmX7⟩
theorem fl_X11_353 : Fl RX11 353 5 4 := ⟨RX7, TX7, 8, tyX7, rfl, inW7, by decide, gw (i := 128) (by decide +kernel) rfl, tyX7_ok, nmX7⟩
theorem fl_X11_372 : Fl RX11 372 8 3 := ⟨RX10, TX10, 15, tyX10, rfl, inW10, by decide, gw (i := 270) (by decide +kernel) rfl, tyX10_ok, nmX10⟩
theorem fl_X11_375 : Fl RX11 375 8 4 := ⟨RX10, TX10, 15, tyX10, rfl, inW10, by decide, gw (i := 272) (by decide +kernel) rfl, tyX10_ok, nmX10⟩
theorem fl_X11_378 : Fl RX11 378 8 5 := ⟨RX10, TX10, 15, tyX10, rfl, inW10, by decide, gw (i := 274) (by decide +kernel) rfl, tyX10_ok, nmX10⟩
theorem fl_X11_381 : Fl RX11 381 8 6 := ⟨RX10, TX10, 15, tyX10, rfl, inW10, by decide, gw (i := 276) (by decide +kernel) rfl, tyX10_ok, nmX10⟩
theorem fl_X11_384 : Fl RX11 384 8 7 := ⟨RX10, TX10, 15, tyX10, rfl, inW10, by decide, gw (i := 278) (by decide +kernel) rfl, tyX10_ok, nmX10⟩
theorem fl_X1_9 : Fl RX1 9 0 0 := ⟨RX1, TX1, 2, tyX1, rfl, inW1, by decide, gw (i := 324) (by decide +kernel) rfl, tyX1_ok, nmX1⟩
theorem fl_X1_15 : Fl RX1 15 0 1 := ⟨RX1, TX1, 2, tyX1, rfl, inW1, by decide, gw (i := 326) (by decide +kernel) rfl, tyX1_ok, nmX1⟩
theorem fl_X1_33 : Fl RX1 33 5 2 := ⟨RX7, TX7, 8, tyX7, rfl, inW7, by decide, gw (i := 118) (by decide +kernel) rfl, tyX7_ok, nmX7⟩
theorem fl_X2_13 : Fl RX2 13 1 1 := ⟨RX2, TX2, 9, tyX2, rfl, inW2, by decide, gw (i := 227) (by decide +kernel) rfl, tyX2_ok, nmX2⟩
theorem fl_X2_17 : Fl RX2 17 1 2 := ⟨RX2, TX2, 9, tyX2, rfl, inW2, by decide, gw (i := 228) (by decide +kernel) rfl, tyX2_ok, nmX2⟩
theorem fl_X2_20 : Fl RX2 20 1 3 := ⟨RX2, TX2, 9, tyX2, rfl, inW2, by decide, gw (i := 229) (by decide +kernel) rfl, tyX2_ok, nmX2⟩
theorem fl_X2_23 : Fl RX2 23 1 4 := ⟨RX2, TX2, 9, tyX2, rfl, inW2, by decide, gw (i := 230) (by decide +kernel) rfl, tyX2_ok, nmX2⟩
theorem fl_X2_26 : Fl RX2 26 1 0 := ⟨RX2, TX2, 9, tyX2, rfl, inW2, by decide, gw (i := 225) (by decide +kernel) rfl, tyX2_ok, nmX2⟩
theorem fl_X2_30 : Fl RX2 30 1 5 := ⟨RX2, TX2, 9, tyX2, rfl, inW2, by decide, gw (i := 231) (by decide +kernel) rfl, tyX2_ok, nmX2⟩
theorem fl_X2_33 : Fl RX2 33 1 6 := ⟨RX2, TX2, 9, tyX2, rfl, inW2, by decide, gw (i := 232) (by decide +kernel) rfl, tyX2_ok, nmX2⟩
theorem fl_X2_36 : Fl RX2 36 1 8 := ⟨RX2, TX2, 9, tyX2, rfl, inW2, by decide, gw (i := 234) (by decide +kernel) rfl, tyX2_ok, nmX2⟩
theorem fl_X2_57 : Fl RX2 57 1 7 := ⟨RX2, TX2, 9, tyX2, rfl, inW2, by decide, gw (i := 233) (by decide +kernel) rfl, tyX2_ok, nmX2⟩
theorem fl_X3_9 : Fl RX3 9 2 0 := ⟨RX3, TX3, 4, tyX3, rfl, inW3, by decide, gw (i := 205) (by decide +kernel) rfl, tyX3_ok, nmX3⟩
theorem fl_X3_15 : Fl RX3 15 2 1 := ⟨RX3, TX3, 4, tyX3, rfl, inW3, by decide, gw (i := 206) (by decide +kernel) rfl, tyX3_ok, nmX3⟩
theorem fl_X3_18 : Fl RX3 18 2 2 := ⟨RX3, TX3, 4, tyX3, rfl, inW3, by decide, gw (i := 207) (by decide +kernel) rfl, tyX3_ok, nmX3⟩
theorem fl_X3_32 : Fl RX3 32 2 3 := ⟨RX3, TX3, 4, tyX3, rfl, inW3, by decide, gw (i := 208) (by decide +kernel) rfl, tyX3_ok, nmX3⟩
theorem fl_X3_59 : Fl RX3 59 5 2 := ⟨RX7, TX7, 8, tyX7, rfl, inW7, by decide, gw (i := 119) (by decide +kernel) rfl, tyX7_ok, nmX7⟩
theorem fl_X3_93 : Fl RX3 93 6 2 := ⟨RX8, TX8, 12, tyX8, rfl, inW8, by decide, gw (i := 161) (by decide +kernel) rfl, tyX8_ok, nmX8⟩
theorem fl_X3_96 : Fl RX3 96 6 0 := ⟨RX8, TX8, 12, tyX8, rfl, inW8, by decide, gw (i := 155) (by decide +kernel) rfl, tyX8_ok, nmX8⟩
theorem fl_X4_11 : Fl RX4 11 3 0 := ⟨RX4, TX4, 7, tyX4, rfl, inW4, by decide, gw (i := 55) (by decide +kernel) rfl, tyX4_ok, nmX4⟩
theorem fl_X4_17 : Fl RX4 17 3 1 := ⟨RX4, TX4, 7, tyX4, rfl, inW4, by decide, gw (i := 57) (by decide +kernel) rfl, tyX4_ok, nmX4⟩
theorem fl_X4_20 : Fl RX4 20 3 3 := ⟨RX4, TX4, 7, tyX4, rfl, inW4, by decide, gw (i := 61) (by decide +kernel) rfl, tyX4_ok, nmX4⟩
theorem fl_X4_23 : Fl RX4 23 3 4 := ⟨RX4, TX4, 7, tyX4, rfl, inW4, by decide, gw (i := 62) (by decide +kernel) rfl, tyX4_ok, nmX4⟩
theorem fl_X4_27 : Fl RX4 27 3 5 := ⟨RX4, TX4, 7, tyX4, rfl, inW4, by decide, gw (i := 63) (by decide +kernel) rfl, tyX4_ok, nmX4⟩
theorem fl_X4_31 : Fl RX4 31 3 2 := ⟨RX4, TX4, 7, tyX4, rfl, inW4, by decide, gw (i := 59) (by decide +kernel) rfl, tyX4_ok, nmX4⟩
theorem fl_X4_78 : Fl RX4 78 7 1 := ⟨RX9, TX9, 2, tyX9, rfl, inW9, by decide, gw (i := 41) (by decide +kernel) rfl, tyX9_ok, nmX9⟩
theorem fl_X4_100 : Fl RX4 100 3 6 := ⟨RX4, TX4, 7, tyX4, rfl, inW4, by decide, gw (i := 64) (by decide +kernel) rfl, tyX4_ok, nmX4⟩
theorem fl_X6_11 : Fl RX6 11 4 0 := ⟨RX6, TX6, 3, tyX6, rfl, inW6, by decide, gw (i := 86) (by decide +kernel) rfl, tyX6_ok, nmX6⟩
theorem fl_X6_15 : Fl RX6 15 4 1 := ⟨RX6, TX6, 3, tyX6, rfl, inW6, by decide, gw (i := 87) (by decide +kernel) rfl, tyX6_ok, nmX6⟩
theorem fl_X6_18 : Fl RX6 18 4 2 := ⟨RX6, TX6, 3, tyX6, rfl, inW6, by decide, gw (i := 88) (by decide +kernel) rfl, tyX6_ok, nmX6⟩
theorem fl_X7_9 : Fl RX7 9 5 0 := ⟨RX7, TX7, 8, tyX7, rfl, inW7, by decide, gw (i := 111) (by decide +kernel) rfl, tyX7_ok, nmX7⟩
theorem fl_X7_15 : Fl RX7 15 5 1 := ⟨RX7, TX7, 8, tyX7, rfl, inW7, by decide, gw (i := 114) (by decide +kernel) rfl, tyX7_ok, nmX7⟩
theorem fl_X7_18 : Fl RX7 18 5 2 := ⟨RX7, TX7, 8, tyX7, rfl, inW7, by decide, gw (i := 117) (by decide +kernel) rfl, tyX7_ok, nmX7⟩
theorem fl_X7_23 : Fl RX7 23 5 3 := ⟨RX7, TX7, 8, tyX7, rfl, inW7, by decide, gw (i := 123) (by decide +kernel) rfl, tyX7_ok, nmX7⟩
theorem fl_X7_26 : Fl RX7 26 5 4 := ⟨RX7, TX7, 8, tyX7, rfl, inW7, by decide, gw (i := 126) (by decide +kernel) rfl, tyX7_ok, nmX7⟩
theorem fl_X8_9 : Fl RX8 9 6 0 := ⟨RX8, TX8, 12, tyX8, rfl, inW8, by decide, gw (i := 154) (by decide +kernel) rfl, tyX8_ok, nmX8⟩
theorem fl_X8_15 : Fl RX8 15 6 1 := ⟨RX8, TX8, 12, tyX8, rfl, inW8, by decide, gw (i := 157) (by decide +kernel) rfl, tyX8_ok, nmX8⟩
theorem fl_X8_18 : Fl RX8 18 6 2 := ⟨RX8, TX8, 12, tyX8, rfl, inW8, by decide, gw (i := 159) (by decide +kernel) rfl, tyX8_ok, nmX8⟩
theorem fl_X8_24 : Fl RX8 24 6 3 := ⟨RX8, TX8, 12, tyX8, rfl, inW8, by decide, gw (i := 163) (by decide +kernel) rfl, tyX8_ok, nmX8⟩
theorem fl_X8_28 : Fl RX8 28 6 4 := ⟨RX8, TX8, 12, tyX8, rfl, inW8, by decide, gw (i := 166) (by decide +kernel) rfl, tyX8_ok, nmX8⟩
theorem fl_X8_31 : Fl RX8 31 6 5 := ⟨RX8, TX8, 12, tyX8, rfl, inW8, by decide, gw (i := 167) (by decide +kernel) rfl, tyX8_ok, nmX8⟩
theorem fl_X8_36 : Fl RX8 36 6 7 := ⟨RX8, TX8, 12, tyX8, rfl, inW8, by decide, gw (i := 169) (by decide +kernel) rfl, tyX8_ok, nmX8⟩
theorem fl_X8_41 : Fl RX8 41 6 8 := ⟨RX8, TX8, 12, tyX8, rfl, inW8, by decide, gw (i := 170) (by decide +kernel) rfl, tyX8_ok, nmX8⟩
theorem fl_X8_44 : Fl RX8 44 6 9 := ⟨RX8, TX8, 12, tyX8, rfl, inW8, by decide, gw (i := 171) (by decide +kernel) rfl, tyX8_ok, nmX8⟩
theorem fl_X8_47 : Fl RX8 47 6 10 := ⟨RX8, TX8, 12, tyX8, rfl, inW8, by decide, gw (i := 172) (by decide +kernel) rfl, tyX8_ok, nmX8⟩
theorem fl_X8_50 : Fl RX8 50 6 6 := ⟨RX8, TX8, 12, tyX8, rfl, inW8, by decide, gw (i := 168) (by decide +kernel) rfl, tyX8_ok, nmX8⟩
theorem fl_X8_62 : Fl RX8 62 6 11 := ⟨RX8, TX8, 12, tyX8, rfl, inW8, by decide, gw (i := 173) (by decide +kernel) rfl, tyX8_ok, nmX8⟩
theorem fl_X8_77 : Fl RX8 77 5 7 := ⟨RX7, TX7, 8, tyX7, rfl, inW7, by decide, gw (i := 135) (by decide +kernel) rfl, tyX7_ok, nmX7⟩
theorem fl_X8_91 : Fl RX8 91 5 1 := ⟨RX7, TX7, 8, tyX7, rfl, inW7, by decide, gw (i := 115) (by decide +kernel) rfl, tyX7_ok, nmX7⟩
theorem fl_X8_94 : Fl RX8 94 5 3 := ⟨RX7, TX7, 8, tyX7, rfl, inW7, by decide, gw (i := 124) (by decide +kernel) rfl, tyX7_ok, nmX7⟩
theorem fl_X8_97 : Fl RX8 97 5 4 := ⟨RX7, TX7, 8, tyX7, rfl, inW7, by decide, gw (i := 127) (by decide +kernel) rfl, tyX7_ok, nmX7⟩
theorem fl_X8_108 : Fl RX8 108 5 5 := ⟨RX7, TX7, 8, tyX7, rfl, inW7, by decide, gw (i := 130) (by decide +kernel) rfl, tyX7_ok, nmX7⟩
theorem fl_X8_112 : Fl RX8 112 5 6 := ⟨RX7, TX7, 8, tyX7, rfl, inW7, by decide, gw (i := 134) (by decide +kernel) rfl, tyX7_ok, nmX7⟩
theorem fl_X8_125 : Fl RX8 125 5 0 := ⟨RX7, TX7, 8, tyX7, rfl, inW7, by decide, gw (i := 113) (by decide +kernel) rfl, tyX7_ok, nmX7⟩
theorem fl_X8_152 : Fl RX8 152 5 2 := ⟨RX7, TX7, 8, tyX7, rfl, inW7, by decide, gw (i := 122) (by decide +kernel) rfl, tyX7_ok, nmX7⟩
theorem fl_X9_9 : Fl RX9 9 7 0 := ⟨RX9, TX9, 2, tyX9, rfl, inW9, by decide, gw (i := 38) (by decide +kernel) rfl, tyX9_ok, nmX9⟩
theorem fl_X9_13 : Fl RX9 13 7 1 := ⟨RX9, TX9, 2, tyX9, rfl, inW9, by decide, gw (i := 40) (by decide +kernel) rfl, tyX9_ok, nmX9⟩
theorem fl_X10_11 : Fl RX10 11 8 10 := ⟨RX10, TX10, 15, tyX10, rfl, inW10, by decide, gw (i := 281) (by decide +kernel) rfl, tyX10_ok, nmX10⟩
theorem fl_X10_15 : Fl RX10 15 8 11 := ⟨RX10, TX10, 15, tyX10, rfl, inW10, by decide, gw (i := 282) (by decide +kernel) rfl, tyX10_ok, nmX10⟩
theorem fl_X10_19 : Fl RX10 19 8 8 := ⟨RX10, TX10, 15, tyX10, rfl, inW10, by decide, gw (i := 279) (by decide +kernel) rfl, tyX10_ok, nmX10⟩
theorem fl_X10_23 : Fl RX10 23 8 9 := ⟨RX10, TX10, 15, tyX10, rfl, inW10, by decide, gw (i := 280) (by decide +kernel) rfl, tyX10_ok, nmX10⟩
theorem fl_X10_27 : Fl RX10 27 6 4 := ⟨RX8, TX8, 12, tyX8, rfl, inW8, by decide, gw (i := 165) (by decide +kernel) rfl, tyX8_ok, nmX8⟩
theorem fl_X10_34 : Fl RX10 34 8 12 := ⟨RX10, TX10, 15, tyX10, rfl, inW10, by decide, gw (i := 283) (by decide +kernel) rfl, tyX10_ok, nmX10⟩
theorem fl_X10_38 : Fl RX10 38 8 13 := ⟨RX10, TX10, 15, tyX10, rfl, inW10, by decide, gw (i := 284) (by decide +kernel) rfl, tyX10_ok, nmX10⟩
theorem fl_X10_44 : Fl RX10 44 8 14 := ⟨RX10, TX10, 15, tyX10, rfl, inW10, by decide, gw (i := 285) (by decide +kernel) rfl, tyX10_ok, nmX10⟩
theorem fl_X10_48 : Fl RX10 48 8 3 := ⟨RX10, TX10, 15, tyX10, rfl, inW10, by decide, gw (i := 269) (by decide +kernel) rfl, tyX10_ok, nmX10⟩
theorem fl_X10_50 : Fl RX10 50 8 4 := ⟨RX10, TX10, 15, tyX10, rfl, inW10, by decide, gw (i := 271) (by decide +kernel) rfl, tyX10_ok, nmX10⟩
theorem fl_X10_53 : Fl RX10 53 8 5 := ⟨RX10, TX10, 15, tyX10, rfl, inW10, by decide, gw (i := 273) (by decide +kernel) rfl, tyX10_ok, nmX10⟩
theorem fl_X10_56 : Fl RX10 56 8 6 := ⟨RX10, TX10, 15, tyX10, rfl, inW10, by decide, gw (i := 275) (by decide +kernel) rfl, tyX10_ok, nmX10⟩
theorem fl_X10_59 : Fl RX10 59 8 7 := ⟨RX10, TX10, 15, tyX10, rfl, inW10, by decide, gw (i := 277) (by decide +kernel) rfl, tyX10_ok, nmX10⟩
theorem fl_X10_82 : Fl RX10 82 5 2 := ⟨RX7, TX7, 8, tyX7, rfl, inW7, by decide, gw (i := 120) (by decide +kernel) rfl, tyX7_ok, nmX7⟩
theorem fl_X10_97 : Fl RX10 97 5 5 := ⟨RX7, TX7, 8, tyX7, rfl, inW7, by decide, gw (i := 129) (by decide +kernel) rfl, tyX7_ok, nmX7⟩
theorem fl_X10_103 : Fl RX10 103 6 2 := ⟨RX8, TX8, 12, tyX8, rfl, inW8, by decide, gw (i := 160) (by decide +kernel) rfl, tyX8_ok, nmX8⟩
theorem fl_X10_110 : Fl RX10 110 5 6 := ⟨RX7, TX7, 8, tyX7, rfl, inW7, by decide, gw (i := 132) (by decide +kernel) rfl, tyX7_ok, nmX7⟩
theorem fl_X10_120 : Fl RX10 120 8 0 := ⟨RX10, TX10, 15, tyX10, rfl, inW10, by decide, gw (i := 263) (by decide +kernel) rfl, tyX10_ok, nmX10⟩
theorem fl_X10_123 : Fl RX10 123 8 1 := ⟨RX10, TX10, 15, tyX10, rfl, inW10, by decide, gw (i := 265) (by decide +kernel) rfl, tyX10_ok, nmX10⟩
theorem fl_X10_126 : Fl RX10 126 8 2 := ⟨RX10, TX10, 15, tyX10, rfl, inW10, by decide, gw (i := 267) (by decide +kernel) rfl, tyX10_ok, nmX10⟩
theorem fl_X12_9 : Fl RX12 9 10 1 := ⟨RX12, TX12, 45, tyX12, rfl, inW12, by decide, gw (i := 1074) (by decide +kernel) rfl, tyX12_ok, nmX12⟩
theorem fl_X12_13 : Fl RX12 13 10 5 := ⟨RX12, TX12, 45, tyX12, rfl, inW12, by decide, gw (i := 1078) (by decide +kernel) rfl, tyX12_ok, nmX12⟩
theorem fl_X12_17 : Fl RX12 17 10 6 := ⟨RX12, TX12, 45, tyX12, rfl, inW12, by decide, gw (i := 1079) (by decide +kernel) rfl, tyX12_ok, nmX12⟩
theorem fl_X12_20 : Fl RX12 20 10 7 := ⟨RX12, TX12, 45, tyX12, rfl, inW12, by decide, gw (i := 1080) (by decide +kernel) rfl, tyX12_ok, nmX12⟩
theorem fl_X12_23 : Fl RX12 23 10 8 := ⟨RX12, TX12, 45, tyX12, rfl, inW12, by decide, gw (i := 1081) (by decide +kernel) rfl, tyX12_ok, nmX12⟩
theorem fl_X12_26 : Fl RX12 26 10 9 := ⟨RX12, TX12, 45, tyX12, rfl, inW12, by decide, gw (i := 1082) (by decide +kernel) rfl, tyX12_ok, nmX12⟩
theorem fl_X12_29 : Fl RX12 29 10 10 := ⟨RX12, TX12, 45, tyX12, rfl, inW12, by decide, gw (i := 1083) (by decide +kernel) rfl, tyX12_ok, nmX12⟩
theorem fl_X12_32 : Fl RX12 32 10 11 := ⟨RX12, TX12, 45, tyX12, rfl, inW12, by decide, gw (i := 1084) (by decide +kernel) rfl, tyX12_ok, nmX12⟩
theorem fl_X12_35 : Fl RX12 35 10 12 := ⟨RX12, TX12, 45, tyX12, rfl, inW12, by decide, gw (i := 1085) (by decide +kernel) rfl, tyX12_ok, nmX12⟩
theorem fl_X12_38 : Fl RX12 38 10 20 := ⟨RX12, TX12, 45, tyX12, rfl, inW12, by decide, gw (i := 1093) (by decide +kernel) rfl, tyX12_ok, nmX12⟩
theorem fl_X12_41 : Fl RX12 41 10 21 := ⟨RX12, TX12, 45, tyX12, rfl, inW12, by decide, gw (i := 1094) (by decide +kernel) rfl, tyX12_ok, nmX12⟩
theorem fl_X12_44 : Fl RX12 44 10 22 := ⟨RX12, TX12, 45, tyX12, rfl, inW12, by decide, gw (i := 1095) (by decide +kernel) rfl, tyX12_ok, nmX12⟩
theorem fl_X12_47 : Fl RX12 47 10 23 := ⟨RX12, TX12, 45, tyX12, rfl, inW12, by decide, gw (i := 1096) (by decide +kernel) rfl, tyX12_ok, nmX12⟩
theorem fl_X12_50 : Fl RX12 50 10 28 := ⟨RX12, TX12, 45, tyX12, rfl, inW12, by decide, gw (i := 1101) (by decide +kernel) rfl, tyX12_ok, nmX12⟩
theorem fl_X12_53 : Fl RX12 53 10 29 := ⟨RX12, TX12, 45, tyX12, rfl, inW12, by decide, gw (i := 1102) (by decide +kernel) rfl, tyX12_ok, nmX12⟩
theorem fl_X12_56 : Fl RX12 56 10 30 := ⟨RX12, TX12, 45, tyX12, rfl, inW12, by decide, gw (i := 1103) (by decide +kernel) rfl, tyX12_ok, nmX12⟩
theorem fl_X12_60 : Fl RX12 60 10 31 := ⟨RX12, TX12, 45, tyX12, rfl, inW12, by decide, gw (i := 1104) (by decide +kernel) rfl, tyX12_ok, nmX12⟩
theorem fl_X12_64 : Fl RX12 64 10 32 := ⟨RX12, TX12, 45, tyX12, rfl, inW12, by decide, gw (i := 1105) (by decide +kernel) rfl, tyX12_ok, nmX12⟩
theorem fl_X12_67 : Fl RX12 67 10 35 := ⟨RX12, TX12, 45, tyX12, rfl, inW12, by decide, gw (i := 1108) (by decide +kernel) rfl, tyX12_ok, nmX12⟩
theorem fl_X12_70 : Fl RX12 70 10 37 := ⟨RX12, TX12, 45, tyX12, rfl, inW12, by decide, gw (i := 1110) (by decide +kernel) rfl, tyX12_ok, nmX12⟩
theorem fl_X12_73 : Fl RX12 73 10 39 := ⟨RX12, TX12, 45, tyX12, rfl, inW12, by decide, gw (i := 1112) (by decide +kernel) rfl, tyX12_ok, nmX12⟩
theorem fl_X12_76 : Fl RX12 76 10 40 := ⟨RX12, TX12, 45, tyX12, rfl, inW12, by decide, gw (i := 1113) (by decide +kernel) rfl, tyX12_ok, nmX12⟩
theorem fl_X12_79 : Fl RX12 79 10 44 := ⟨RX12, TX12, 45, tyX12, rfl, inW12, by decide, gw (i := 1117) (by decide +kernel) rfl, tyX12_ok, nmX12⟩
theorem fl_X12_82 : Fl RX12 82 10 0 := ⟨RX12, TX12, 45, tyX12, rfl, inW12, by decide, gw (i := 1073) (by decide +kernel) rfl, tyX12_ok, nmX12⟩
theorem fl_X12_86 : Fl RX12 86 10 2 := ⟨RX12, TX12, 45, tyX12, rfl, inW12, by decide, gw (i := 1075) (by decide +kernel) rfl, tyX12_ok, nmX12⟩
theorem fl_X12_97 : Fl RX12 97 10 3 := ⟨RX12, TX12, 45, tyX12, rfl, inW12, by decide, gw (i := 1076) (by decide +kernel) rfl, tyX12_ok, nmX12⟩
theorem fl_X12_104 : Fl RX12 104 10 4 := ⟨RX12, TX12, 45, tyX12, rfl, inW12, by decide, gw (i := 1077) (by decide +kernel) rfl, tyX12_ok, nmX12⟩
theorem fl_X12_128 : Fl RX12 128 10 18 := ⟨RX12, TX12, 45, tyX12, rfl, inW12, by decide, gw (i := 1091) (by decide +kernel) rfl, tyX12_ok, nmX12⟩
theorem fl_X12_134 : Fl RX12 134 10 19 := ⟨RX12, TX12, 45, tyX12, rfl, inW12, by decide, gw (i := 1092) (by decide +kernel) rfl, tyX12_ok, nmX12⟩
theorem fl_X12_152 : Fl RX12 152 10 13 := ⟨RX12, TX12, 45, tyX12, rfl, inW12, by decide, gw (i := 1086) (by decide +kernel) rfl, tyX12_ok, nmX12⟩
theorem fl_X12_155 : Fl RX12 155 10 14 := ⟨RX12, TX12, 45, tyX12, rfl, inW12, by decide, gw (i := 1087) (by decide +kernel) rfl, tyX12_ok, nmX12⟩
theorem fl_X12_175 : Fl RX12 175 10 15 := ⟨RX12, TX12, 45, tyX12, rfl, inW12, by decide, gw (i := 1088) (by decide +kernel) rfl, tyX12_ok, nmX12⟩
theorem fl_X12_202 : Fl RX12 202 10 17 := ⟨RX12, TX12, 45, tyX12, rfl, inW12, by decide, gw (i := 1090) (by decide +kernel) rfl, tyX12_ok, nmX12⟩
theorem fl_X12_214 : Fl RX12 214 10 25 := ⟨RX12, TX12, 45, tyX12, rfl, inW12, by decide, gw (i := 1098) (by decide +kernel) rfl, tyX12_ok, nmX12⟩
theorem fl_X12_217 : Fl RX12 217 10 26 := ⟨RX12, TX12, 45, tyX12, rfl, inW12, by decide, gw (i := 1099) (by decide +kernel) rfl, tyX12_ok, nmX12⟩
theorem fl_X12_220 : Fl RX12 220 10 16 := ⟨RX12, TX12, 45, tyX12, rfl, inW12, by decide, gw (i := 1089) (by decide +kernel) rfl, tyX12_ok, nmX12⟩
theorem fl_X12_234 : Fl RX12 234 10 27 := ⟨RX12, TX12, 45, tyX12, rfl, inW12, by decide, gw (i := 1100) (by decide +kernel) rfl, tyX12_ok, nmX12⟩
theorem fl_X12_316 : Fl RX12 316 10 33 := ⟨RX12, TX12, 45, tyX12, rfl, inW12, by decide, gw (i := 1106) (by decide +kernel) rfl, tyX12_ok, nmX12⟩
theorem fl_X12_329 : Fl RX12 329 10 34 := ⟨RX12, TX12, 45, tyX12, rfl, inW12, by decide, gw (i := 1107) (by decide +kernel) rfl, tyX12_ok, nmX12⟩
theorem fl_X12_350 : Fl RX12 350 10 24 := ⟨RX12, TX12, 45, tyX12, rfl, inW12, by decide, gw (i := 1097) (by decide +kernel) rfl, tyX12_ok, nmX12⟩
theorem fl_X12_372 : Fl RX12 372 10 36 := ⟨RX12, TX12, 45, tyX12, rfl, inW12, by decide, gw (i := 1109) (by decide +kernel) rfl, tyX12_ok, nmX12⟩
theorem fl_X12_402 : Fl RX12 402 10 38 := ⟨RX12, TX12, 45, tyX12, rfl, inW12, by decide, gw (i := 1111) (by decide +kernel) rfl, tyX12_ok, nmX12⟩
theorem fl_X12_423 : Fl RX12 423 10 41 := ⟨RX12, TX12, 45, tyX12, rfl, inW12, by decide, gw (i := 1114) (by decide +kernel) rfl, tyX12_ok, nmX12⟩
theorem fl_X12_426 : Fl RX12 426 10 42 := ⟨RX12, TX12, 45, tyX12, rfl, inW12, by decide, gw (i := 1115) (by decide +kernel) rfl, tyX12_ok, nmX12⟩
theorem fl_X12_429 : Fl RX12 429 10 43 := ⟨RX12, TX12, 45, tyX12, rfl, inW12, by decide, gw (i := 1116) (by decide +kernel) rfl, tyX12_ok, nmX12⟩
theorem kc_X11_200 : Cond.constantLong RX11 200 (-1000000 : Int64) ∈ gW := gw (i := 560) (by decide +kernel) rfl
theorem kc_X11_202 : Cond.constantLong RX11 202 (-1 : Int64) ∈ gW := gw (i := 561) (by decide +kernel) rfl
theorem kc_X11_254 : Cond.constantLong RX11 254 (6364136223846793005 : Int64) ∈ gW := gw (i := 737) (by decide +kernel) rfl
theorem kc_X11_256 : Cond.constantLong RX11 256 (1442695040888963407 : Int64) ∈ gW := gw (i := 738) (by decide +kernel) rfl
theorem kc_X11_268 : Cond.constant RX11 268 (-1000000 : Int32) ∈ gW := gw (i := 759) (by decide +kernel) rfl
theorem kc_X1_30 : Cond.constant RX1 30 (1000000000 : Int32) ∈ gW := gw (i := 816) (by decide +kernel) rfl
theorem kc_X1_38 : Cond.constantLong RX1 38 (100 : Int64) ∈ gW := gw (i := 817) (by decide +kernel) rfl
theorem kc_X2_56 : Cond.constant RX2 56 (-1000000 : Int32) ∈ gW := gw (i := 765) (by decide +kernel) rfl
theorem kc_X10_47 : Cond.constant RX10 47 (163840 : Int32) ∈ gW := gw (i := 778) (by decide +kernel) rfl
theorem kc_X12_59 : Cond.constant RX12 59 (62640 : Int32) ∈ gW := gw (i := 1072) (by decide +kernel) rfl
theorem kc_X12_191 : Cond.constantLong RX12 191 (2 : Int64) ∈ gW := gw (i := 1232) (by decide +kernel) rfl
theorem kc_X12_244 : Cond.constantLong RX12 244 (10 : Int64) ∈ gW := gw (i := 1495) (by decide +kernel) rfl
theorem kc_X12_308 : Cond.constantLong RX12 308 (9999 : Int64) ∈ gW := gw (i := 1412) (by decide +kernel) rfl
theorem kc_X12_314 : Cond.constantLong RX12 314 (999 : Int64) ∈ gW := gw (i := 1416) (by decide +kernel) rfl
theorem kc_X12_376 : Cond.constantLong RX12 376 (6364136223846793005 : Int64) ∈ gW := gw (i := 1565) (by decide +kernel) rfl
theorem kc_X12_378 : Cond.constantLong RX12 378 (1442695040888963407 : Int64) ∈ gW := gw (i := 1566) (by decide +kernel) rfl
theorem kc_X12_383 : Cond.constantLong RX12 383 (40 : Int64) ∈ gW := gw (i := 1556) (by decide +kernel) rfl
theorem kc_X12_388 : Cond.constantLong RX12 388 (3 : Int64) ∈ gW := gw (i := 1571) (by decide +kernel) rfl
theorem kc_X12_390 : Cond.constant RX12 390 (-1000000 : Int32) ∈ gW := gw (i := 1580) (by decide +kernel) rfl
theorem kc_X12_391 : Cond.constantLong RX12 391 (13 : Int64) ∈ gW := gw (i := 1593) (by decide +kernel) rfl
theorem kc_X12_393 : Cond.constantLong RX12 393 (4 : Int64) ∈ gW := gw (i := 1602) (by decide +kernel) rfl
theorem kc_X12_395 : Cond.constantLong RX12 395 (-1000000 : Int64) ∈ gW := gw (i := 1607) (by decide +kernel) rfl
theorem kc_X12_397 : Cond.constantLong RX12 397 (-1 : Int64) ∈ gW := gw (i := 1608) (by decide +kernel) rfl
theorem kc_X12_416 : Cond.constant RX12 416 (2147483647 : Int32) ∈ gW := gw (i := 1637) (by decide +kernel) rfl
theorem kc_X12_432 : Cond.constant RX12 432 (1000000000 : Int32) ∈ gW := gw (i := 1654) (by decide +kernel) rfl
theorem kc_X12_436 : Cond.constantLong RX12 436 (100 : Int64) ∈ gW := gw (i := 1659) (by decide +kernel) rfl
theorem kc_X12_447 : Cond.constantLong RX12 447 (-99 : Int64) ∈ gW := gw (i := 1708) (by decide +kernel) rfl
theorem kc_X12_449 : Cond.constantLong RX12 449 (99 : Int64) ∈ gW := gw (i := 1709) (by decide +kernel) rfl
theorem jmx : Cond.static Lib.Math.max.name ∈ gW ∧ Cond.initialized "java/lang/Math" ∈ gW ∧ Cond.code Lib.Math.max.name Lib.Math.max.code 2 (some .int) ∈ gW := ⟨gw (i := 494) (by decide +kernel) rfl, gw (i := 18) (by decide +kernel) rfl, gw (i := 495) (by decide +kernel) (by decide +kernel)⟩
theorem jmn : Cond.static Lib.Math.min.name ∈ gW ∧ Cond.initialized "java/lang/Math" ∈ gW ∧ Cond.code Lib.Math.min.name Lib.Math.min.code 2 (some .int) ∈ gW := ⟨gw (i := 491) (by decide +kernel) rfl, gw (i := 18) (by decide +kernel) rfl, gw (i := 492) (by decide +kernel) (by decide +kernel)⟩
theorem jcp : Cond.native arraycopyName ∈ gW ∧ Cond.static arraycopyName ∈ gW ∧ Cond.initialized "java/lang/System" ∈ gW := ⟨gw (i := 406) (by decide +kernel) rfl, gw (i := 405) (by decide +kernel) rfl, gw (i := 13) (by decide +kernel) rfl⟩
theorem ml_X11_93 : Cond.methodLink RX11 93 yX9_countBytes ∈ gW := gw (i := 379) (by decide +kernel) rfl
theorem ml_X11_101 : Cond.methodLink RX11 101 yX9_addBytes ∈ gW := gw (i := 383) (by decide +kernel) rfl
theorem ml_X11_105 : Cond.methodLink RX11 105 yX4_examine ∈ gW := gw (i := 395) (by decide +kernel) rfl
theorem ml_X11_111 : Cond.methodLink RX11 111 yX11_noLoan ∈ gW := gw (i := 469) (by decide +kernel) rfl
theorem ml_X11_119 : Cond.methodLink RX11 119 yX6_take ∈ gW := gw (i := 473) (by decide +kernel) rfl
theorem ml_X11_123 : Cond.methodLink RX11 123 yX11_takeLoan ∈ gW := gw (i := 478) (by decide +kernel) rfl
theorem ml_X11_127 : Cond.methodLink RX11 127 yX11_takePolicy ∈ gW := gw (i := 516) (by decide +kernel) rfl
theorem ml_X11_133 : Cond.methodLink RX11 133 arraycopyName ∈ gW := gw (i := 482) (by decide +kernel) rfl
theorem ml_X11_139 : Cond.methodLink RX11 139 yJ7_fill_53178 ∈ gW := gw (i := 483) (by decide +kernel) rfl
theorem ml_X11_145 : Cond.methodLink RX11 145 yX8_nodeOf ∈ gW := gw (i := 484) (by decide +kernel) rfl
theorem ml_X11_149 : Cond.methodLink RX11 149 yX8_bounded ∈ gW := gw (i := 487) (by decide +kernel) rfl
theorem ml_X11_152 : Cond.methodLink RX11 152 yX4_part ∈ gW := gw (i := 496) (by decide +kernel) rfl
theorem ml_X11_155 : Cond.methodLink RX11 155 yX11_takeClause ∈ gW := gw (i := 500) (by decide +kernel) rfl
theorem ml_X11_159 : Cond.methodLink RX11 159 yX2_clear ∈ gW := gw (i := 508) (by decide +kernel) rfl
theorem ml_X11_162 : Cond.methodLink RX11 162 yX8_forget ∈ gW := gw (i := 512) (by decide +kernel) rfl
theorem ml_X11_165 : Cond.methodLink RX11 165 yX11_isNode ∈ gW := gw (i := 504) (by decide +kernel) rfl
theorem ml_X11_169 : Cond.methodLink RX11 169 yJ7_fill_fda19 ∈ gW := gw (i := 520) (by decide +kernel) rfl
theorem ml_X11_172 : Cond.methodLink RX11 172 yX0_setDeed ∈ gW := gw (i := 521) (by decide +kernel) rfl
theorem ml_X11_175 : Cond.methodLink RX11 175 yX0_deedOf ∈ gW := gw (i := 524) (by decide +kernel) rfl
theorem ml_X11_186 : Cond.methodLink RX11 186 yX8_look ∈ gW := gw (i := 535) (by decide +kernel) rfl
theorem ml_X11_191 : Cond.methodLink RX11 191 yX8_interestOf ∈ gW := gw (i := 552) (by decide +kernel) rfl
theorem ml_X11_204 : Cond.methodLink RX11 204 yX8_reckon ∈ gW := gw (i := 562) (by decide +kernel) rfl
theorem ml_X11_216 : Cond.methodLink RX11 216 yX8_lastAllowed ∈ gW := gw (i := 615) (by decide +kernel) rfl
theorem ml_X11_219 : Cond.methodLink RX11 219 yX8_costOf ∈ gW := gw (i := 616) (by decide +kernel) rfl
theorem ml_X11_226 : Cond.methodLink RX11 226 yX11_act ∈ gW := gw (i := 625) (by decide +kernel) rfl
theorem ml_X11_230 : Cond.methodLink RX11 230 yX2_save ∈ gW := gw (i := 629) (by decide +kernel) rfl
theorem ml_X11_233 : Cond.methodLink RX11 233 yX3_attempt ∈ gW := gw (i := 634) (by decide +kernel) rfl
theorem ml_X11_240 : Cond.methodLink RX11 240 yX2_enter ∈ gW := gw (i := 684) (by decide +kernel) rfl
theorem ml_X11_248 : Cond.methodLink RX11 248 yX11_chooseByDraws ∈ gW := gw (i := 729) (by decide +kernel) rfl
theorem ml_X11_251 : Cond.methodLink RX11 251 yX11_draw ∈ gW := gw (i := 733) (by decide +kernel) rfl
theorem ml_X11_258 : Cond.methodLink RX11 258 yX2_takeBack ∈ gW := gw (i := 747) (by decide +kernel) rfl
theorem ml_X11_265 : Cond.methodLink RX11 265 yX2_shown ∈ gW := gw (i := 755) (by decide +kernel) rfl
theorem ml_X11_269 : Cond.methodLink RX11 269 yX2_entry ∈ gW := gw (i := 760) (by decide +kernel) rfl
theorem ml_X11_272 : Cond.methodLink RX11 272 yX11_closed ∈ gW := gw (i := 770) (by decide +kernel) rfl
theorem ml_X11_275 : Cond.methodLink RX11 275 yX10_go ∈ gW := gw (i := 774) (by decide +kernel) rfl
theorem ml_X11_288 : Cond.methodLink RX11 288 yX1_pour ∈ gW := gw (i := 810) (by decide +kernel) rfl
theorem ml_X11_295 : Cond.methodLink RX11 295 yX1_atTheEnd ∈ gW := gw (i := 822) (by decide +kernel) rfl
theorem ml_X11_298 : Cond.methodLink RX11 298 yX1_stopped ∈ gW := gw (i := 826) (by decide +kernel) rfl
theorem ml_X11_301 : Cond.methodLink RX11 301 yX11_here ∈ gW := gw (i := 834) (by decide +kernel) rfl
theorem ml_X11_304 : Cond.methodLink RX11 304 yX11_costHere ∈ gW := gw (i := 838) (by decide +kernel) rfl
theorem ml_X11_315 : Cond.methodLink RX11 315 yX8_build ∈ gW := gw (i := 842) (by decide +kernel) rfl
theorem ml_X11_319 : Cond.methodLink RX11 319 yX8_mayCall ∈ gW := gw (i := 847) (by decide +kernel) rfl
theorem ml_X11_323 : Cond.methodLink RX11 323 Lib.Math.min.name ∈ gW := gw (i := 848) (by decide +kernel) rfl
theorem ml_X11_331 : Cond.methodLink RX11 331 yX11_weighedHere ∈ gW := gw (i := 853) (by decide +kernel) rfl
theorem ml_X11_335 : Cond.methodLink RX11 335 yX11_tillWithNotice ∈ gW := gw (i := 859) (by decide +kernel) rfl
theorem ml_X11_339 : Cond.methodLink RX11 339 yX11_tillAtOnce ∈ gW := gw (i := 863) (by decide +kernel) rfl
theorem ml_X11_342 : Cond.methodLink RX11 342 yX8_dueAt ∈ gW := gw (i := 857) (by decide +kernel) rfl
theorem ml_X11_345 : Cond.methodLink RX11 345 yX8_weigh ∈ gW := gw (i := 858) (by decide +kernel) rfl
theorem ml_X11_356 : Cond.methodLink RX11 356 yX11_leavesAt ∈ gW := gw (i := 867) (by decide +kernel) rfl
theorem ml_X11_360 : Cond.methodLink RX11 360 yX8_couponAt ∈ gW := gw (i := 871) (by decide +kernel) rfl
theorem ml_X11_363 : Cond.methodLink RX11 363 yX8_renewalAt ∈ gW := gw (i := 872) (by decide +kernel) rfl
theorem ml_X11_366 : Cond.methodLink RX11 366 yX8_leastDeed ∈ gW := gw (i := 913) (by decide +kernel) rfl
theorem ml_X11_369 : Cond.methodLink RX11 369 yX11_mendsTrial ∈ gW := gw (i := 918) (by decide +kernel) rfl
theorem ml_X11_387 : Cond.methodLink RX11 387 yX6_has ∈ gW := gw (i := 934) (by decide +kernel) rfl
theorem ml_X11_390 : Cond.methodLink RX11 390 yX6_sizeOf ∈ gW := gw (i := 938) (by decide +kernel) rfl
theorem ml_X11_393 : Cond.methodLink RX11 393 yX6_number ∈ gW := gw (i := 943) (by decide +kernel) rfl
theorem ml_X11_395 : Cond.methodLink RX11 395 yX11_tries ∈ gW := gw (i := 952) (by decide +kernel) rfl
theorem ml_X11_398 : Cond.methodLink RX11 398 yX11_leftNow ∈ gW := gw (i := 964) (by decide +kernel) rfl
theorem ml_X11_401 : Cond.methodLink RX11 401 yX11_greatestRate ∈ gW := gw (i := 968) (by decide +kernel) rfl
theorem ml_X11_404 : Cond.methodLink RX11 404 Lib.Math.max.name ∈ gW := gw (i := 972) (by decide +kernel) rfl
theorem ml_X11_407 : Cond.methodLink RX11 407 yX2_keepImage ∈ gW := gw (i := 977) (by decide +kernel) rfl
theorem ml_X11_410 : Cond.methodLink RX11 410 yX2_bringBack ∈ gW := gw (i := 985) (by decide +kernel) rfl
theorem ml_X1_20 : Cond.methodLink RX1 20 yJ7_fill_53178 ∈ gW := gw (i := 814) (by decide +kernel) rfl
theorem ml_X1_26 : Cond.methodLink RX1 26 yX8_nodeOf ∈ gW := gw (i := 815) (by decide +kernel) rfl
theorem ml_X2_40 : Cond.methodLink RX2 40 arraycopyName ∈ gW := gw (i := 633) (by decide +kernel) rfl
theorem ml_X2_46 : Cond.methodLink RX2 46 Lib.Math.min.name ∈ gW := gw (i := 688) (by decide +kernel) rfl
theorem ml_X2_52 : Cond.methodLink RX2 52 yX2_shown ∈ gW := gw (i := 764) (by decide +kernel) rfl
theorem ml_X3_26 : Cond.methodLink RX3 26 yX8_look ∈ gW := gw (i := 638) (by decide +kernel) rfl
theorem ml_X3_36 : Cond.methodLink RX3 36 yX3_passYear ∈ gW := gw (i := 639) (by decide +kernel) rfl
theorem ml_X3_40 : Cond.methodLink RX3 40 yX3_giveNotice ∈ gW := gw (i := 656) (by decide +kernel) rfl
theorem ml_X3_43 : Cond.methodLink RX3 43 yX3_takeNoticeBack ∈ gW := gw (i := 661) (by decide +kernel) rfl
theorem ml_X3_47 : Cond.methodLink RX3 47 yX3_tellInstalment ∈ gW := gw (i := 665) (by decide +kernel) rfl
theorem ml_X3_51 : Cond.methodLink RX3 51 yX3_tellRate ∈ gW := gw (i := 669) (by decide +kernel) rfl
theorem ml_X3_55 : Cond.methodLink RX3 55 yX8_reckon ∈ gW := gw (i := 673) (by decide +kernel) rfl
theorem ml_X3_64 : Cond.methodLink RX3 64 yX3_here ∈ gW := gw (i := 650) (by decide +kernel) rfl
theorem ml_X3_67 : Cond.methodLink RX3 67 yX3_carryOut ∈ gW := gw (i := 674) (by decide +kernel) rfl
theorem ml_X3_70 : Cond.methodLink RX3 70 yX3_takeDeeds ∈ gW := gw (i := 678) (by decide +kernel) rfl
theorem ml_X3_74 : Cond.methodLink RX3 74 yX0_deedOf ∈ gW := gw (i := 682) (by decide +kernel) rfl
theorem ml_X3_78 : Cond.methodLink RX3 78 yX8_nodeOf ∈ gW := gw (i := 654) (by decide +kernel) rfl
theorem ml_X3_81 : Cond.methodLink RX3 81 yX8_interestOf ∈ gW := gw (i := 643) (by decide +kernel) rfl
theorem ml_X3_84 : Cond.methodLink RX3 84 yX8_dueAt ∈ gW := gw (i := 644) (by decide +kernel) rfl
theorem ml_X3_87 : Cond.methodLink RX3 87 yX3_settleNotice ∈ gW := gw (i := 645) (by decide +kernel) rfl
theorem ml_X3_90 : Cond.methodLink RX3 90 yX8_lastAllowed ∈ gW := gw (i := 660) (by decide +kernel) rfl
theorem ml_X3_99 : Cond.methodLink RX3 99 yX8_renewalAt ∈ gW := gw (i := 649) (by decide +kernel) rfl
theorem ml_X3_102 : Cond.methodLink RX3 102 yX8_couponAt ∈ gW := gw (i := 655) (by decide +kernel) rfl
theorem ml_X3_105 : Cond.methodLink RX3 105 yX0_setDeed ∈ gW := gw (i := 683) (by decide +kernel) rfl
theorem ml_X4_34 : Cond.methodLink RX4 34 yJ7_fill_53178 ∈ gW := gw (i := 399) (by decide +kernel) rfl
theorem ml_X4_43 : Cond.methodLink RX4 43 arraycopyName ∈ gW := gw (i := 404) (by decide +kernel) rfl
theorem ml_X4_49 : Cond.methodLink RX4 49 yX4_readSteps ∈ gW := gw (i := 407) (by decide +kernel) rfl
theorem ml_X4_53 : Cond.methodLink RX4 53 yX4_readClauses ∈ gW := gw (i := 441) (by decide +kernel) rfl
theorem ml_X4_59 : Cond.methodLink RX4 59 yX4_skipBlanks ∈ gW := gw (i := 411) (by decide +kernel) rfl
theorem ml_X4_66 : Cond.methodLink RX4 66 yX9_at ∈ gW := gw (i := 415) (by decide +kernel) rfl
theorem ml_X4_68 : Cond.methodLink RX4 68 yX4_placeOf ∈ gW := gw (i := 421) (by decide +kernel) rfl
theorem ml_X4_75 : Cond.methodLink RX4 75 yX4_readItems ∈ gW := gw (i := 449) (by decide +kernel) rfl
theorem ml_X4_84 : Cond.methodLink RX4 84 yX4_startPart ∈ gW := gw (i := 455) (by decide +kernel) rfl
theorem ml_X4_96 : Cond.methodLink RX4 96 yX4_readNumber ∈ gW := gw (i := 434) (by decide +kernel) rfl
theorem ml_X4_103 : Cond.methodLink RX4 103 yJ7_fill_fda19 ∈ gW := gw (i := 428) (by decide +kernel) rfl
theorem ml_X4_111 : Cond.methodLink RX4 111 yX4_readStepNumbers ∈ gW := gw (i := 424) (by decide +kernel) rfl
theorem ml_X4_116 : Cond.methodLink RX4 116 yX4_isDigit ∈ gW := gw (i := 438) (by decide +kernel) rfl
theorem ml_X6_22 : Cond.methodLink RX6 22 yX6_has ∈ gW := gw (i := 942) (by decide +kernel) rfl
theorem ml_X6_26 : Cond.methodLink RX6 26 yX6_sizeOf ∈ gW := gw (i := 947) (by decide +kernel) rfl
theorem ml_X6_30 : Cond.methodLink RX6 30 arraycopyName ∈ gW := gw (i := 477) (by decide +kernel) rfl
theorem ml_X8_53 : Cond.methodLink RX8 53 Lib.Math.min.name ∈ gW := gw (i := 490) (by decide +kernel) rfl
theorem ml_X8_59 : Cond.methodLink RX8 59 Lib.Math.max.name ∈ gW := gw (i := 493) (by decide +kernel) rfl
theorem ml_X8_66 : Cond.methodLink RX8 66 yX8_bounded ∈ gW := gw (i := 539) (by decide +kernel) rfl
theorem ml_X8_70 : Cond.methodLink RX8 70 yX8_takesOver ∈ gW := gw (i := 540) (by decide +kernel) rfl
theorem ml_X8_74 : Cond.methodLink RX8 74 yX8_reckonYears ∈ gW := gw (i := 544) (by decide +kernel) rfl
theorem ml_X8_82 : Cond.methodLink RX8 82 yX8_priceOf ∈ gW := gw (i := 548) (by decide +kernel) rfl
theorem ml_X8_85 : Cond.methodLink RX8 85 yX8_interestOf ∈ gW := gw (i := 585) (by decide +kernel) rfl
theorem ml_X8_88 : Cond.methodLink RX8 88 yX8_couponAt ∈ gW := gw (i := 572) (by decide +kernel) rfl
theorem ml_X8_100 : Cond.methodLink RX8 100 yX8_mayCall ∈ gW := gw (i := 590) (by decide +kernel) rfl
theorem ml_X8_104 : Cond.methodLink RX8 104 yX8_look ∈ gW := gw (i := 566) (by decide +kernel) rfl
theorem ml_X8_115 : Cond.methodLink RX8 115 yX8_nodeOf ∈ gW := gw (i := 567) (by decide +kernel) rfl
theorem ml_X8_118 : Cond.methodLink RX8 118 yX8_couponOfNode ∈ gW := gw (i := 568) (by decide +kernel) rfl
theorem ml_X8_121 : Cond.methodLink RX8 121 yX8_build ∈ gW := gw (i := 576) (by decide +kernel) rfl
theorem ml_X8_128 : Cond.methodLink RX8 128 yJ7_fill_fda19 ∈ gW := gw (i := 580) (by decide +kernel) rfl
theorem ml_X8_134 : Cond.methodLink RX8 134 yX8_dueAt ∈ gW := gw (i := 581) (by decide +kernel) rfl
theorem ml_X8_137 : Cond.methodLink RX8 137 yX8_lastAllowed ∈ gW := gw (i := 586) (by decide +kernel) rfl
theorem ml_X8_140 : Cond.methodLink RX8 140 yX8_reckonDeeds ∈ gW := gw (i := 594) (by decide +kernel) rfl
theorem ml_X8_144 : Cond.methodLink RX8 144 yX0_deedOf ∈ gW := gw (i := 606) (by decide +kernel) rfl
theorem ml_X8_148 : Cond.methodLink RX8 148 yX8_leastDeed ∈ gW := gw (i := 607) (by decide +kernel) rfl
theorem ml_X8_155 : Cond.methodLink RX8 155 yX8_costOf ∈ gW := gw (i := 611) (by decide +kernel) rfl
theorem ml_X8_158 : Cond.methodLink RX8 158 yX8_weigh ∈ gW := gw (i := 598) (by decide +kernel) rfl
theorem ml_X8_162 : Cond.methodLink RX8 162 yX8_renewalAt ∈ gW := gw (i := 602) (by decide +kernel) rfl
theorem ml_X10_62 : Cond.methodLink RX10 62 yJ7_fill_d0a16 ∈ gW := gw (i := 779) (by decide +kernel) rfl
theorem ml_X10_68 : Cond.methodLink RX10 68 yX8_reckon ∈ gW := gw (i := 782) (by decide +kernel) rfl
theorem ml_X10_72 : Cond.methodLink RX10 72 yX10_arrive ∈ gW := gw (i := 783) (by decide +kernel) rfl
theorem ml_X10_78 : Cond.methodLink RX10 78 yX10_finish ∈ gW := gw (i := 787) (by decide +kernel) rfl
theorem ml_X10_85 : Cond.methodLink RX10 85 yX8_nodeOf ∈ gW := gw (i := 793) (by decide +kernel) rfl
theorem ml_X10_89 : Cond.methodLink RX10 89 yX10_passYear ∈ gW := gw (i := 794) (by decide +kernel) rfl
theorem ml_X10_93 : Cond.methodLink RX10 93 yX10_settleNotice ∈ gW := gw (i := 799) (by decide +kernel) rfl
theorem ml_X10_100 : Cond.methodLink RX10 100 yX8_dueAt ∈ gW := gw (i := 798) (by decide +kernel) rfl
theorem ml_X10_106 : Cond.methodLink RX10 106 yX8_couponOfNode ∈ gW := gw (i := 803) (by decide +kernel) rfl
theorem ml_X10_113 : Cond.methodLink RX10 113 yX8_build ∈ gW := gw (i := 804) (by decide +kernel) rfl
theorem ml_X10_117 : Cond.methodLink RX10 117 yX8_renewalAt ∈ gW := gw (i := 805) (by decide +kernel) rfl
theorem ml_X10_129 : Cond.methodLink RX10 129 Lib.Math.min.name ∈ gW := gw (i := 791) (by decide +kernel) rfl
theorem ml_X10_134 : Cond.methodLink RX10 134 Lib.Math.max.name ∈ gW := gw (i := 792) (by decide +kernel) rfl
theorem ml_X12_89 : Cond.methodLink RX12 89 yX12_bytesOf ∈ gW := gw (i := 1217) (by decide +kernel) rfl
theorem ml_X12_93 : Cond.methodLink RX12 93 yX12_brings ∈ gW := gw (i := 1220) (by decide +kernel) rfl
theorem ml_X12_100 : Cond.methodLink RX12 100 yX12_here ∈ gW := gw (i := 1251) (by decide +kernel) rfl
theorem ml_X12_107 : Cond.methodLink RX12 107 yX12_look ∈ gW := gw (i := 1247) (by decide +kernel) rfl
theorem ml_X12_110 : Cond.methodLink RX12 110 yX12_isDigit ∈ gW := gw (i := 1323) (by decide +kernel) rfl
theorem ml_X12_114 : Cond.methodLink RX12 114 yX12_fails ∈ gW := gw (i := 1255) (by decide +kernel) rfl
theorem ml_X12_117 : Cond.methodLink RX12 117 yX12_digit ∈ gW := gw (i := 1319) (by decide +kernel) rfl
theorem ml_X12_120 : Cond.methodLink RX12 120 yJ0_length_8abf5 ∈ gW := gw (i := 1267) (by decide +kernel) rfl
theorem ml_X12_124 : Cond.methodLink RX12 124 yJ0_charAt_5068e ∈ gW := gw (i := 1277) (by decide +kernel) rfl
theorem ml_X12_131 : Cond.methodLink RX12 131 yX12_mostOf ∈ gW := gw (i := 1331) (by decide +kernel) rfl
theorem ml_X12_137 : Cond.methodLink RX12 137 yX12_spotOf ∈ gW := gw (i := 1264) (by decide +kernel) rfl
theorem ml_X12_141 : Cond.methodLink RX12 141 yX12_number ∈ gW := gw (i := 1315) (by decide +kernel) rfl
theorem ml_X12_144 : Cond.methodLink RX12 144 yX12_laysBounds ∈ gW := gw (i := 1327) (by decide +kernel) rfl
theorem ml_X12_148 : Cond.methodLink RX12 148 yX12_isIn ∈ gW := gw (i := 1233) (by decide +kernel) rfl
theorem ml_X12_160 : Cond.methodLink RX12 160 yX12_items ∈ gW := gw (i := 1260) (by decide +kernel) rfl
theorem ml_X12_168 : Cond.methodLink RX12 168 yX12_usual ∈ gW := gw (i := 1240) (by decide +kernel) rfl
theorem ml_X12_171 : Cond.methodLink RX12 171 yX12_clause ∈ gW := gw (i := 1243) (by decide +kernel) rfl
theorem ml_X12_180 : Cond.methodLink RX12 180 yX12_deedClause ∈ gW := gw (i := 1352) (by decide +kernel) rfl
theorem ml_X12_185 : Cond.methodLink RX12 185 yX12_numbersOf ∈ gW := gw (i := 1345) (by decide +kernel) rfl
theorem ml_X12_188 : Cond.methodLink RX12 188 yX12_readStep ∈ gW := gw (i := 1340) (by decide +kernel) rfl
theorem ml_X12_193 : Cond.methodLink RX12 193 yX12_readLoan ∈ gW := gw (i := 1236) (by decide +kernel) rfl
theorem ml_X12_196 : Cond.methodLink RX12 196 yX12_readScript ∈ gW := gw (i := 1336) (by decide +kernel) rfl
theorem ml_X12_199 : Cond.methodLink RX12 199 yX12_readPolicy ∈ gW := gw (i := 1348) (by decide +kernel) rfl
theorem ml_X12_206 : Cond.methodLink RX12 206 yX12_isNode ∈ gW := gw (i := 1366) (by decide +kernel) rfl
theorem ml_X12_210 : Cond.methodLink RX12 210 yX12_node ∈ gW := gw (i := 1370) (by decide +kernel) rfl
theorem ml_X12_223 : Cond.methodLink RX12 223 yX12_fault ∈ gW := gw (i := 1361) (by decide +kernel) rfl
theorem ml_X12_225 : Cond.methodLink RX12 225 yX12_tellsPolicy ∈ gW := gw (i := 1362) (by decide +kernel) rfl
theorem ml_X12_228 : Cond.methodLink RX12 228 yX12_begins ∈ gW := gw (i := 1373) (by decide +kernel) rfl
theorem ml_X12_231 : Cond.methodLink RX12 231 yX12_bound ∈ gW := gw (i := 1421) (by decide +kernel) rfl
theorem ml_X12_237 : Cond.methodLink RX12 237 yX12_rateOf ∈ gW := gw (i := 1417) (by decide +kernel) rfl
theorem ml_X12_241 : Cond.methodLink RX12 241 yX12_interest ∈ gW := gw (i := 1436) (by decide +kernel) rfl
theorem ml_X12_246 : Cond.methodLink RX12 246 yX12_cell ∈ gW := gw (i := 1488) (by decide +kernel) rfl
theorem ml_X12_250 : Cond.methodLink RX12 250 yX12_due ∈ gW := gw (i := 1432) (by decide +kernel) rfl
theorem ml_X12_253 : Cond.methodLink RX12 253 yX12_behind ∈ gW := gw (i := 1484) (by decide +kernel) rfl
theorem ml_X12_257 : Cond.methodLink RX12 257 yX12_next ∈ gW := gw (i := 1491) (by decide +kernel) rfl
theorem ml_X12_261 : Cond.methodLink RX12 261 yX12_paid ∈ gW := gw (i := 1496) (by decide +kernel) rfl
theorem ml_X12_265 : Cond.methodLink RX12 265 yX12_mayEnd ∈ gW := gw (i := 1408) (by decide +kernel) rfl
theorem ml_X12_269 : Cond.methodLink RX12 269 yX12_held ∈ gW := gw (i := 1480) (by decide +kernel) rfl
theorem ml_X12_273 : Cond.methodLink RX12 273 yX12_costBy ∈ gW := gw (i := 1476) (by decide +kernel) rfl
theorem ml_X12_277 : Cond.methodLink RX12 277 yX12_may ∈ gW := gw (i := 1404) (by decide +kernel) rfl
theorem ml_X12_281 : Cond.methodLink RX12 281 yX12_policyDeed ∈ gW := gw (i := 1468) (by decide +kernel) rfl
theorem ml_X12_285 : Cond.methodLink RX12 285 yX12_bestDeed ∈ gW := gw (i := 1472) (by decide +kernel) rfl
theorem ml_X12_289 : Cond.methodLink RX12 289 yX12_laysYears ∈ gW := gw (i := 1424) (by decide +kernel) rfl
theorem ml_X12_293 : Cond.methodLink RX12 293 yX12_newCoupon ∈ gW := gw (i := 1448) (by decide +kernel) rfl
theorem ml_X12_296 : Cond.methodLink RX12 296 yX12_laysBy ∈ gW := gw (i := 1464) (by decide +kernel) rfl
theorem ml_X12_300 : Cond.methodLink RX12 300 yX12_lays ∈ gW := gw (i := 1460) (by decide +kernel) rfl
theorem ml_X12_304 : Cond.methodLink RX12 304 yX12_isOver ∈ gW := gw (i := 1400) (by decide +kernel) rfl
theorem ml_X12_310 : Cond.methodLink RX12 310 yX12_canCome ∈ gW := gw (i := 1413) (by decide +kernel) rfl
theorem ml_X12_319 : Cond.methodLink RX12 319 yX12_pays ∈ gW := gw (i := 1440) (by decide +kernel) rfl
theorem ml_X12_323 : Cond.methodLink RX12 323 yX12_runsOut ∈ gW := gw (i := 1444) (by decide +kernel) rfl
theorem ml_X12_326 : Cond.methodLink RX12 326 yX12_givesNotice ∈ gW := gw (i := 1452) (by decide +kernel) rfl
theorem ml_X12_332 : Cond.methodLink RX12 332 yX12_stops ∈ gW := gw (i := 1396) (by decide +kernel) rfl
theorem ml_X12_336 : Cond.methodLink RX12 336 yX12_passes ∈ gW := gw (i := 1428) (by decide +kernel) rfl
theorem ml_X12_339 : Cond.methodLink RX12 339 yX12_bestHere ∈ gW := gw (i := 1456) (by decide +kernel) rfl
theorem ml_X12_343 : Cond.methodLink RX12 343 yX12_doesBest ∈ gW := gw (i := 1500) (by decide +kernel) rfl
theorem ml_X12_347 : Cond.methodLink RX12 347 yX12_adopts ∈ gW := gw (i := 1504) (by decide +kernel) rfl
theorem ml_X12_353 : Cond.methodLink RX12 353 yX12_copyRow ∈ gW := gw (i := 1389) (by decide +kernel) rfl
theorem ml_X12_357 : Cond.methodLink RX12 357 yX12_does ∈ gW := gw (i := 1392) (by decide +kernel) rfl
theorem ml_X12_360 : Cond.methodLink RX12 360 yX12_remember ∈ gW := gw (i := 1508) (by decide +kernel) rfl
theorem ml_X12_363 : Cond.methodLink RX12 363 yX12_notes ∈ gW := gw (i := 1512) (by decide +kernel) rfl
theorem ml_X12_366 : Cond.methodLink RX12 366 yX12_tries ∈ gW := gw (i := 1385) (by decide +kernel) rfl
theorem ml_X12_369 : Cond.methodLink RX12 369 yX12_act ∈ gW := gw (i := 1381) (by decide +kernel) rfl
theorem ml_X12_380 : Cond.methodLink RX12 380 yX12_draw ∈ gW := gw (i := 1561) (by decide +kernel) rfl
theorem ml_X12_385 : Cond.methodLink RX12 385 yX12_happens ∈ gW := gw (i := 1557) (by decide +kernel) rfl
theorem ml_X12_399 : Cond.methodLink RX12 399 yX12_laysNow ∈ gW := gw (i := 1609) (by decide +kernel) rfl
theorem ml_X12_405 : Cond.methodLink RX12 405 yX12_walkGives ∈ gW := gw (i := 1629) (by decide +kernel) rfl
theorem ml_X12_408 : Cond.methodLink RX12 408 yX12_walkActs ∈ gW := gw (i := 1625) (by decide +kernel) rfl
theorem ml_X12_411 : Cond.methodLink RX12 411 yX12_walks ∈ gW := gw (i := 1621) (by decide +kernel) rfl
theorem ml_X12_417 : Cond.methodLink RX12 417 yX12_isCalled ∈ gW := gw (i := 1638) (by decide +kernel) rfl
theorem ml_X12_420 : Cond.methodLink RX12 420 yX12_unlike ∈ gW := gw (i := 1642) (by decide +kernel) rfl
theorem ml_X12_433 : Cond.methodLink RX12 433 yX12_goesOn ∈ gW := gw (i := 1655) (by decide +kernel) rfl
theorem ml_X12_438 : Cond.methodLink RX12 438 yX12_laysMasses ∈ gW := gw (i := 1650) (by decide +kernel) rfl
theorem ml_X12_441 : Cond.methodLink RX12 441 yX12_laysPolicy ∈ gW := gw (i := 1672) (by decide +kernel) rfl
theorem ml_X12_444 : Cond.methodLink RX12 444 yX12_here_ ∈ gW := gw (i := 1676) (by decide +kernel) rfl
theorem ml_X12_451 : Cond.methodLink RX12 451 yX12_mendsAll ∈ gW := gw (i := 1734) (by decide +kernel) rfl
theorem ml_X12_454 : Cond.methodLink RX12 454 yX12_isScript ∈ gW := gw (i := 1742) (by decide +kernel) rfl
theorem ml_X12_457 : Cond.methodLink RX12 457 yX12_leftNow ∈ gW := gw (i := 1758) (by decide +kernel) rfl
theorem ml_X12_460 : Cond.methodLink RX12 460 yX12_highest ∈ gW := gw (i := 1762) (by decide +kernel) rfl
theorem ml_J7_13 : Cond.methodLink RJ7 13 yJ7_rangeCheck_23922 ∈ gW := gw (i := 431) (by decide +kernel) rfl
theorem mc_X9_countBytes : MeC mX9_countBytes := ⟨gw (i := 382) (by decide +kernel) (by decide +kernel), gw (i := 2) (by decide +kernel) rfl, ⟨by decide +kernel, by decide +kernel⟩, by decide, by decide +kernel⟩
theorem mv_X9_countBytes : MeV mX9_countBytes 1 7 := ⟨mc_X9_countBytes, by unfold MeN; decide +kernel, gw (i := 380) (by decide +kernel) rfl, gw (i := 381) (by decide +kernel) rfl, rfl⟩
theorem mc_X9_addBytes : MeC mX9_addBytes := ⟨gw (i := 386) (by decide +kernel) (by decide +kernel), gw (i := 2) (by decide +kernel) rfl, ⟨by decide +kernel, by decide +kernel⟩, by decide, by decide +kernel⟩
theorem mv_X9_addBytes : MeV mX9_addBytes 1 7 := ⟨mc_X9_addBytes, by unfold MeN; decide +kernel, gw (i := 384) (by decide +kernel) rfl, gw (i := 385) (by decide +kernel) rfl, rfl⟩
theorem mc_X4_examine : MeC mX4_examine := ⟨gw (i := 398) (by decide +kernel) (by decide +kernel), gw (i := 3) (by decide +kernel) rfl, ⟨by decide +kernel, by decide +kernel⟩, by decide, by decide +kernel⟩
theorem mv_X4_examine : MeV mX4_examine 1 3 := ⟨mc_X4_examine, by unfold MeN; decide +kernel, gw (i := 396) (by decide +kernel) rfl, gw (i := 397) (by decide +kernel) rfl, rfl⟩
theorem mc_X11_noLoan : MeC mX11_noLoan := ⟨gw (i := 472) (by decide +kernel) (by decide +kernel), gw (i := 1) (by decide +kernel) rfl, ⟨by decide +kernel, by decide +kernel⟩, by decide, by decide +kernel⟩
theorem mv_X11_noLoan : MeV mX11_noLoan 0 9 := ⟨mc_X11_noLoan, by unfold MeN; decide +kernel, gw (i := 471) (by decide +kernel) rfl, gs (i := 7) (by decide +kernel) rfl, rfl⟩
theorem mc_X6_take : MeC mX6_take := ⟨gw (i := 476) (by decide +kernel) (by decide +kernel), gw (i := 4) (by decide +kernel) rfl, ⟨by decide +kernel, by decide +kernel⟩, by decide, by decide +kernel⟩
theorem mv_X6_take : MeV mX6_take 2 4 := ⟨mc_X6_take, by unfold MeN; decide +kernel, gw (i := 474) (by decide +kernel) rfl, gw (i := 475) (by decide +kernel) rfl, rfl⟩
theorem mc_X11_takeLoan : MeC mX11_takeLoan := ⟨gw (i := 481) (by decide +kernel) (by decide +kernel), gw (i := 1) (by decide +kernel) rfl, ⟨by decide +kernel, by decide +kernel⟩, by decide, by decide +kernel⟩
theorem mv_X11_takeLoan : MeV mX11_takeLoan 0 9 := ⟨mc_X11_takeLoan, by unfold MeN; decide +kernel, gw (i := 480) (by decide +kernel) rfl, gs (i := 8) (by decide +kernel) rfl, rfl⟩
theorem mc_X11_takePolicy : MeC mX11_takePolicy := ⟨gw (i := 519) (by decide +kernel) (by decide +kernel), gw (i := 1) (by decide +kernel) rfl, ⟨by decide +kernel, by decide +kernel⟩, by decide, by decide +kernel⟩
theorem mv_X11_takePolicy : MeV mX11_takePolicy 0 9 := ⟨mc_X11_takePolicy, by unfold MeN; decide +kernel, gw (i := 518) (by decide +kernel) rfl, gs (i := 11) (by decide +kernel) rfl, rfl⟩
theorem mc_J7_fill_53178 : MeC mJ7_fill_53178 := ⟨gw (i := 401) (by decide +kernel) (by decide +kernel), gw (i := 12) (by decide +kernel) rfl, ⟨by decide +kernel, by decide +kernel⟩, by decide, by decide +kernel⟩
theorem ms_J7_fill_53178 : MeS mJ7_fill_53178 2 := ⟨mc_J7_fill_53178, by unfold MeN; decide +kernel, gw (i := 400) (by decide +kernel) rfl⟩
theorem mc_X8_nodeOf : MeC mX8_nodeOf := ⟨gw (i := 486) (by decide +kernel) (by decide +kernel), gw (i := 5) (by decide +kernel) rfl, ⟨by decide +kernel, by decide +kernel⟩, by decide, by decide +kernel⟩
theorem ms_X8_nodeOf : MeS mX8_nodeOf 2 := ⟨mc_X8_nodeOf, by unfold MeN; decide +kernel, gw (i := 485) (by decide +kernel) rfl⟩
theorem mc_X8_bounded : MeC mX8_bounded := ⟨gw (i := 489) (by decide +kernel) (by decide +kernel), gw (i := 5) (by decide +kernel) rfl, ⟨by decide +kernel, by decide +kernel⟩, by decide, by decide +kernel⟩
theorem ms_X8_bounded : MeS mX8_bounded 1 := ⟨mc_X8_bounded, by unfold MeN; decide +kernel, gw (i := 488) (by decide +kernel) rfl⟩
theorem mc_X4_part : MeC mX4_part := ⟨gw (i := 499) (by decide +kernel) (by decide +kernel), gw (i := 3) (by decide +kernel) rfl, ⟨by decide +kernel, by decide +kernel⟩, by decide, by decide +kernel⟩
theorem mv_X4_part : MeV mX4_part 2 3 := ⟨mc_X4_part, by unfold MeN; decide +kernel, gw (i := 497) (by decide +kernel) rfl, gw (i := 498) (by decide +kernel) rfl, rfl⟩
theorem mc_X11_takeClause : MeC mX11_takeClause := ⟨gw (i := 503) (by decide +kernel) (by decide +kernel), gw (i := 1) (by decide +kernel) rfl, ⟨by decide +kernel, by decide +kernel⟩, by decide, by decide +kernel⟩
theorem mv_X11_takeClause : MeV mX11_takeClause 4 9 := ⟨mc_X11_takeClause, by unfold MeN; decide +kernel, gw (i := 502) (by decide +kernel) rfl, gs (i := 9) (by decide +kernel) rfl, rfl⟩
theorem mc_X2_clear : MeC mX2_clear := ⟨gw (i := 511) (by decide +kernel) (by decide +kernel), gw (i := 8) (by decide +kernel) rfl, ⟨by decide +kernel, by decide +kernel⟩, by decide, by decide +kernel⟩
theorem mv_X2_clear : MeV mX2_clear 0 1 := ⟨mc_X2_clear, by unfold MeN; decide +kernel, gw (i := 509) (by decide +kernel) rfl, gw (i := 510) (by decide +kernel) rfl, rfl⟩
theorem mc_X8_forget : MeC mX8_forget := ⟨gw (i := 515) (by decide +kernel) (by decide +kernel), gw (i := 5) (by decide +kernel) rfl, ⟨by decide +kernel, by decide +kernel⟩, by decide, by decide +kernel⟩
theorem mv_X8_forget : MeV mX8_forget 0 6 := ⟨mc_X8_forget, by unfold MeN; decide +kernel, gw (i := 513) (by decide +kernel) rfl, gw (i := 514) (by decide +kernel) rfl, rfl⟩
theorem mc_X11_isNode : MeC mX11_isNode := ⟨gw (i := 507) (by decide +kernel) (by decide +kernel), gw (i := 1) (by decide +kernel) rfl, ⟨by decide +kernel, by decide +kernel⟩, by decide, by decide +kernel⟩
theorem mv_X11_isNode : MeV mX11_isNode 2 9 := ⟨mc_X11_isNode, by unfold MeN; decide +kernel, gw (i := 506) (by decide +kernel) rfl, gs (i := 10) (by decide +kernel) rfl, rfl⟩
theorem mc_J7_fill_fda19 : MeC mJ7_fill_fda19 := ⟨gw (i := 430) (by decide +kernel) (by decide +kernel), gw (i := 12) (by decide +kernel) rfl, ⟨by decide +kernel, by decide +kernel⟩, by decide, by decide +kernel⟩
theorem ms_J7_fill_fda19 : MeS mJ7_fill_fda19 4 := ⟨mc_J7_fill_fda19, by unfold MeN; decide +kernel, gw (i := 429) (by decide +kernel) rfl⟩
theorem mc_X0_setDeed : MeC mX0_setDeed := ⟨gw (i := 523) (by decide +kernel) (by decide +kernel), gw (i := 19) (by decide +kernel) rfl, ⟨by decide +kernel, by decide +kernel⟩, by decide, by decide +kernel⟩
theorem ms_X0_setDeed : MeS mX0_setDeed 4 := ⟨mc_X0_setDeed, by unfold MeN; decide +kernel, gw (i := 522) (by decide +kernel) rfl⟩
theorem mc_X0_deedOf : MeC mX0_deedOf := ⟨gw (i := 526) (by decide +kernel) (by decide +kernel), gw (i := 19) (by decide +kernel) rfl, ⟨by decide +kernel, by decide +kernel⟩, by decide, by decide +kernel⟩
theorem ms_X0_deedOf : MeS mX0_deedOf 3 := ⟨mc_X0_deedOf, by unfold MeN; decide +kernel, gw (i := 525) (by decide +kernel) rfl⟩
theorem mc_X8_look : MeC mX8_look := ⟨gw (i := 538) (by decide +kernel) (by decide +kernel), gw (i := 5) (by decide +kernel) rfl, ⟨by decide +kernel, by decide +kernel⟩, by decide, by decide +kernel⟩
theorem mv_X8_look : MeV mX8_look 2 6 := ⟨mc_X8_look, by unfold MeN; decide +kernel, gw (i := 536) (by decide +kernel) rfl, gw (i := 537) (by decide +kernel) rfl, rfl⟩
theorem mc_X8_interestOf : MeC mX8_interestOf := ⟨gw (i := 555) (by decide +kernel) (by decide +kernel), gw (i := 5) (by decide +kernel) rfl, ⟨by decide +kernel, by decide +kernel⟩, by decide, by decide +kernel⟩
theorem mv_X8_interestOf : MeV mX8_interestOf 2 6 := ⟨mc_X8_interestOf, by unfold MeN; decide +kernel, gw (i := 553) (by decide +kernel) rfl, gw (i := 554) (by decide +kernel) rfl, rfl⟩
theorem mc_X8_reckon : MeC mX8_reckon := ⟨gw (i := 565) (by decide +kernel) (by decide +kernel), gw (i := 5) (by decide +kernel) rfl, ⟨by decide +kernel, by decide +kernel⟩, by decide, by decide +kernel⟩
theorem mv_X8_reckon : MeV mX8_reckon 3 6 := ⟨mc_X8_reckon, by unfold MeN; decide +kernel, gw (i := 563) (by decide +kernel) rfl, gw (i := 564) (by decide +kernel) rfl, rfl⟩
theorem mc_X8_lastAllowed : MeC mX8_lastAllowed := ⟨gw (i := 589) (by decide +kernel) (by decide +kernel), gw (i := 5) (by decide +kernel) rfl, ⟨by decide +kernel, by decide +kernel⟩, by decide, by decide +kernel⟩
theorem mv_X8_lastAllowed : MeV mX8_lastAllowed 2 6 := ⟨mc_X8_lastAllowed, by unfold MeN; decide +kernel, gw (i := 587) (by decide +kernel) rfl, gw (i := 588) (by decide +kernel) rfl, rfl⟩
theorem mc_X8_costOf : MeC mX8_costOf := ⟨gw (i := 614) (by decide +kernel) (by decide +kernel), gw (i := 5) (by decide +kernel) rfl, ⟨by decide +kernel, by decide +kernel⟩, by decide, by decide +kernel⟩
theorem mv_X8_costOf : MeV mX8_costOf 3 6 := ⟨mc_X8_costOf, by unfold MeN; decide +kernel, gw (i := 612) (by decide +kernel) rfl, gw (i := 613) (by decide +kernel) rfl, rfl⟩
theorem mc_X11_act : MeC mX11_act := ⟨gw (i := 628) (by decide +kernel) (by decide +kernel), gw (i := 1) (by decide +kernel) rfl, ⟨by decide +kernel, by decide +kernel⟩, by decide, by decide +kernel⟩
theorem mv_X11_act : MeV mX11_act 5 9 := ⟨mc_X11_act, by unfold MeN; decide +kernel, gw (i := 627) (by decide +kernel) rfl, gs (i := 16) (by decide +kernel) rfl, rfl⟩
theorem mc_X2_save : MeC mX2_save := ⟨gw (i := 632) (by decide +kernel) (by decide +kernel), gw (i := 8) (by decide +kernel) rfl, ⟨by decide +kernel, by decide +kernel⟩, by decide, by decide +kernel⟩
theorem mv_X2_save : MeV mX2_save 1 1 := ⟨mc_X2_save, by unfold MeN; decide +kernel, gw (i := 630) (by decide +kernel) rfl, gw (i := 631) (by decide +kernel) rfl, rfl⟩
theorem mc_X3_attempt : MeC mX3_attempt := ⟨gw (i := 637) (by decide +kernel) (by decide +kernel), gw (i := 7) (by decide +kernel) rfl, ⟨by decide +kernel, by decide +kernel⟩, by decide, by decide +kernel⟩
theorem mv_X3_attempt : MeV mX3_attempt 4 2 := ⟨mc_X3_attempt, by unfold MeN; decide +kernel, gw (i := 635) (by decide +kernel) rfl, gw (i := 636) (by decide +kernel) rfl, rfl⟩
theorem mc_X2_enter : MeC mX2_enter := ⟨gw (i := 687) (by decide +kernel) (by decide +kernel), gw (i := 8) (by decide +kernel) rfl, ⟨by decide +kernel, by decide +kernel⟩, by decide, by decide +kernel⟩
theorem mv_X2_enter : MeV mX2_enter 3 1 := ⟨mc_X2_enter, by unfold MeN; decide +kernel, gw (i := 685) (by decide +kernel) rfl, gw (i := 686) (by decide +kernel) rfl, rfl⟩
theorem mc_X11_chooseByDraws : MeC mX11_chooseByDraws := ⟨gw (i := 732) (by decide +kernel) (by decide +kernel), gw (i := 1) (by decide +kernel) rfl, ⟨by decide +kernel, by decide +kernel⟩, by decide, by decide +kernel⟩
theorem mv_X11_chooseByDraws : MeV mX11_chooseByDraws 0 9 := ⟨mc_X11_chooseByDraws, by unfold MeN; decide +kernel, gw (i := 731) (by decide +kernel) rfl, gs (i := 26) (by decide +kernel) rfl, rfl⟩
theorem mc_X11_draw : MeC mX11_draw := ⟨gw (i := 736) (by decide +kernel) (by decide +kernel), gw (i := 1) (by decide +kernel) rfl, ⟨by decide +kernel, by decide +kernel⟩, by decide, by decide +kernel⟩
theorem mv_X11_draw : MeV mX11_draw 1 9 := ⟨mc_X11_draw, by unfold MeN; decide +kernel, gw (i := 735) (by decide +kernel) rfl, gs (i := 27) (by decide +kernel) rfl, rfl⟩
theorem mc_X2_takeBack : MeC mX2_takeBack := ⟨gw (i := 750) (by decide +kernel) (by decide +kernel), gw (i := 8) (by decide +kernel) rfl, ⟨by decide +kernel, by decide +kernel⟩, by decide, by decide +kernel⟩
theorem mv_X2_takeBack : MeV mX2_takeBack 1 1 := ⟨mc_X2_takeBack, by unfold MeN; decide +kernel, gw (i := 748) (by decide +kernel) rfl, gw (i := 749) (by decide +kernel) rfl, rfl⟩
theorem mc_X2_shown : MeC mX2_shown := ⟨gw (i := 758) (by decide +kernel) (by decide +kernel), gw (i := 8) (by decide +kernel) rfl, ⟨by decide +kernel, by decide +kernel⟩, by decide, by decide +kernel⟩
theorem mv_X2_shown : MeV mX2_shown 0 1 := ⟨mc_X2_shown, by unfold MeN; decide +kernel, gw (i := 756) (by decide +kernel) rfl, gw (i := 757) (by decide +kernel) rfl, rfl⟩
theorem mc_X2_entry : MeC mX2_entry := ⟨gw (i := 763) (by decide +kernel) (by decide +kernel), gw (i := 8) (by decide +kernel) rfl, ⟨by decide +kernel, by decide +kernel⟩, by decide, by decide +kernel⟩
theorem mv_X2_entry : MeV mX2_entry 2 1 := ⟨mc_X2_entry, by unfold MeN; decide +kernel, gw (i := 761) (by decide +kernel) rfl, gw (i := 762) (by decide +kernel) rfl, rfl⟩
theorem mc_X11_closed : MeC mX11_closed := ⟨gw (i := 773) (by decide +kernel) (by decide +kernel), gw (i := 1) (by decide +kernel) rfl, ⟨by decide +kernel, by decide +kernel⟩, by decide, by decide +kernel⟩
theorem mv_X11_closed : MeV mX11_closed 0 9 := ⟨mc_X11_closed, by unfold MeN; decide +kernel, gw (i := 772) (by decide +kernel) rfl, gs (i := 28) (by decide +kernel) rfl, rfl⟩
theorem mc_X10_go : MeC mX10_go := ⟨gw (i := 777) (by decide +kernel) (by decide +kernel), gw (i := 9) (by decide +kernel) rfl, ⟨by decide +kernel, by decide +kernel⟩, by decide, by decide +kernel⟩
theorem mv_X10_go : MeV mX10_go 3 8 := ⟨mc_X10_go, by unfold MeN; decide +kernel, gw (i := 775) (by decide +kernel) rfl, gw (i := 776) (by decide +kernel) rfl, rfl⟩
theorem mc_X1_pour : MeC mX1_pour := ⟨gw (i := 813) (by decide +kernel) (by decide +kernel), gw (i := 10) (by decide +kernel) rfl, ⟨by decide +kernel, by decide +kernel⟩, by decide, by decide +kernel⟩
theorem mv_X1_pour : MeV mX1_pour 2 0 := ⟨mc_X1_pour, by unfold MeN; decide +kernel, gw (i := 811) (by decide +kernel) rfl, gw (i := 812) (by decide +kernel) rfl, rfl⟩
theorem mc_X1_atTheEnd : MeC mX1_atTheEnd := ⟨gw (i := 825) (by decide +kernel) (by decide +kernel), gw (i := 10) (by decide +kernel) rfl, ⟨by decide +kernel, by decide +kernel⟩, by decide, by decide +kernel⟩
theorem mv_X1_atTheEnd : MeV mX1_atTheEnd 0 0 := ⟨mc_X1_atTheEnd, by unfold MeN; decide +kernel, gw (i := 823) (by decide +kernel) rfl, gw (i := 824) (by decide +kernel) rfl, rfl⟩
theorem mc_X1_stopped : MeC mX1_stopped := ⟨gw (i := 829) (by decide +kernel) (by decide +kernel), gw (i := 10) (by decide +kernel) rfl, ⟨by decide +kernel, by decide +kernel⟩, by decide, by decide +kernel⟩
theorem mv_X1_stopped : MeV mX1_stopped 3 0 := ⟨mc_X1_stopped, by unfold MeN; decide +kernel, gw (i := 827) (by decide +kernel) rfl, gw (i := 828) (by decide +kernel) rfl, rfl⟩
theorem mc_X11_here : MeC mX11_here := ⟨gw (i := 837) (by decide +kernel) (by decide +kernel), gw (i := 1) (by decide +kernel) rfl, ⟨by decide +kernel, by decide +kernel⟩, by decide, by decide +kernel⟩
theorem mv_X11_here : MeV mX11_here 0 9 := ⟨mc_X11_here, by unfold MeN; decide +kernel, gw (i := 836) (by decide +kernel) rfl, gs (i := 33) (by decide +kernel) rfl, rfl⟩
theorem mc_X11_costHere : MeC mX11_costHere := ⟨gw (i := 841) (by decide +kernel) (by decide +kernel), gw (i := 1) (by decide +kernel) rfl, ⟨by decide +kernel, by decide +kernel⟩, by decide, by decide +kernel⟩
theorem mv_X11_costHere : MeV mX11_costHere 3 9 := ⟨mc_X11_costHere, by unfold MeN; decide +kernel, gw (i := 840) (by decide +kernel) rfl, gs (i := 34) (by decide +kernel) rfl, rfl⟩
theorem mc_X8_build : MeC mX8_build := ⟨gw (i := 579) (by decide +kernel) (by decide +kernel), gw (i := 5) (by decide +kernel) rfl, ⟨by decide +kernel, by decide +kernel⟩, by decide, by decide +kernel⟩
theorem mv_X8_build : MeV mX8_build 4 6 := ⟨mc_X8_build, by unfold MeN; decide +kernel, gw (i := 577) (by decide +kernel) rfl, gw (i := 578) (by decide +kernel) rfl, rfl⟩
theorem mc_X8_mayCall : MeC mX8_mayCall := ⟨gw (i := 593) (by decide +kernel) (by decide +kernel), gw (i := 5) (by decide +kernel) rfl, ⟨by decide +kernel, by decide +kernel⟩, by decide, by decide +kernel⟩
theorem mv_X8_mayCall : MeV mX8_mayCall 1 6 := ⟨mc_X8_mayCall, by unfold MeN; decide +kernel, gw (i := 591) (by decide +kernel) rfl, gw (i := 592) (by decide +kernel) rfl, rfl⟩
theorem mc_X11_weighedHere : MeC mX11_weighedHere := ⟨gw (i := 856) (by decide +kernel) (by decide +kernel), gw (i := 1) (by decide +kernel) rfl, ⟨by decide +kernel, by decide +kernel⟩, by decide, by decide +kernel⟩
theorem mv_X11_weighedHere : MeV mX11_weighedHere 2 9 := ⟨mc_X11_weighedHere, by unfold MeN; decide +kernel, gw (i := 855) (by decide +kernel) rfl, gs (i := 35) (by decide +kernel) rfl, rfl⟩
theorem mc_X11_tillWithNotice : MeC mX11_tillWithNotice := ⟨gw (i := 862) (by decide +kernel) (by decide +kernel), gw (i := 1) (by decide +kernel) rfl, ⟨by decide +kernel, by decide +kernel⟩, by decide, by decide +kernel⟩
theorem mv_X11_tillWithNotice : MeV mX11_tillWithNotice 2 9 := ⟨mc_X11_tillWithNotice, by unfold MeN; decide +kernel, gw (i := 861) (by decide +kernel) rfl, gs (i := 36) (by decide +kernel) rfl, rfl⟩
theorem mc_X11_tillAtOnce : MeC mX11_tillAtOnce := ⟨gw (i := 866) (by decide +kernel) (by decide +kernel), gw (i := 1) (by decide +kernel) rfl, ⟨by decide +kernel, by decide +kernel⟩, by decide, by decide +kernel⟩
theorem mv_X11_tillAtOnce : MeV mX11_tillAtOnce 1 9 := ⟨mc_X11_tillAtOnce, by unfold MeN; decide +kernel, gw (i := 865) (by decide +kernel) rfl, gs (i := 37) (by decide +kernel) rfl, rfl⟩
theorem mc_X8_dueAt : MeC mX8_dueAt := ⟨gw (i := 584) (by decide +kernel) (by decide +kernel), gw (i := 5) (by decide +kernel) rfl, ⟨by decide +kernel, by decide +kernel⟩, by decide, by decide +kernel⟩
theorem mv_X8_dueAt : MeV mX8_dueAt 2 6 := ⟨mc_X8_dueAt, by unfold MeN; decide +kernel, gw (i := 582) (by decide +kernel) rfl, gw (i := 583) (by decide +kernel) rfl, rfl⟩
theorem mc_X8_weigh : MeC mX8_weigh := ⟨gw (i := 601) (by decide +kernel) (by decide +kernel), gw (i := 5) (by decide +kernel) rfl, ⟨by decide +kernel, by decide +kernel⟩, by decide, by decide +kernel⟩
theorem mv_X8_weigh : MeV mX8_weigh 4 6 := ⟨mc_X8_weigh, by unfold MeN; decide +kernel, gw (i := 599) (by decide +kernel) rfl, gw (i := 600) (by decide +kernel) rfl, rfl⟩
theorem mc_X11_leavesAt : MeC mX11_leavesAt := ⟨gw (i := 870) (by decide +kernel) (by decide +kernel), gw (i := 1) (by decide +kernel) rfl, ⟨by decide +kernel, by decide +kernel⟩, by decide, by decide +kernel⟩
theorem mv_X11_leavesAt : MeV mX11_leavesAt 3 9 := ⟨mc_X11_leavesAt, by unfold MeN; decide +kernel, gw (i := 869) (by decide +kernel) rfl, gs (i := 38) (by decide +kernel) rfl, rfl⟩
theorem mc_X8_couponAt : MeC mX8_couponAt := ⟨gw (i := 575) (by decide +kernel) (by decide +kernel), gw (i := 5) (by decide +kernel) rfl, ⟨by decide +kernel, by decide +kernel⟩, by decide, by decide +kernel⟩
theorem mv_X8_couponAt : MeV mX8_couponAt 1 6 := ⟨mc_X8_couponAt, by unfold MeN; decide +kernel, gw (i := 573) (by decide +kernel) rfl, gw (i := 574) (by decide +kernel) rfl, rfl⟩
theorem mc_X8_renewalAt : MeC mX8_renewalAt := ⟨gw (i := 605) (by decide +kernel) (by decide +kernel), gw (i := 5) (by decide +kernel) rfl, ⟨by decide +kernel, by decide +kernel⟩, by decide, by decide +kernel⟩
theorem mv_X8_renewalAt : MeV mX8_renewalAt 1 6 := ⟨mc_X8_renewalAt, by unfold MeN; decide +kernel, gw (i := 603) (by decide +kernel) rfl, gw (i := 604) (by decide +kernel) rfl, rfl⟩
theorem mc_X8_leastDeed : MeC mX8_leastDeed := ⟨gw (i := 610) (by decide +kernel) (by decide +kernel), gw (i := 5) (by decide +kernel) rfl, ⟨by decide +kernel, by decide +kernel⟩, by decide, by decide +kernel⟩
theorem mv_X8_leastDeed : MeV mX8_leastDeed 3 6 := ⟨mc_X8_leastDeed, by unfold MeN; decide +kernel, gw (i := 608) (by decide +kernel) rfl, gw (i := 609) (by decide +kernel) rfl, rfl⟩
theorem mc_X11_mendsTrial : MeC mX11_mendsTrial := ⟨gw (i := 921) (by decide +kernel) (by decide +kernel), gw (i := 1) (by decide +kernel) rfl, ⟨by decide +kernel, by decide +kernel⟩, by decide, by decide +kernel⟩
theorem mv_X11_mendsTrial : MeV mX11_mendsTrial 0 9 := ⟨mc_X11_mendsTrial, by unfold MeN; decide +kernel, gw (i := 920) (by decide +kernel) rfl, gs (i := 39) (by decide +kernel) rfl, rfl⟩
theorem mc_X6_has : MeC mX6_has := ⟨gw (i := 937) (by decide +kernel) (by decide +kernel), gw (i := 4) (by decide +kernel) rfl, ⟨by decide +kernel, by decide +kernel⟩, by decide, by decide +kernel⟩
theorem mv_X6_has : MeV mX6_has 1 4 := ⟨mc_X6_has, by unfold MeN; decide +kernel, gw (i := 935) (by decide +kernel) rfl, gw (i := 936) (by decide +kernel) rfl, rfl⟩
theorem mc_X6_sizeOf : MeC mX6_sizeOf := ⟨gw (i := 941) (by decide +kernel) (by decide +kernel), gw (i := 4) (by decide +kernel) rfl, ⟨by decide +kernel, by decide +kernel⟩, by decide, by decide +kernel⟩
theorem mv_X6_sizeOf : MeV mX6_sizeOf 1 4 := ⟨mc_X6_sizeOf, by unfold MeN; decide +kernel, gw (i := 939) (by decide +kernel) rfl, gw (i := 940) (by decide +kernel) rfl, rfl⟩
theorem mc_X6_number : MeC mX6_number := ⟨gw (i := 946) (by decide +kernel) (by decide +kernel), gw (i := 4) (by decide +kernel) rfl, ⟨by decide +kernel, by decide +kernel⟩, by decide, by decide +kernel⟩
theorem mv_X6_number : MeV mX6_number 3 4 := ⟨mc_X6_number, by unfold MeN; decide +kernel, gw (i := 944) (by decide +kernel) rfl, gw (i := 945) (by decide +kernel) rfl, rfl⟩
theorem mc_X11_tries : MeC mX11_tries := ⟨gw (i := 955) (by decide +kernel) (by decide +kernel), gw (i := 1) (by decide +kernel) rfl, ⟨by decide +kernel, by decide +kernel⟩, by decide, by decide +kernel⟩
theorem mv_X11_tries : MeV mX11_tries 2 9 := ⟨mc_X11_tries, by unfold MeN; decide +kernel, gw (i := 954) (by decide +kernel) rfl, gs (i := 40) (by decide +kernel) rfl, rfl⟩
theorem mc_X11_leftNow : MeC mX11_leftNow := ⟨gw (i := 967) (by decide +kernel) (by decide +kernel), gw (i := 1) (by decide +kernel) rfl, ⟨by decide +kernel, by decide +kernel⟩, by decide, by decide +kernel⟩
theorem mv_X11_leftNow : MeV mX11_leftNow 0 9 := ⟨mc_X11_leftNow, by unfold MeN; decide +kernel, gw (i := 966) (by decide +kernel) rfl, gs (i := 41) (by decide +kernel) rfl, rfl⟩
theorem mc_X11_greatestRate : MeC mX11_greatestRate := ⟨gw (i := 971) (by decide +kernel) (by decide +kernel), gw (i := 1) (by decide +kernel) rfl, ⟨by decide +kernel, by decide +kernel⟩, by decide, by decide +kernel⟩
theorem mv_X11_greatestRate : MeV mX11_greatestRate 0 9 := ⟨mc_X11_greatestRate, by unfold MeN; decide +kernel, gw (i := 970) (by decide +kernel) rfl, gs (i := 42) (by decide +kernel) rfl, rfl⟩
theorem mc_X2_keepImage : MeC mX2_keepImage := ⟨gw (i := 980) (by decide +kernel) (by decide +kernel), gw (i := 8) (by decide +kernel) rfl, ⟨by decide +kernel, by decide +kernel⟩, by decide, by decide +kernel⟩
theorem mv_X2_keepImage : MeV mX2_keepImage 1 1 := ⟨mc_X2_keepImage, by unfold MeN; decide +kernel, gw (i := 978) (by decide +kernel) rfl, gw (i := 979) (by decide +kernel) rfl, rfl⟩
theorem mc_X2_bringBack : MeC mX2_bringBack := ⟨gw (i := 988) (by decide +kernel) (by decide +kernel), gw (i := 8) (by decide +kernel) rfl, ⟨by decide +kernel, by decide +kernel⟩, by decide, by decide +kernel⟩
theorem mv_X2_bringBack : MeV mX2_bringBack 1 1 := ⟨mc_X2_bringBack, by unfold MeN; decide +kernel, gw (i := 986) (by decide +kernel) rfl, gw (i := 987) (by decide +kernel) rfl, rfl⟩
theorem mc_X12_bytesOf : MeC mX12_bytesOf := ⟨gw (i := 1219) (by decide +kernel) (by decide +kernel), gw (i := 11) (by decide +kernel) rfl, ⟨by decide +kernel, by decide +kernel⟩, by decide, by decide +kernel⟩
theorem ms_X12_bytesOf : MeS mX12_bytesOf 1 := ⟨mc_X12_bytesOf, by unfold MeN; decide +kernel, gw (i := 1218) (by decide +kernel) rfl⟩
theorem mc_X12_brings : MeC mX12_brings := ⟨gw (i := 1223) (by decide +kernel) (by decide +kernel), gw (i := 11) (by decide +kernel) rfl, ⟨by decide +kernel, by decide +kernel⟩, by decide, by decide +kernel⟩
theorem mv_X12_brings : MeV mX12_brings 1 10 := ⟨mc_X12_brings, by unfold MeN; decide +kernel, gw (i := 1222) (by decide +kernel) rfl, gs (i := 44) (by decide +kernel) rfl, rfl⟩
theorem mc_X12_here : MeC mX12_here := ⟨gw (i := 1254) (by decide +kernel) (by decide +kernel), gw (i := 11) (by decide +kernel) rfl, ⟨by decide +kernel, by decide +kernel⟩, by decide, by decide +kernel⟩
theorem mv_X12_here : MeV mX12_here 0 10 := ⟨mc_X12_here, by unfold MeN; decide +kernel, gw (i := 1253) (by decide +kernel) rfl, gs (i := 48) (by decide +kernel) rfl, rfl⟩
theorem mc_X12_look : MeC mX12_look := ⟨gw (i := 1250) (by decide +kernel) (by decide +kernel), gw (i := 11) (by decide +kernel) rfl, ⟨by decide +kernel, by decide +kernel⟩, by decide, by decide +kernel⟩
theorem mv_X12_look : MeV mX12_look 0 10 := ⟨mc_X12_look, by unfold MeN; decide +kernel, gw (i := 1249) (by decide +kernel) rfl, gs (i := 47) (by decide +kernel) rfl, rfl⟩
theorem mc_X12_isDigit : MeC mX12_isDigit := ⟨gw (i := 1326) (by decide +kernel) (by decide +kernel), gw (i := 11) (by decide +kernel) rfl, ⟨by decide +kernel, by decide +kernel⟩, by decide, by decide +kernel⟩
theorem mv_X12_isDigit : MeV mX12_isDigit 0 10 := ⟨mc_X12_isDigit, by unfold MeN; decide +kernel, gw (i := 1325) (by decide +kernel) rfl, gs (i := 53) (by decide +kernel) rfl, rfl⟩
theorem mc_X12_fails : MeC mX12_fails := ⟨gw (i := 1258) (by decide +kernel) (by decide +kernel), gw (i := 11) (by decide +kernel) rfl, ⟨by decide +kernel, by decide +kernel⟩, by decide, by decide +kernel⟩
theorem mv_X12_fails : MeV mX12_fails 0 10 := ⟨mc_X12_fails, by unfold MeN; decide +kernel, gw (i := 1257) (by decide +kernel) rfl, gs (i := 49) (by decide +kernel) rfl, rfl⟩
theorem mc_X12_digit : MeC mX12_digit := ⟨gw (i := 1322) (by decide +kernel) (by decide +kernel), gw (i := 11) (by decide +kernel) rfl, ⟨by decide +kernel, by decide +kernel⟩, by decide, by decide +kernel⟩
theorem mv_X12_digit : MeV mX12_digit 0 10 := ⟨mc_X12_digit, by unfold MeN; decide +kernel, gw (i := 1321) (by decide +kernel) rfl, gs (i := 52) (by decide +kernel) rfl, rfl⟩
theorem mc_J0_length_8abf5 : MeC mJ0_length_8abf5 := ⟨gw (i := 1270) (by decide +kernel) (by decide +kernel), gw (i := 14) (by decide +kernel) rfl, ⟨by decide +kernel, by decide +kernel⟩, by decide, by decide +kernel⟩
theorem mc_J0_charAt_5068e : MeC mJ0_charAt_5068e := ⟨gw (i := 1280) (by decide +kernel) (by decide +kernel), gw (i := 14) (by decide +kernel) rfl, ⟨by decide +kernel, by decide +kernel⟩, by decide, by decide +kernel⟩
theorem mc_X12_mostOf : MeC mX12_mostOf := ⟨gw (i := 1333) (by decide +kernel) (by decide +kernel), gw (i := 11) (by decide +kernel) rfl, ⟨by decide +kernel, by decide +kernel⟩, by decide, by decide +kernel⟩
theorem ms_X12_mostOf : MeS mX12_mostOf 1 := ⟨mc_X12_mostOf, by unfold MeN; decide +kernel, gw (i := 1332) (by decide +kernel) rfl⟩
theorem mc_X12_spotOf : MeC mX12_spotOf := ⟨gw (i := 1266) (by decide +kernel) (by decide +kernel), gw (i := 11) (by decide +kernel) rfl, ⟨by decide +kernel, by decide +kernel⟩, by decide, by decide +kernel⟩
theorem ms_X12_spotOf : MeS mX12_spotOf 2 := ⟨mc_X12_spotOf, by unfold MeN; decide +kernel, gw (i := 1265) (by decide +kernel) rfl⟩
theorem mc_X12_number : MeC mX12_number := ⟨gw (i := 1318) (by decide +kernel) (by decide +kernel), gw (i := 11) (by decide +kernel) rfl, ⟨by decide +kernel, by decide +kernel⟩, by decide, by decide +kernel⟩
theorem mv_X12_number : MeV mX12_number 0 10 := ⟨mc_X12_number, by unfold MeN; decide +kernel, gw (i := 1317) (by decide +kernel) rfl, gs (i := 51) (by decide +kernel) rfl, rfl⟩
theorem mc_X12_laysBounds : MeC mX12_laysBounds := ⟨gw (i := 1330) (by decide +kernel) (by decide +kernel), gw (i := 11) (by decide +kernel) rfl, ⟨by decide +kernel, by decide +kernel⟩, by decide, by decide +kernel⟩
theorem mv_X12_laysBounds : MeV mX12_laysBounds 2 10 := ⟨mc_X12_laysBounds, by unfold MeN; decide +kernel, gw (i := 1329) (by decide +kernel) rfl, gs (i := 54) (by decide +kernel) rfl, rfl⟩
theorem mc_X12_isIn : MeC mX12_isIn := ⟨gw (i := 1235) (by decide +kernel) (by decide +kernel), gw (i := 11) (by decide +kernel) rfl, ⟨by decide +kernel, by decide +kernel⟩, by decide, by decide +kernel⟩
theorem ms_X12_isIn : MeS mX12_isIn 3 := ⟨mc_X12_isIn, by unfold MeN; decide +kernel, gw (i := 1234) (by decide +kernel) rfl⟩
theorem mc_X12_items : MeC mX12_items := ⟨gw (i := 1263) (by decide +kernel) (by decide +kernel), gw (i := 11) (by decide +kernel) rfl, ⟨by decide +kernel, by decide +kernel⟩, by decide, by decide +kernel⟩
theorem mv_X12_items : MeV mX12_items 4 10 := ⟨mc_X12_items, by unfold MeN; decide +kernel, gw (i := 1262) (by decide +kernel) rfl, gs (i := 50) (by decide +kernel) rfl, rfl⟩
theorem mc_X12_usual : MeC mX12_usual := ⟨gw (i := 1242) (by decide +kernel) (by decide +kernel), gw (i := 11) (by decide +kernel) rfl, ⟨by decide +kernel, by decide +kernel⟩, by decide, by decide +kernel⟩
theorem ms_X12_usual : MeS mX12_usual 1 := ⟨mc_X12_usual, by unfold MeN; decide +kernel, gw (i := 1241) (by decide +kernel) rfl⟩
theorem mc_X12_clause : MeC mX12_clause := ⟨gw (i := 1246) (by decide +kernel) (by decide +kernel), gw (i := 11) (by decide +kernel) rfl, ⟨by decide +kernel, by decide +kernel⟩, by decide, by decide +kernel⟩
theorem mv_X12_clause : MeV mX12_clause 1 10 := ⟨mc_X12_clause, by unfold MeN; decide +kernel, gw (i := 1245) (by decide +kernel) rfl, gs (i := 46) (by decide +kernel) rfl, rfl⟩
theorem mc_X12_deedClause : MeC mX12_deedClause := ⟨gw (i := 1355) (by decide +kernel) (by decide +kernel), gw (i := 11) (by decide +kernel) rfl, ⟨by decide +kernel, by decide +kernel⟩, by decide, by decide +kernel⟩
theorem mv_X12_deedClause : MeV mX12_deedClause 0 10 := ⟨mc_X12_deedClause, by unfold MeN; decide +kernel, gw (i := 1354) (by decide +kernel) rfl, gs (i := 58) (by decide +kernel) rfl, rfl⟩
theorem mc_X12_numbersOf : MeC mX12_numbersOf := ⟨gw (i := 1347) (by decide +kernel) (by decide +kernel), gw (i := 11) (by decide +kernel) rfl, ⟨by decide +kernel, by decide +kernel⟩, by decide, by decide +kernel⟩
theorem ms_X12_numbersOf : MeS mX12_numbersOf 1 := ⟨mc_X12_numbersOf, by unfold MeN; decide +kernel, gw (i := 1346) (by decide +kernel) rfl⟩
theorem mc_X12_readStep : MeC mX12_readStep := ⟨gw (i := 1343) (by decide +kernel) (by decide +kernel), gw (i := 11) (by decide +kernel) rfl, ⟨by decide +kernel, by decide +kernel⟩, by decide, by decide +kernel⟩
theorem mv_X12_readStep : MeV mX12_readStep 1 10 := ⟨mc_X12_readStep, by unfold MeN; decide +kernel, gw (i := 1342) (by decide +kernel) rfl, gs (i := 56) (by decide +kernel) rfl, rfl⟩
theorem mc_X12_readLoan : MeC mX12_readLoan := ⟨gw (i := 1239) (by decide +kernel) (by decide +kernel), gw (i := 11) (by decide +kernel) rfl, ⟨by decide +kernel, by decide +kernel⟩, by decide, by decide +kernel⟩
theorem mv_X12_readLoan : MeV mX12_readLoan 0 10 := ⟨mc_X12_readLoan, by unfold MeN; decide +kernel, gw (i := 1238) (by decide +kernel) rfl, gs (i := 45) (by decide +kernel) rfl, rfl⟩
theorem mc_X12_readScript : MeC mX12_readScript := ⟨gw (i := 1339) (by decide +kernel) (by decide +kernel), gw (i := 11) (by decide +kernel) rfl, ⟨by decide +kernel, by decide +kernel⟩, by decide, by decide +kernel⟩
theorem mv_X12_readScript : MeV mX12_readScript 0 10 := ⟨mc_X12_readScript, by unfold MeN; decide +kernel, gw (i := 1338) (by decide +kernel) rfl, gs (i := 55) (by decide +kernel) rfl, rfl⟩
theorem mc_X12_readPolicy : MeC mX12_readPolicy := ⟨gw (i := 1351) (by decide +kernel) (by decide +kernel), gw (i := 11) (by decide +kernel) rfl, ⟨by decide +kernel, by decide +kernel⟩, by decide, by decide +kernel⟩
theorem mv_X12_readPolicy : MeV mX12_readPolicy 0 10 := ⟨mc_X12_readPolicy, by unfold MeN; decide +kernel, gw (i := 1350) (by decide +kernel) rfl, gs (i := 57) (by decide +kernel) rfl, rfl⟩
theorem mc_X12_isNode : MeC mX12_isNode := ⟨gw (i := 1369) (by decide +kernel) (by decide +kernel), gw (i := 11) (by decide +kernel) rfl, ⟨by decide +kernel, by decide +kernel⟩, by decide, by decide +kernel⟩
theorem mv_X12_isNode : MeV mX12_isNode 2 10 := ⟨mc_X12_isNode, by unfold MeN; decide +kernel, gw (i := 1368) (by decide +kernel) rfl, gs (i := 60) (by decide +kernel) rfl, rfl⟩
theorem mc_X12_node : MeC mX12_node := ⟨gw (i := 1372) (by decide +kernel) (by decide +kernel), gw (i := 11) (by decide +kernel) rfl, ⟨by decide +kernel, by decide +kernel⟩, by decide, by decide +kernel⟩
theorem ms_X12_node : MeS mX12_node 2 := ⟨mc_X12_node, by unfold MeN; decide +kernel, gw (i := 1371) (by decide +kernel) rfl⟩
theorem mc_X12_fault : MeC mX12_fault := ⟨gw (i := 1231) (by decide +kernel) (by decide +kernel), gw (i := 11) (by decide +kernel) rfl, ⟨by decide +kernel, by decide +kernel⟩, by decide, by decide +kernel⟩
theorem mv_X12_fault : MeV mX12_fault 1 10 := ⟨mc_X12_fault, by unfold MeN; decide +kernel, gw (i := 1229) (by decide +kernel) rfl, gw (i := 1230) (by decide +kernel) rfl, rfl⟩
theorem mc_X12_tellsPolicy : MeC mX12_tellsPolicy := ⟨gw (i := 1365) (by decide +kernel) (by decide +kernel), gw (i := 11) (by decide +kernel) rfl, ⟨by decide +kernel, by decide +kernel⟩, by decide, by decide +kernel⟩
theorem mv_X12_tellsPolicy : MeV mX12_tellsPolicy 0 10 := ⟨mc_X12_tellsPolicy, by unfold MeN; decide +kernel, gw (i := 1364) (by decide +kernel) rfl, gs (i := 59) (by decide +kernel) rfl, rfl⟩
theorem mc_X12_begins : MeC mX12_begins := ⟨gw (i := 1376) (by decide +kernel) (by decide +kernel), gw (i := 11) (by decide +kernel) rfl, ⟨by decide +kernel, by decide +kernel⟩, by decide, by decide +kernel⟩
theorem mv_X12_begins : MeV mX12_begins 0 10 := ⟨mc_X12_begins, by unfold MeN; decide +kernel, gw (i := 1375) (by decide +kernel) rfl, gs (i := 61) (by decide +kernel) rfl, rfl⟩
theorem mc_X12_bound : MeC mX12_bound := ⟨gw (i := 1423) (by decide +kernel) (by decide +kernel), gw (i := 11) (by decide +kernel) rfl, ⟨by decide +kernel, by decide +kernel⟩, by decide, by decide +kernel⟩
theorem ms_X12_bound : MeS mX12_bound 1 := ⟨mc_X12_bound, by unfold MeN; decide +kernel, gw (i := 1422) (by decide +kernel) rfl⟩
theorem mc_X12_rateOf : MeC mX12_rateOf := ⟨gw (i := 1420) (by decide +kernel) (by decide +kernel), gw (i := 11) (by decide +kernel) rfl, ⟨by decide +kernel, by decide +kernel⟩, by decide, by decide +kernel⟩
theorem mv_X12_rateOf : MeV mX12_rateOf 3 10 := ⟨mc_X12_rateOf, by unfold MeN; decide +kernel, gw (i := 1419) (by decide +kernel) rfl, gs (i := 69) (by decide +kernel) rfl, rfl⟩
theorem mc_X12_interest : MeC mX12_interest := ⟨gw (i := 1439) (by decide +kernel) (by decide +kernel), gw (i := 11) (by decide +kernel) rfl, ⟨by decide +kernel, by decide +kernel⟩, by decide, by decide +kernel⟩
theorem mv_X12_interest : MeV mX12_interest 2 10 := ⟨mc_X12_interest, by unfold MeN; decide +kernel, gw (i := 1438) (by decide +kernel) rfl, gs (i := 73) (by decide +kernel) rfl, rfl⟩
theorem mc_X12_cell : MeC mX12_cell := ⟨gw (i := 1490) (by decide +kernel) (by decide +kernel), gw (i := 11) (by decide +kernel) rfl, ⟨by decide +kernel, by decide +kernel⟩, by decide, by decide +kernel⟩
theorem ms_X12_cell : MeS mX12_cell 4 := ⟨mc_X12_cell, by unfold MeN; decide +kernel, gw (i := 1489) (by decide +kernel) rfl⟩
theorem mc_X12_due : MeC mX12_due := ⟨gw (i := 1435) (by decide +kernel) (by decide +kernel), gw (i := 11) (by decide +kernel) rfl, ⟨by decide +kernel, by decide +kernel⟩, by decide, by decide +kernel⟩
theorem mv_X12_due : MeV mX12_due 2 10 := ⟨mc_X12_due, by unfold MeN; decide +kernel, gw (i := 1434) (by decide +kernel) rfl, gs (i := 72) (by decide +kernel) rfl, rfl⟩
theorem mc_X12_behind : MeC mX12_behind := ⟨gw (i := 1487) (by decide +kernel) (by decide +kernel), gw (i := 11) (by decide +kernel) rfl, ⟨by decide +kernel, by decide +kernel⟩, by decide, by decide +kernel⟩
theorem mv_X12_behind : MeV mX12_behind 5 10 := ⟨mc_X12_behind, by unfold MeN; decide +kernel, gw (i := 1486) (by decide +kernel) rfl, gs (i := 85) (by decide +kernel) rfl, rfl⟩
theorem mc_X12_next : MeC mX12_next := ⟨gw (i := 1494) (by decide +kernel) (by decide +kernel), gw (i := 11) (by decide +kernel) rfl, ⟨by decide +kernel, by decide +kernel⟩, by decide, by decide +kernel⟩
theorem mv_X12_next : MeV mX12_next 5 10 := ⟨mc_X12_next, by unfold MeN; decide +kernel, gw (i := 1493) (by decide +kernel) rfl, gs (i := 86) (by decide +kernel) rfl, rfl⟩
theorem mc_X12_paid : MeC mX12_paid := ⟨gw (i := 1499) (by decide +kernel) (by decide +kernel), gw (i := 11) (by decide +kernel) rfl, ⟨by decide +kernel, by decide +kernel⟩, by decide, by decide +kernel⟩
theorem mv_X12_paid : MeV mX12_paid 8 10 := ⟨mc_X12_paid, by unfold MeN; decide +kernel, gw (i := 1498) (by decide +kernel) rfl, gs (i := 87) (by decide +kernel) rfl, rfl⟩
theorem mc_X12_mayEnd : MeC mX12_mayEnd := ⟨gw (i := 1411) (by decide +kernel) (by decide +kernel), gw (i := 11) (by decide +kernel) rfl, ⟨by decide +kernel, by decide +kernel⟩, by decide, by decide +kernel⟩
theorem mv_X12_mayEnd : MeV mX12_mayEnd 1 10 := ⟨mc_X12_mayEnd, by unfold MeN; decide +kernel, gw (i := 1410) (by decide +kernel) rfl, gs (i := 68) (by decide +kernel) rfl, rfl⟩
theorem mc_X12_held : MeC mX12_held := ⟨gw (i := 1483) (by decide +kernel) (by decide +kernel), gw (i := 11) (by decide +kernel) rfl, ⟨by decide +kernel, by decide +kernel⟩, by decide, by decide +kernel⟩
theorem mv_X12_held : MeV mX12_held 7 10 := ⟨mc_X12_held, by unfold MeN; decide +kernel, gw (i := 1482) (by decide +kernel) rfl, gs (i := 84) (by decide +kernel) rfl, rfl⟩
theorem mc_X12_costBy : MeC mX12_costBy := ⟨gw (i := 1479) (by decide +kernel) (by decide +kernel), gw (i := 11) (by decide +kernel) rfl, ⟨by decide +kernel, by decide +kernel⟩, by decide, by decide +kernel⟩
theorem mv_X12_costBy : MeV mX12_costBy 8 10 := ⟨mc_X12_costBy, by unfold MeN; decide +kernel, gw (i := 1478) (by decide +kernel) rfl, gs (i := 83) (by decide +kernel) rfl, rfl⟩
theorem mc_X12_may : MeC mX12_may := ⟨gw (i := 1407) (by decide +kernel) (by decide +kernel), gw (i := 11) (by decide +kernel) rfl, ⟨by decide +kernel, by decide +kernel⟩, by decide, by decide +kernel⟩
theorem mv_X12_may : MeV mX12_may 3 10 := ⟨mc_X12_may, by unfold MeN; decide +kernel, gw (i := 1406) (by decide +kernel) rfl, gs (i := 67) (by decide +kernel) rfl, rfl⟩
theorem mc_X12_policyDeed : MeC mX12_policyDeed := ⟨gw (i := 1471) (by decide +kernel) (by decide +kernel), gw (i := 11) (by decide +kernel) rfl, ⟨by decide +kernel, by decide +kernel⟩, by decide, by decide +kernel⟩
theorem mv_X12_policyDeed : MeV mX12_policyDeed 4 10 := ⟨mc_X12_policyDeed, by unfold MeN; decide +kernel, gw (i := 1470) (by decide +kernel) rfl, gs (i := 81) (by decide +kernel) rfl, rfl⟩
theorem mc_X12_bestDeed : MeC mX12_bestDeed := ⟨gw (i := 1475) (by decide +kernel) (by decide +kernel), gw (i := 11) (by decide +kernel) rfl, ⟨by decide +kernel, by decide +kernel⟩, by decide, by decide +kernel⟩
theorem mv_X12_bestDeed : MeV mX12_bestDeed 7 10 := ⟨mc_X12_bestDeed, by unfold MeN; decide +kernel, gw (i := 1474) (by decide +kernel) rfl, gs (i := 82) (by decide +kernel) rfl, rfl⟩
theorem mc_X12_laysYears : MeC mX12_laysYears := ⟨gw (i := 1427) (by decide +kernel) (by decide +kernel), gw (i := 11) (by decide +kernel) rfl, ⟨by decide +kernel, by decide +kernel⟩, by decide, by decide +kernel⟩
theorem mv_X12_laysYears : MeV mX12_laysYears 1 10 := ⟨mc_X12_laysYears, by unfold MeN; decide +kernel, gw (i := 1426) (by decide +kernel) rfl, gs (i := 70) (by decide +kernel) rfl, rfl⟩
theorem mc_X12_newCoupon : MeC mX12_newCoupon := ⟨gw (i := 1451) (by decide +kernel) (by decide +kernel), gw (i := 11) (by decide +kernel) rfl, ⟨by decide +kernel, by decide +kernel⟩, by decide, by decide +kernel⟩
theorem mv_X12_newCoupon : MeV mX12_newCoupon 3 10 := ⟨mc_X12_newCoupon, by unfold MeN; decide +kernel, gw (i := 1450) (by decide +kernel) rfl, gs (i := 76) (by decide +kernel) rfl, rfl⟩
theorem mc_X12_laysBy : MeC mX12_laysBy := ⟨gw (i := 1467) (by decide +kernel) (by decide +kernel), gw (i := 11) (by decide +kernel) rfl, ⟨by decide +kernel, by decide +kernel⟩, by decide, by decide +kernel⟩
theorem mv_X12_laysBy : MeV mX12_laysBy 7 10 := ⟨mc_X12_laysBy, by unfold MeN; decide +kernel, gw (i := 1466) (by decide +kernel) rfl, gs (i := 80) (by decide +kernel) rfl, rfl⟩
theorem mc_X12_lays : MeC mX12_lays := ⟨gw (i := 1463) (by decide +kernel) (by decide +kernel), gw (i := 11) (by decide +kernel) rfl, ⟨by decide +kernel, by decide +kernel⟩, by decide, by decide +kernel⟩
theorem mv_X12_lays : MeV mX12_lays 5 10 := ⟨mc_X12_lays, by unfold MeN; decide +kernel, gw (i := 1462) (by decide +kernel) rfl, gs (i := 79) (by decide +kernel) rfl, rfl⟩
theorem mc_X12_isOver : MeC mX12_isOver := ⟨gw (i := 1403) (by decide +kernel) (by decide +kernel), gw (i := 11) (by decide +kernel) rfl, ⟨by decide +kernel, by decide +kernel⟩, by decide, by decide +kernel⟩
theorem mv_X12_isOver : MeV mX12_isOver 1 10 := ⟨mc_X12_isOver, by unfold MeN; decide +kernel, gw (i := 1402) (by decide +kernel) rfl, gs (i := 66) (by decide +kernel) rfl, rfl⟩
theorem mc_X12_canCome : MeC mX12_canCome := ⟨gw (i := 1415) (by decide +kernel) (by decide +kernel), gw (i := 11) (by decide +kernel) rfl, ⟨by decide +kernel, by decide +kernel⟩, by decide, by decide +kernel⟩
theorem ms_X12_canCome : MeS mX12_canCome 3 := ⟨mc_X12_canCome, by unfold MeN; decide +kernel, gw (i := 1414) (by decide +kernel) rfl⟩
theorem mc_X12_pays : MeC mX12_pays := ⟨gw (i := 1443) (by decide +kernel) (by decide +kernel), gw (i := 11) (by decide +kernel) rfl, ⟨by decide +kernel, by decide +kernel⟩, by decide, by decide +kernel⟩
theorem mv_X12_pays : MeV mX12_pays 2 10 := ⟨mc_X12_pays, by unfold MeN; decide +kernel, gw (i := 1442) (by decide +kernel) rfl, gs (i := 74) (by decide +kernel) rfl, rfl⟩
theorem mc_X12_runsOut : MeC mX12_runsOut := ⟨gw (i := 1447) (by decide +kernel) (by decide +kernel), gw (i := 11) (by decide +kernel) rfl, ⟨by decide +kernel, by decide +kernel⟩, by decide, by decide +kernel⟩
theorem mv_X12_runsOut : MeV mX12_runsOut 1 10 := ⟨mc_X12_runsOut, by unfold MeN; decide +kernel, gw (i := 1446) (by decide +kernel) rfl, gs (i := 75) (by decide +kernel) rfl, rfl⟩
theorem mc_X12_givesNotice : MeC mX12_givesNotice := ⟨gw (i := 1455) (by decide +kernel) (by decide +kernel), gw (i := 11) (by decide +kernel) rfl, ⟨by decide +kernel, by decide +kernel⟩, by decide, by decide +kernel⟩
theorem mv_X12_givesNotice : MeV mX12_givesNotice 2 10 := ⟨mc_X12_givesNotice, by unfold MeN; decide +kernel, gw (i := 1454) (by decide +kernel) rfl, gs (i := 77) (by decide +kernel) rfl, rfl⟩
theorem mc_X12_stops : MeC mX12_stops := ⟨gw (i := 1399) (by decide +kernel) (by decide +kernel), gw (i := 11) (by decide +kernel) rfl, ⟨by decide +kernel, by decide +kernel⟩, by decide, by decide +kernel⟩
theorem mv_X12_stops : MeV mX12_stops 5 10 := ⟨mc_X12_stops, by unfold MeN; decide +kernel, gw (i := 1398) (by decide +kernel) rfl, gs (i := 65) (by decide +kernel) rfl, rfl⟩
theorem mc_X12_passes : MeC mX12_passes := ⟨gw (i := 1431) (by decide +kernel) (by decide +kernel), gw (i := 11) (by decide +kernel) rfl, ⟨by decide +kernel, by decide +kernel⟩, by decide, by decide +kernel⟩
theorem mv_X12_passes : MeV mX12_passes 2 10 := ⟨mc_X12_passes, by unfold MeN; decide +kernel, gw (i := 1430) (by decide +kernel) rfl, gs (i := 71) (by decide +kernel) rfl, rfl⟩
theorem mc_X12_bestHere : MeC mX12_bestHere := ⟨gw (i := 1459) (by decide +kernel) (by decide +kernel), gw (i := 11) (by decide +kernel) rfl, ⟨by decide +kernel, by decide +kernel⟩, by decide, by decide +kernel⟩
theorem mv_X12_bestHere : MeV mX12_bestHere 1 10 := ⟨mc_X12_bestHere, by unfold MeN; decide +kernel, gw (i := 1458) (by decide +kernel) rfl, gs (i := 78) (by decide +kernel) rfl, rfl⟩
theorem mc_X12_doesBest : MeC mX12_doesBest := ⟨gw (i := 1503) (by decide +kernel) (by decide +kernel), gw (i := 11) (by decide +kernel) rfl, ⟨by decide +kernel, by decide +kernel⟩, by decide, by decide +kernel⟩
theorem mv_X12_doesBest : MeV mX12_doesBest 2 10 := ⟨mc_X12_doesBest, by unfold MeN; decide +kernel, gw (i := 1502) (by decide +kernel) rfl, gs (i := 88) (by decide +kernel) rfl, rfl⟩
theorem mc_X12_adopts : MeC mX12_adopts := ⟨gw (i := 1507) (by decide +kernel) (by decide +kernel), gw (i := 11) (by decide +kernel) rfl, ⟨by decide +kernel, by decide +kernel⟩, by decide, by decide +kernel⟩
theorem mv_X12_adopts : MeV mX12_adopts 1 10 := ⟨mc_X12_adopts, by unfold MeN; decide +kernel, gw (i := 1506) (by decide +kernel) rfl, gs (i := 89) (by decide +kernel) rfl, rfl⟩
theorem mc_X12_copyRow : MeC mX12_copyRow := ⟨gw (i := 1391) (by decide +kernel) (by decide +kernel), gw (i := 11) (by decide +kernel) rfl, ⟨by decide +kernel, by decide +kernel⟩, by decide, by decide +kernel⟩
theorem ms_X12_copyRow : MeS mX12_copyRow 4 := ⟨mc_X12_copyRow, by unfold MeN; decide +kernel, gw (i := 1390) (by decide +kernel) rfl⟩
theorem mc_X12_does : MeC mX12_does := ⟨gw (i := 1395) (by decide +kernel) (by decide +kernel), gw (i := 11) (by decide +kernel) rfl, ⟨by decide +kernel, by decide +kernel⟩, by decide, by decide +kernel⟩
theorem mv_X12_does : MeV mX12_does 5 10 := ⟨mc_X12_does, by unfold MeN; decide +kernel, gw (i := 1394) (by decide +kernel) rfl, gs (i := 64) (by decide +kernel) rfl, rfl⟩
theorem mc_X12_remember : MeC mX12_remember := ⟨gw (i := 1511) (by decide +kernel) (by decide +kernel), gw (i := 11) (by decide +kernel) rfl, ⟨by decide +kernel, by decide +kernel⟩, by decide, by decide +kernel⟩
theorem mv_X12_remember : MeV mX12_remember 0 10 := ⟨mc_X12_remember, by unfold MeN; decide +kernel, gw (i := 1510) (by decide +kernel) rfl, gs (i := 90) (by decide +kernel) rfl, rfl⟩
theorem mc_X12_notes : MeC mX12_notes := ⟨gw (i := 1515) (by decide +kernel) (by decide +kernel), gw (i := 11) (by decide +kernel) rfl, ⟨by decide +kernel, by decide +kernel⟩, by decide, by decide +kernel⟩
theorem mv_X12_notes : MeV mX12_notes 1 10 := ⟨mc_X12_notes, by unfold MeN; decide +kernel, gw (i := 1514) (by decide +kernel) rfl, gs (i := 91) (by decide +kernel) rfl, rfl⟩
theorem mc_X12_tries : MeC mX12_tries := ⟨gw (i := 1388) (by decide +kernel) (by decide +kernel), gw (i := 11) (by decide +kernel) rfl, ⟨by decide +kernel, by decide +kernel⟩, by decide, by decide +kernel⟩
theorem mv_X12_tries : MeV mX12_tries 4 10 := ⟨mc_X12_tries, by unfold MeN; decide +kernel, gw (i := 1387) (by decide +kernel) rfl, gs (i := 63) (by decide +kernel) rfl, rfl⟩
theorem mc_X12_act : MeC mX12_act := ⟨gw (i := 1384) (by decide +kernel) (by decide +kernel), gw (i := 11) (by decide +kernel) rfl, ⟨by decide +kernel, by decide +kernel⟩, by decide, by decide +kernel⟩
theorem mv_X12_act : MeV mX12_act 4 10 := ⟨mc_X12_act, by unfold MeN; decide +kernel, gw (i := 1383) (by decide +kernel) rfl, gs (i := 62) (by decide +kernel) rfl, rfl⟩
theorem mc_X12_draw : MeC mX12_draw := ⟨gw (i := 1564) (by decide +kernel) (by decide +kernel), gw (i := 11) (by decide +kernel) rfl, ⟨by decide +kernel, by decide +kernel⟩, by decide, by decide +kernel⟩
theorem mv_X12_draw : MeV mX12_draw 1 10 := ⟨mc_X12_draw, by unfold MeN; decide +kernel, gw (i := 1563) (by decide +kernel) rfl, gs (i := 93) (by decide +kernel) rfl, rfl⟩
theorem mc_X12_happens : MeC mX12_happens := ⟨gw (i := 1560) (by decide +kernel) (by decide +kernel), gw (i := 11) (by decide +kernel) rfl, ⟨by decide +kernel, by decide +kernel⟩, by decide, by decide +kernel⟩
theorem mv_X12_happens : MeV mX12_happens 0 10 := ⟨mc_X12_happens, by unfold MeN; decide +kernel, gw (i := 1559) (by decide +kernel) rfl, gs (i := 92) (by decide +kernel) rfl, rfl⟩
theorem mc_X12_laysNow : MeC mX12_laysNow := ⟨gw (i := 1612) (by decide +kernel) (by decide +kernel), gw (i := 11) (by decide +kernel) rfl, ⟨by decide +kernel, by decide +kernel⟩, by decide, by decide +kernel⟩
theorem mv_X12_laysNow : MeV mX12_laysNow 0 10 := ⟨mc_X12_laysNow, by unfold MeN; decide +kernel, gw (i := 1611) (by decide +kernel) rfl, gs (i := 94) (by decide +kernel) rfl, rfl⟩
theorem mc_X12_walkGives : MeC mX12_walkGives := ⟨gw (i := 1632) (by decide +kernel) (by decide +kernel), gw (i := 11) (by decide +kernel) rfl, ⟨by decide +kernel, by decide +kernel⟩, by decide, by decide +kernel⟩
theorem mv_X12_walkGives : MeV mX12_walkGives 1 10 := ⟨mc_X12_walkGives, by unfold MeN; decide +kernel, gw (i := 1631) (by decide +kernel) rfl, gs (i := 97) (by decide +kernel) rfl, rfl⟩
theorem mc_X12_walkActs : MeC mX12_walkActs := ⟨gw (i := 1628) (by decide +kernel) (by decide +kernel), gw (i := 11) (by decide +kernel) rfl, ⟨by decide +kernel, by decide +kernel⟩, by decide, by decide +kernel⟩
theorem mv_X12_walkActs : MeV mX12_walkActs 0 10 := ⟨mc_X12_walkActs, by unfold MeN; decide +kernel, gw (i := 1627) (by decide +kernel) rfl, gs (i := 96) (by decide +kernel) rfl, rfl⟩
theorem mc_X12_walks : MeC mX12_walks := ⟨gw (i := 1624) (by decide +kernel) (by decide +kernel), gw (i := 11) (by decide +kernel) rfl, ⟨by decide +kernel, by decide +kernel⟩, by decide, by decide +kernel⟩
theorem mv_X12_walks : MeV mX12_walks 1 10 := ⟨mc_X12_walks, by unfold MeN; decide +kernel, gw (i := 1623) (by decide +kernel) rfl, gs (i := 95) (by decide +kernel) rfl, rfl⟩
theorem mc_X12_isCalled : MeC mX12_isCalled := ⟨gw (i := 1641) (by decide +kernel) (by decide +kernel), gw (i := 11) (by decide +kernel) rfl, ⟨by decide +kernel, by decide +kernel⟩, by decide, by decide +kernel⟩
theorem mv_X12_isCalled : MeV mX12_isCalled 0 10 := ⟨mc_X12_isCalled, by unfold MeN; decide +kernel, gw (i := 1640) (by decide +kernel) rfl, gs (i := 98) (by decide +kernel) rfl, rfl⟩
theorem mc_X12_unlike : MeC mX12_unlike := ⟨gw (i := 1645) (by decide +kernel) (by decide +kernel), gw (i := 11) (by decide +kernel) rfl, ⟨by decide +kernel, by decide +kernel⟩, by decide, by decide +kernel⟩
theorem mv_X12_unlike : MeV mX12_unlike 1 10 := ⟨mc_X12_unlike, by unfold MeN; decide +kernel, gw (i := 1644) (by decide +kernel) rfl, gs (i := 99) (by decide +kernel) rfl, rfl⟩
theorem mc_X12_goesOn : MeC mX12_goesOn := ⟨gw (i := 1658) (by decide +kernel) (by decide +kernel), gw (i := 11) (by decide +kernel) rfl, ⟨by decide +kernel, by decide +kernel⟩, by decide, by decide +kernel⟩
theorem mv_X12_goesOn : MeV mX12_goesOn 2 10 := ⟨mc_X12_goesOn, by unfold MeN; decide +kernel, gw (i := 1657) (by decide +kernel) rfl, gs (i := 101) (by decide +kernel) rfl, rfl⟩
theorem mc_X12_laysMasses : MeC mX12_laysMasses := ⟨gw (i := 1653) (by decide +kernel) (by decide +kernel), gw (i := 11) (by decide +kernel) rfl, ⟨by decide +kernel, by decide +kernel⟩, by decide, by decide +kernel⟩
theorem mv_X12_laysMasses : MeV mX12_laysMasses 0 10 := ⟨mc_X12_laysMasses, by unfold MeN; decide +kernel, gw (i := 1652) (by decide +kernel) rfl, gs (i := 100) (by decide +kernel) rfl, rfl⟩
theorem mc_X12_laysPolicy : MeC mX12_laysPolicy := ⟨gw (i := 1675) (by decide +kernel) (by decide +kernel), gw (i := 11) (by decide +kernel) rfl, ⟨by decide +kernel, by decide +kernel⟩, by decide, by decide +kernel⟩
theorem mv_X12_laysPolicy : MeV mX12_laysPolicy 1 10 := ⟨mc_X12_laysPolicy, by unfold MeN; decide +kernel, gw (i := 1674) (by decide +kernel) rfl, gs (i := 102) (by decide +kernel) rfl, rfl⟩
theorem mc_X12_here_ : MeC mX12_here_ := ⟨gw (i := 1679) (by decide +kernel) (by decide +kernel), gw (i := 11) (by decide +kernel) rfl, ⟨by decide +kernel, by decide +kernel⟩, by decide, by decide +kernel⟩
theorem mv_X12_here_ : MeV mX12_here_ 1 10 := ⟨mc_X12_here_, by unfold MeN; decide +kernel, gw (i := 1678) (by decide +kernel) rfl, gs (i := 103) (by decide +kernel) rfl, rfl⟩
theorem mc_X12_mendsAll : MeC mX12_mendsAll := ⟨gw (i := 1737) (by decide +kernel) (by decide +kernel), gw (i := 11) (by decide +kernel) rfl, ⟨by decide +kernel, by decide +kernel⟩, by decide, by decide +kernel⟩
theorem mv_X12_mendsAll : MeV mX12_mendsAll 0 10 := ⟨mc_X12_mendsAll, by unfold MeN; decide +kernel, gw (i := 1736) (by decide +kernel) rfl, gs (i := 104) (by decide +kernel) rfl, rfl⟩
theorem mc_X12_isScript : MeC mX12_isScript := ⟨gw (i := 1745) (by decide +kernel) (by decide +kernel), gw (i := 11) (by decide +kernel) rfl, ⟨by decide +kernel, by decide +kernel⟩, by decide, by decide +kernel⟩
theorem mv_X12_isScript : MeV mX12_isScript 1 10 := ⟨mc_X12_isScript, by unfold MeN; decide +kernel, gw (i := 1744) (by decide +kernel) rfl, gs (i := 105) (by decide +kernel) rfl, rfl⟩
theorem mc_X12_leftNow : MeC mX12_leftNow := ⟨gw (i := 1761) (by decide +kernel) (by decide +kernel), gw (i := 11) (by decide +kernel) rfl, ⟨by decide +kernel, by decide +kernel⟩, by decide, by decide +kernel⟩
theorem mv_X12_leftNow : MeV mX12_leftNow 0 10 := ⟨mc_X12_leftNow, by unfold MeN; decide +kernel, gw (i := 1760) (by decide +kernel) rfl, gs (i := 106) (by decide +kernel) rfl, rfl⟩
theorem mc_X12_highest : MeC mX12_highest := ⟨gw (i := 1765) (by decide +kernel) (by decide +kernel), gw (i := 11) (by decide +kernel) rfl, ⟨by decide +kernel, by decide +kernel⟩, by decide, by decide +kernel⟩
theorem mv_X12_highest : MeV mX12_highest 0 10 := ⟨mc_X12_highest, by unfold MeN; decide +kernel, gw (i := 1764) (by decide +kernel) rfl, gs (i := 107) (by decide +kernel) rfl, rfl⟩
theorem mc_X3_passYear : MeC mX3_passYear := ⟨gw (i := 642) (by decide +kernel) (by decide +kernel), gw (i := 7) (by decide +kernel) rfl, ⟨by decide +kernel, by decide +kernel⟩, by decide, by decide +kernel⟩
theorem mv_X3_passYear : MeV mX3_passYear 1 2 := ⟨mc_X3_passYear, by unfold MeN; decide +kernel, gw (i := 641) (by decide +kernel) rfl, gs (i := 17) (by decide +kernel) rfl, rfl⟩
theorem mc_X3_giveNotice : MeC mX3_giveNotice := ⟨gw (i := 659) (by decide +kernel) (by decide +kernel), gw (i := 7) (by decide +kernel) rfl, ⟨by decide +kernel, by decide +kernel⟩, by decide, by decide +kernel⟩
theorem mv_X3_giveNotice : MeV mX3_giveNotice 1 2 := ⟨mc_X3_giveNotice, by unfold MeN; decide +kernel, gw (i := 658) (by decide +kernel) rfl, gs (i := 20) (by decide +kernel) rfl, rfl⟩
theorem mc_X3_takeNoticeBack : MeC mX3_takeNoticeBack := ⟨gw (i := 664) (by decide +kernel) (by decide +kernel), gw (i := 7) (by decide +kernel) rfl, ⟨by decide +kernel, by decide +kernel⟩, by decide, by decide +kernel⟩
theorem mv_X3_takeNoticeBack : MeV mX3_takeNoticeBack 0 2 := ⟨mc_X3_takeNoticeBack, by unfold MeN; decide +kernel, gw (i := 663) (by decide +kernel) rfl, gs (i := 21) (by decide +kernel) rfl, rfl⟩
theorem mc_X3_tellInstalment : MeC mX3_tellInstalment := ⟨gw (i := 668) (by decide +kernel) (by decide +kernel), gw (i := 7) (by decide +kernel) rfl, ⟨by decide +kernel, by decide +kernel⟩, by decide, by decide +kernel⟩
theorem mv_X3_tellInstalment : MeV mX3_tellInstalment 2 2 := ⟨mc_X3_tellInstalment, by unfold MeN; decide +kernel, gw (i := 667) (by decide +kernel) rfl, gs (i := 22) (by decide +kernel) rfl, rfl⟩
theorem mc_X3_tellRate : MeC mX3_tellRate := ⟨gw (i := 672) (by decide +kernel) (by decide +kernel), gw (i := 7) (by decide +kernel) rfl, ⟨by decide +kernel, by decide +kernel⟩, by decide, by decide +kernel⟩
theorem mv_X3_tellRate : MeV mX3_tellRate 3 2 := ⟨mc_X3_tellRate, by unfold MeN; decide +kernel, gw (i := 671) (by decide +kernel) rfl, gs (i := 23) (by decide +kernel) rfl, rfl⟩
theorem mc_X3_here : MeC mX3_here := ⟨gw (i := 653) (by decide +kernel) (by decide +kernel), gw (i := 7) (by decide +kernel) rfl, ⟨by decide +kernel, by decide +kernel⟩, by decide, by decide +kernel⟩
theorem mv_X3_here : MeV mX3_here 0 2 := ⟨mc_X3_here, by unfold MeN; decide +kernel, gw (i := 652) (by decide +kernel) rfl, gs (i := 19) (by decide +kernel) rfl, rfl⟩
theorem mc_X3_carryOut : MeC mX3_carryOut := ⟨gw (i := 677) (by decide +kernel) (by decide +kernel), gw (i := 7) (by decide +kernel) rfl, ⟨by decide +kernel, by decide +kernel⟩, by decide, by decide +kernel⟩
theorem mv_X3_carryOut : MeV mX3_carryOut 1 2 := ⟨mc_X3_carryOut, by unfold MeN; decide +kernel, gw (i := 676) (by decide +kernel) rfl, gs (i := 24) (by decide +kernel) rfl, rfl⟩
theorem mc_X3_takeDeeds : MeC mX3_takeDeeds := ⟨gw (i := 681) (by decide +kernel) (by decide +kernel), gw (i := 7) (by decide +kernel) rfl, ⟨by decide +kernel, by decide +kernel⟩, by decide, by decide +kernel⟩
theorem mv_X3_takeDeeds : MeV mX3_takeDeeds 1 2 := ⟨mc_X3_takeDeeds, by unfold MeN; decide +kernel, gw (i := 680) (by decide +kernel) rfl, gs (i := 25) (by decide +kernel) rfl, rfl⟩
theorem mc_X3_settleNotice : MeC mX3_settleNotice := ⟨gw (i := 648) (by decide +kernel) (by decide +kernel), gw (i := 7) (by decide +kernel) rfl, ⟨by decide +kernel, by decide +kernel⟩, by decide, by decide +kernel⟩
theorem mv_X3_settleNotice : MeV mX3_settleNotice 1 2 := ⟨mc_X3_settleNotice, by unfold MeN; decide +kernel, gw (i := 647) (by decide +kernel) rfl, gs (i := 18) (by decide +kernel) rfl, rfl⟩
theorem mc_X4_readSteps : MeC mX4_readSteps := ⟨gw (i := 410) (by decide +kernel) (by decide +kernel), gw (i := 3) (by decide +kernel) rfl, ⟨by decide +kernel, by decide +kernel⟩, by decide, by decide +kernel⟩
theorem mv_X4_readSteps : MeV mX4_readSteps 0 3 := ⟨mc_X4_readSteps, by unfold MeN; decide +kernel, gw (i := 409) (by decide +kernel) rfl, gs (i := 0) (by decide +kernel) rfl, rfl⟩
theorem mc_X4_readClauses : MeC mX4_readClauses := ⟨gw (i := 444) (by decide +kernel) (by decide +kernel), gw (i := 3) (by decide +kernel) rfl, ⟨by decide +kernel, by decide +kernel⟩, by decide, by decide +kernel⟩
theorem mv_X4_readClauses : MeV mX4_readClauses 1 3 := ⟨mc_X4_readClauses, by unfold MeN; decide +kernel, gw (i := 443) (by decide +kernel) rfl, gs (i := 4) (by decide +kernel) rfl, rfl⟩
theorem mc_X4_skipBlanks : MeC mX4_skipBlanks := ⟨gw (i := 414) (by decide +kernel) (by decide +kernel), gw (i := 3) (by decide +kernel) rfl, ⟨by decide +kernel, by decide +kernel⟩, by decide, by decide +kernel⟩
theorem mv_X4_skipBlanks : MeV mX4_skipBlanks 0 3 := ⟨mc_X4_skipBlanks, by unfold MeN; decide +kernel, gw (i := 413) (by decide +kernel) rfl, gs (i := 1) (by decide +kernel) rfl, rfl⟩
theorem mc_X9_at : MeC mX9_at := ⟨gw (i := 418) (by decide +kernel) (by decide +kernel), gw (i := 2) (by decide +kernel) rfl, ⟨by decide +kernel, by decide +kernel⟩, by decide, by decide +kernel⟩
theorem mv_X9_at : MeV mX9_at 1 7 := ⟨mc_X9_at, by unfold MeN; decide +kernel, gw (i := 416) (by decide +kernel) rfl, gw (i := 417) (by decide +kernel) rfl, rfl⟩
theorem mc_X4_placeOf : MeC mX4_placeOf := ⟨gw (i := 423) (by decide +kernel) (by decide +kernel), gw (i := 3) (by decide +kernel) rfl, ⟨by decide +kernel, by decide +kernel⟩, by decide, by decide +kernel⟩
theorem ms_X4_placeOf : MeS mX4_placeOf 4 := ⟨mc_X4_placeOf, by unfold MeN; decide +kernel, gw (i := 422) (by decide +kernel) rfl⟩
theorem mc_X4_readItems : MeC mX4_readItems := ⟨gw (i := 452) (by decide +kernel) (by decide +kernel), gw (i := 3) (by decide +kernel) rfl, ⟨by decide +kernel, by decide +kernel⟩, by decide, by decide +kernel⟩
theorem mv_X4_readItems : MeV mX4_readItems 1 3 := ⟨mc_X4_readItems, by unfold MeN; decide +kernel, gw (i := 451) (by decide +kernel) rfl, gs (i := 5) (by decide +kernel) rfl, rfl⟩
theorem mc_X4_startPart : MeC mX4_startPart := ⟨gw (i := 458) (by decide +kernel) (by decide +kernel), gw (i := 3) (by decide +kernel) rfl, ⟨by decide +kernel, by decide +kernel⟩, by decide, by decide +kernel⟩
theorem mv_X4_startPart : MeV mX4_startPart 1 3 := ⟨mc_X4_startPart, by unfold MeN; decide +kernel, gw (i := 457) (by decide +kernel) rfl, gs (i := 6) (by decide +kernel) rfl, rfl⟩
theorem mc_X4_readNumber : MeC mX4_readNumber := ⟨gw (i := 437) (by decide +kernel) (by decide +kernel), gw (i := 3) (by decide +kernel) rfl, ⟨by decide +kernel, by decide +kernel⟩, by decide, by decide +kernel⟩
theorem mv_X4_readNumber : MeV mX4_readNumber 2 3 := ⟨mc_X4_readNumber, by unfold MeN; decide +kernel, gw (i := 436) (by decide +kernel) rfl, gs (i := 3) (by decide +kernel) rfl, rfl⟩
theorem mc_X4_readStepNumbers : MeC mX4_readStepNumbers := ⟨gw (i := 427) (by decide +kernel) (by decide +kernel), gw (i := 3) (by decide +kernel) rfl, ⟨by decide +kernel, by decide +kernel⟩, by decide, by decide +kernel⟩
theorem mv_X4_readStepNumbers : MeV mX4_readStepNumbers 1 3 := ⟨mc_X4_readStepNumbers, by unfold MeN; decide +kernel, gw (i := 426) (by decide +kernel) rfl, gs (i := 2) (by decide +kernel) rfl, rfl⟩
theorem mc_X4_isDigit : MeC mX4_isDigit := ⟨gw (i := 440) (by decide +kernel) (by decide +kernel), gw (i := 3) (by decide +kernel) rfl, ⟨by decide +kernel, by decide +kernel⟩, by decide, by decide +kernel⟩
theorem ms_X4_isDigit : MeS mX4_isDigit 1 := ⟨mc_X4_isDigit, by unfold MeN; decide +kernel, gw (i := 439) (by decide +kernel) rfl⟩
theorem mc_X8_takesOver : MeC mX8_takesOver := ⟨gw (i := 543) (by decide +kernel) (by decide +kernel), gw (i := 5) (by decide +kernel) rfl, ⟨by decide +kernel, by decide +kernel⟩, by decide, by decide +kernel⟩
theorem mv_X8_takesOver : MeV mX8_takesOver 3 6 := ⟨mc_X8_takesOver, by unfold MeN; decide +kernel, gw (i := 542) (by decide +kernel) rfl, gs (i := 12) (by decide +kernel) rfl, rfl⟩
theorem mc_X8_reckonYears : MeC mX8_reckonYears := ⟨gw (i := 547) (by decide +kernel) (by decide +kernel), gw (i := 5) (by decide +kernel) rfl, ⟨by decide +kernel, by decide +kernel⟩, by decide, by decide +kernel⟩
theorem mv_X8_reckonYears : MeV mX8_reckonYears 0 6 := ⟨mc_X8_reckonYears, by unfold MeN; decide +kernel, gw (i := 546) (by decide +kernel) rfl, gs (i := 13) (by decide +kernel) rfl, rfl⟩
theorem mc_X8_priceOf : MeC mX8_priceOf := ⟨gw (i := 551) (by decide +kernel) (by decide +kernel), gw (i := 5) (by decide +kernel) rfl, ⟨by decide +kernel, by decide +kernel⟩, by decide, by decide +kernel⟩
theorem mv_X8_priceOf : MeV mX8_priceOf 1 6 := ⟨mc_X8_priceOf, by unfold MeN; decide +kernel, gw (i := 550) (by decide +kernel) rfl, gs (i := 14) (by decide +kernel) rfl, rfl⟩
theorem mc_X8_couponOfNode : MeC mX8_couponOfNode := ⟨gw (i := 571) (by decide +kernel) (by decide +kernel), gw (i := 5) (by decide +kernel) rfl, ⟨by decide +kernel, by decide +kernel⟩, by decide, by decide +kernel⟩
theorem mv_X8_couponOfNode : MeV mX8_couponOfNode 1 6 := ⟨mc_X8_couponOfNode, by unfold MeN; decide +kernel, gw (i := 569) (by decide +kernel) rfl, gw (i := 570) (by decide +kernel) rfl, rfl⟩
theorem mc_X8_reckonDeeds : MeC mX8_reckonDeeds := ⟨gw (i := 597) (by decide +kernel) (by decide +kernel), gw (i := 5) (by decide +kernel) rfl, ⟨by decide +kernel, by decide +kernel⟩, by decide, by decide +kernel⟩
theorem mv_X8_reckonDeeds : MeV mX8_reckonDeeds 5 6 := ⟨mc_X8_reckonDeeds, by unfold MeN; decide +kernel, gw (i := 596) (by decide +kernel) rfl, gs (i := 15) (by decide +kernel) rfl, rfl⟩
theorem mc_J7_fill_d0a16 : MeC mJ7_fill_d0a16 := ⟨gw (i := 781) (by decide +kernel) (by decide +kernel), gw (i := 12) (by decide +kernel) rfl, ⟨by decide +kernel, by decide +kernel⟩, by decide, by decide +kernel⟩
theorem ms_J7_fill_d0a16 : MeS mJ7_fill_d0a16 2 := ⟨mc_J7_fill_d0a16, by unfold MeN; decide +kernel, gw (i := 780) (by decide +kernel) rfl⟩
theorem mc_X10_arrive : MeC mX10_arrive := ⟨gw (i := 786) (by decide +kernel) (by decide +kernel), gw (i := 9) (by decide +kernel) rfl, ⟨by decide +kernel, by decide +kernel⟩, by decide, by decide +kernel⟩
theorem mv_X10_arrive : MeV mX10_arrive 4 8 := ⟨mc_X10_arrive, by unfold MeN; decide +kernel, gw (i := 785) (by decide +kernel) rfl, gs (i := 29) (by decide +kernel) rfl, rfl⟩
theorem mc_X10_finish : MeC mX10_finish := ⟨gw (i := 790) (by decide +kernel) (by decide +kernel), gw (i := 9) (by decide +kernel) rfl, ⟨by decide +kernel, by decide +kernel⟩, by decide, by decide +kernel⟩
theorem mv_X10_finish : MeV mX10_finish 4 8 := ⟨mc_X10_finish, by unfold MeN; decide +kernel, gw (i := 789) (by decide +kernel) rfl, gs (i := 30) (by decide +kernel) rfl, rfl⟩
theorem mc_X10_passYear : MeC mX10_passYear := ⟨gw (i := 797) (by decide +kernel) (by decide +kernel), gw (i := 9) (by decide +kernel) rfl, ⟨by decide +kernel, by decide +kernel⟩, by decide, by decide +kernel⟩
theorem mv_X10_passYear : MeV mX10_passYear 6 8 := ⟨mc_X10_passYear, by unfold MeN; decide +kernel, gw (i := 796) (by decide +kernel) rfl, gs (i := 31) (by decide +kernel) rfl, rfl⟩
theorem mc_X10_settleNotice : MeC mX10_settleNotice := ⟨gw (i := 802) (by decide +kernel) (by decide +kernel), gw (i := 9) (by decide +kernel) rfl, ⟨by decide +kernel, by decide +kernel⟩, by decide, by decide +kernel⟩
theorem mv_X10_settleNotice : MeV mX10_settleNotice 5 8 := ⟨mc_X10_settleNotice, by unfold MeN; decide +kernel, gw (i := 801) (by decide +kernel) rfl, gs (i := 32) (by decide +kernel) rfl, rfl⟩
theorem mc_J7_rangeCheck_23922 : MeC mJ7_rangeCheck_23922 := ⟨gw (i := 433) (by decide +kernel) (by decide +kernel), gw (i := 12) (by decide +kernel) rfl, ⟨by decide +kernel, by decide +kernel⟩, by decide, by decide +kernel⟩
theorem ms_J7_rangeCheck_23922 : MeS mJ7_rangeCheck_23922 3 := ⟨mc_J7_rangeCheck_23922, by unfold MeN; decide +kernel, gw (i := 432) (by decide +kernel) rfl⟩
theorem mc_X11_feed : MeC mX11_feed := ⟨gw (i := 378) (by decide +kernel) (by decide +kernel), gw (i := 1) (by decide +kernel) rfl, ⟨by decide +kernel, by decide +kernel⟩, by decide, by decide +kernel⟩
theorem mv_X11_feed : MeV mX11_feed 5 9 := ⟨mc_X11_feed, by unfold MeN; decide +kernel, gw (i := 376) (by decide +kernel) rfl, gw (i := 377) (by decide +kernel) rfl, rfl⟩
theorem mc_X11_end : MeC mX11_end := ⟨gw (i := 390) (by decide +kernel) (by decide +kernel), gw (i := 1) (by decide +kernel) rfl, ⟨by decide +kernel, by decide +kernel⟩, by decide, by decide +kernel⟩
theorem mv_X11_end : MeV mX11_end 1 9 := ⟨mc_X11_end, by unfold MeN; decide +kernel, gw (i := 388) (by decide +kernel) rfl, gw (i := 389) (by decide +kernel) rfl, rfl⟩
theorem mc_X11_fault : MeC mX11_fault := ⟨gw (i := 394) (by decide +kernel) (by decide +kernel), gw (i := 1) (by decide +kernel) rfl, ⟨by decide +kernel, by decide +kernel⟩, by decide, by decide +kernel⟩
theorem mv_X11_fault : MeV mX11_fault 1 9 := ⟨mc_X11_fault, by unfold MeN; decide +kernel, gw (i := 392) (by decide +kernel) rfl, gw (i := 393) (by decide +kernel) rfl, rfl⟩
theorem mc_X11_text : MeC mX11_text := ⟨gw (i := 468) (by decide +kernel) (by decide +kernel), gw (i := 1) (by decide +kernel) rfl, ⟨by decide +kernel, by decide +kernel⟩, by decide, by decide +kernel⟩
theorem mv_X11_text : MeV mX11_text 1 9 := ⟨mc_X11_text, by unfold MeN; decide +kernel, gw (i := 466) (by decide +kernel) rfl, gw (i := 467) (by decide +kernel) rfl, rfl⟩
theorem mc_X11_rule : MeC mX11_rule := ⟨gw (i := 530) (by decide +kernel) (by decide +kernel), gw (i := 1) (by decide +kernel) rfl, ⟨by decide +kernel, by decide +kernel⟩, by decide, by decide +kernel⟩
theorem mv_X11_rule : MeV mX11_rule 1 9 := ⟨mc_X11_rule, by unfold MeN; decide +kernel, gw (i := 528) (by decide +kernel) rfl, gw (i := 529) (by decide +kernel) rfl, rfl⟩
theorem mc_X11_year : MeC mX11_year := ⟨gw (i := 534) (by decide +kernel) (by decide +kernel), gw (i := 1) (by decide +kernel) rfl, ⟨by decide +kernel, by decide +kernel⟩, by decide, by decide +kernel⟩
theorem mv_X11_year : MeV mX11_year 2 9 := ⟨mc_X11_year, by unfold MeN; decide +kernel, gw (i := 532) (by decide +kernel) rfl, gw (i := 533) (by decide +kernel) rfl, rfl⟩
theorem mc_X11_costs : MeC mX11_costs := ⟨gw (i := 559) (by decide +kernel) (by decide +kernel), gw (i := 1) (by decide +kernel) rfl, ⟨by decide +kernel, by decide +kernel⟩, by decide, by decide +kernel⟩
theorem mv_X11_costs : MeV mX11_costs 3 9 := ⟨mc_X11_costs, by unfold MeN; decide +kernel, gw (i := 557) (by decide +kernel) rfl, gw (i := 558) (by decide +kernel) rfl, rfl⟩
theorem mc_X11_best : MeC mX11_best := ⟨gw (i := 620) (by decide +kernel) (by decide +kernel), gw (i := 1) (by decide +kernel) rfl, ⟨by decide +kernel, by decide +kernel⟩, by decide, by decide +kernel⟩
theorem mv_X11_best : MeV mX11_best 2 9 := ⟨mc_X11_best, by unfold MeN; decide +kernel, gw (i := 618) (by decide +kernel) rfl, gw (i := 619) (by decide +kernel) rfl, rfl⟩
theorem mc_X11_up : MeC mX11_up := ⟨gw (i := 624) (by decide +kernel) (by decide +kernel), gw (i := 1) (by decide +kernel) rfl, ⟨by decide +kernel, by decide +kernel⟩, by decide, by decide +kernel⟩
theorem mv_X11_up : MeV mX11_up 0 9 := ⟨mc_X11_up, by unfold MeN; decide +kernel, gw (i := 622) (by decide +kernel) rfl, gw (i := 623) (by decide +kernel) rfl, rfl⟩
theorem mc_X11_down : MeC mX11_down := ⟨gw (i := 692) (by decide +kernel) (by decide +kernel), gw (i := 1) (by decide +kernel) rfl, ⟨by decide +kernel, by decide +kernel⟩, by decide, by decide +kernel⟩
theorem mv_X11_down : MeV mX11_down 0 9 := ⟨mc_X11_down, by unfold MeN; decide +kernel, gw (i := 690) (by decide +kernel) rfl, gw (i := 691) (by decide +kernel) rfl, rfl⟩
theorem mc_X11_call : MeC mX11_call := ⟨gw (i := 696) (by decide +kernel) (by decide +kernel), gw (i := 1) (by decide +kernel) rfl, ⟨by decide +kernel, by decide +kernel⟩, by decide, by decide +kernel⟩
theorem mv_X11_call : MeV mX11_call 0 9 := ⟨mc_X11_call, by unfold MeN; decide +kernel, gw (i := 694) (by decide +kernel) rfl, gw (i := 695) (by decide +kernel) rfl, rfl⟩
theorem mc_X11_refund : MeC mX11_refund := ⟨gw (i := 700) (by decide +kernel) (by decide +kernel), gw (i := 1) (by decide +kernel) rfl, ⟨by decide +kernel, by decide +kernel⟩, by decide, by decide +kernel⟩
theorem mv_X11_refund : MeV mX11_refund 0 9 := ⟨mc_X11_refund, by unfold MeN; decide +kernel, gw (i := 698) (by decide +kernel) rfl, gw (i := 699) (by decide +kernel) rfl, rfl⟩
theorem mc_X11_withdraw : MeC mX11_withdraw := ⟨gw (i := 704) (by decide +kernel) (by decide +kernel), gw (i := 1) (by decide +kernel) rfl, ⟨by decide +kernel, by decide +kernel⟩, by decide, by decide +kernel⟩
theorem mv_X11_withdraw : MeV mX11_withdraw 0 9 := ⟨mc_X11_withdraw, by unfold MeN; decide +kernel, gw (i := 702) (by decide +kernel) rfl, gw (i := 703) (by decide +kernel) rfl, rfl⟩
theorem mc_X11_instal : MeC mX11_instal := ⟨gw (i := 708) (by decide +kernel) (by decide +kernel), gw (i := 1) (by decide +kernel) rfl, ⟨by decide +kernel, by decide +kernel⟩, by decide, by decide +kernel⟩
theorem mv_X11_instal : MeV mX11_instal 2 9 := ⟨mc_X11_instal, by unfold MeN; decide +kernel, gw (i := 706) (by decide +kernel) rfl, gw (i := 707) (by decide +kernel) rfl, rfl⟩
theorem mc_X11_tell : MeC mX11_tell := ⟨gw (i := 712) (by decide +kernel) (by decide +kernel), gw (i := 1) (by decide +kernel) rfl, ⟨by decide +kernel, by decide +kernel⟩, by decide, by decide +kernel⟩
theorem mv_X11_tell : MeV mX11_tell 3 9 := ⟨mc_X11_tell, by unfold MeN; decide +kernel, gw (i := 710) (by decide +kernel) rfl, gw (i := 711) (by decide +kernel) rfl, rfl⟩
theorem mc_X11_doBest : MeC mX11_doBest := ⟨gw (i := 716) (by decide +kernel) (by decide +kernel), gw (i := 1) (by decide +kernel) rfl, ⟨by decide +kernel, by decide +kernel⟩, by decide, by decide +kernel⟩
theorem mv_X11_doBest : MeV mX11_doBest 0 9 := ⟨mc_X11_doBest, by unfold MeN; decide +kernel, gw (i := 714) (by decide +kernel) rfl, gw (i := 715) (by decide +kernel) rfl, rfl⟩
theorem mc_X11_adopt : MeC mX11_adopt := ⟨gw (i := 720) (by decide +kernel) (by decide +kernel), gw (i := 1) (by decide +kernel) rfl, ⟨by decide +kernel, by decide +kernel⟩, by decide, by decide +kernel⟩
theorem mv_X11_adopt : MeV mX11_adopt 0 9 := ⟨mc_X11_adopt, by unfold MeN; decide +kernel, gw (i := 718) (by decide +kernel) rfl, gw (i := 719) (by decide +kernel) rfl, rfl⟩
theorem mc_X11_follow : MeC mX11_follow := ⟨gw (i := 724) (by decide +kernel) (by decide +kernel), gw (i := 1) (by decide +kernel) rfl, ⟨by decide +kernel, by decide +kernel⟩, by decide, by decide +kernel⟩
theorem mv_X11_follow : MeV mX11_follow 0 9 := ⟨mc_X11_follow, by unfold MeN; decide +kernel, gw (i := 722) (by decide +kernel) rfl, gw (i := 723) (by decide +kernel) rfl, rfl⟩
theorem mc_X11_years : MeC mX11_years := ⟨gw (i := 728) (by decide +kernel) (by decide +kernel), gw (i := 1) (by decide +kernel) rfl, ⟨by decide +kernel, by decide +kernel⟩, by decide, by decide +kernel⟩
theorem mv_X11_years : MeV mX11_years 2 9 := ⟨mc_X11_years, by unfold MeN; decide +kernel, gw (i := 726) (by decide +kernel) rfl, gw (i := 727) (by decide +kernel) rfl, rfl⟩
theorem mc_X11_undo : MeC mX11_undo := ⟨gw (i := 746) (by decide +kernel) (by decide +kernel), gw (i := 1) (by decide +kernel) rfl, ⟨by decide +kernel, by decide +kernel⟩, by decide, by decide +kernel⟩
theorem mv_X11_undo : MeV mX11_undo 0 9 := ⟨mc_X11_undo, by unfold MeN; decide +kernel, gw (i := 744) (by decide +kernel) rfl, gw (i := 745) (by decide +kernel) rfl, rfl⟩
theorem mc_X11_log : MeC mX11_log := ⟨gw (i := 754) (by decide +kernel) (by decide +kernel), gw (i := 1) (by decide +kernel) rfl, ⟨by decide +kernel, by decide +kernel⟩, by decide, by decide +kernel⟩
theorem mv_X11_log : MeV mX11_log 2 9 := ⟨mc_X11_log, by unfold MeN; decide +kernel, gw (i := 752) (by decide +kernel) rfl, gw (i := 753) (by decide +kernel) rfl, rfl⟩
theorem mc_X11_way : MeC mX11_way := ⟨gw (i := 769) (by decide +kernel) (by decide +kernel), gw (i := 1) (by decide +kernel) rfl, ⟨by decide +kernel, by decide +kernel⟩, by decide, by decide +kernel⟩
theorem mv_X11_way : MeV mX11_way 2 9 := ⟨mc_X11_way, by unfold MeN; decide +kernel, gw (i := 767) (by decide +kernel) rfl, gw (i := 768) (by decide +kernel) rfl, rfl⟩
theorem mc_X11_mass : MeC mX11_mass := ⟨gw (i := 809) (by decide +kernel) (by decide +kernel), gw (i := 1) (by decide +kernel) rfl, ⟨by decide +kernel, by decide +kernel⟩, by decide, by decide +kernel⟩
theorem mv_X11_mass : MeV mX11_mass 2 9 := ⟨mc_X11_mass, by unfold MeN; decide +kernel, gw (i := 807) (by decide +kernel) rfl, gw (i := 808) (by decide +kernel) rfl, rfl⟩
theorem mc_X11_masses : MeC mX11_masses := ⟨gw (i := 821) (by decide +kernel) (by decide +kernel), gw (i := 1) (by decide +kernel) rfl, ⟨by decide +kernel, by decide +kernel⟩, by decide, by decide +kernel⟩
theorem mv_X11_masses : MeV mX11_masses 1 9 := ⟨mc_X11_masses, by unfold MeN; decide +kernel, gw (i := 819) (by decide +kernel) rfl, gw (i := 820) (by decide +kernel) rfl, rfl⟩
theorem mc_X11_worth : MeC mX11_worth := ⟨gw (i := 833) (by decide +kernel) (by decide +kernel), gw (i := 1) (by decide +kernel) rfl, ⟨by decide +kernel, by decide +kernel⟩, by decide, by decide +kernel⟩
theorem mv_X11_worth : MeV mX11_worth 0 9 := ⟨mc_X11_worth, by unfold MeN; decide +kernel, gw (i := 831) (by decide +kernel) rfl, gw (i := 832) (by decide +kernel) rfl, rfl⟩
theorem mc_X11_margin : MeC mX11_margin := ⟨gw (i := 846) (by decide +kernel) (by decide +kernel), gw (i := 1) (by decide +kernel) rfl, ⟨by decide +kernel, by decide +kernel⟩, by decide, by decide +kernel⟩
theorem mv_X11_margin : MeV mX11_margin 0 9 := ⟨mc_X11_margin, by unfold MeN; decide +kernel, gw (i := 844) (by decide +kernel) rfl, gw (i := 845) (by decide +kernel) rfl, rfl⟩
theorem mc_X11_till : MeC mX11_till := ⟨gw (i := 852) (by decide +kernel) (by decide +kernel), gw (i := 1) (by decide +kernel) rfl, ⟨by decide +kernel, by decide +kernel⟩, by decide, by decide +kernel⟩
theorem mv_X11_till : MeV mX11_till 0 9 := ⟨mc_X11_till, by unfold MeN; decide +kernel, gw (i := 850) (by decide +kernel) rfl, gw (i := 851) (by decide +kernel) rfl, rfl⟩
theorem mc_X11_edge : MeC mX11_edge := ⟨gw (i := 876) (by decide +kernel) (by decide +kernel), gw (i := 1) (by decide +kernel) rfl, ⟨by decide +kernel, by decide +kernel⟩, by decide, by decide +kernel⟩
theorem mv_X11_edge : MeV mX11_edge 1 9 := ⟨mc_X11_edge, by unfold MeN; decide +kernel, gw (i := 874) (by decide +kernel) rfl, gw (i := 875) (by decide +kernel) rfl, rfl⟩
theorem mc_X11_fair : MeC mX11_fair := ⟨gw (i := 880) (by decide +kernel) (by decide +kernel), gw (i := 1) (by decide +kernel) rfl, ⟨by decide +kernel, by decide +kernel⟩, by decide, by decide +kernel⟩
theorem mv_X11_fair : MeV mX11_fair 0 9 := ⟨mc_X11_fair, by unfold MeN; decide +kernel, gw (i := 878) (by decide +kernel) rfl, gw (i := 879) (by decide +kernel) rfl, rfl⟩
theorem mc_X11_ending : MeC mX11_ending := ⟨gw (i := 884) (by decide +kernel) (by decide +kernel), gw (i := 1) (by decide +kernel) rfl, ⟨by decide +kernel, by decide +kernel⟩, by decide, by decide +kernel⟩
theorem mv_X11_ending : MeV mX11_ending 2 9 := ⟨mc_X11_ending, by unfold MeN; decide +kernel, gw (i := 882) (by decide +kernel) rfl, gw (i := 883) (by decide +kernel) rfl, rfl⟩
theorem mc_X11_saved : MeC mX11_saved := ⟨gw (i := 888) (by decide +kernel) (by decide +kernel), gw (i := 1) (by decide +kernel) rfl, ⟨by decide +kernel, by decide +kernel⟩, by decide, by decide +kernel⟩
theorem mv_X11_saved : MeV mX11_saved 0 9 := ⟨mc_X11_saved, by unfold MeN; decide +kernel, gw (i := 886) (by decide +kernel) rfl, gw (i := 887) (by decide +kernel) rfl, rfl⟩
theorem mc_X11_sums : MeC mX11_sums := ⟨gw (i := 892) (by decide +kernel) (by decide +kernel), gw (i := 1) (by decide +kernel) rfl, ⟨by decide +kernel, by decide +kernel⟩, by decide, by decide +kernel⟩
theorem mv_X11_sums : MeV mX11_sums 1 9 := ⟨mc_X11_sums, by unfold MeN; decide +kernel, gw (i := 890) (by decide +kernel) rfl, gw (i := 891) (by decide +kernel) rfl, rfl⟩
theorem mc_X11_deed : MeC mX11_deed := ⟨gw (i := 896) (by decide +kernel) (by decide +kernel), gw (i := 1) (by decide +kernel) rfl, ⟨by decide +kernel, by decide +kernel⟩, by decide, by decide +kernel⟩
theorem mv_X11_deed : MeV mX11_deed 2 9 := ⟨mc_X11_deed, by unfold MeN; decide +kernel, gw (i := 894) (by decide +kernel) rfl, gw (i := 895) (by decide +kernel) rfl, rfl⟩
theorem mc_X11_byPolicy : MeC mX11_byPolicy := ⟨gw (i := 900) (by decide +kernel) (by decide +kernel), gw (i := 1) (by decide +kernel) rfl, ⟨by decide +kernel, by decide +kernel⟩, by decide, by decide +kernel⟩
theorem mv_X11_byPolicy : MeV mX11_byPolicy 2 9 := ⟨mc_X11_byPolicy, by unfold MeN; decide +kernel, gw (i := 898) (by decide +kernel) rfl, gw (i := 899) (by decide +kernel) rfl, rfl⟩
theorem mc_X11_regret : MeC mX11_regret := ⟨gw (i := 904) (by decide +kernel) (by decide +kernel), gw (i := 1) (by decide +kernel) rfl, ⟨by decide +kernel, by decide +kernel⟩, by decide, by decide +kernel⟩
theorem mv_X11_regret : MeV mX11_regret 0 9 := ⟨mc_X11_regret, by unfold MeN; decide +kernel, gw (i := 902) (by decide +kernel) rfl, gw (i := 903) (by decide +kernel) rfl, rfl⟩
theorem mc_X11_strays : MeC mX11_strays := ⟨gw (i := 908) (by decide +kernel) (by decide +kernel), gw (i := 1) (by decide +kernel) rfl, ⟨by decide +kernel, by decide +kernel⟩, by decide, by decide +kernel⟩
theorem mv_X11_strays : MeV mX11_strays 1 9 := ⟨mc_X11_strays, by unfold MeN; decide +kernel, gw (i := 906) (by decide +kernel) rfl, gw (i := 907) (by decide +kernel) rfl, rfl⟩
theorem mc_X11_mended : MeC mX11_mended := ⟨gw (i := 912) (by decide +kernel) (by decide +kernel), gw (i := 1) (by decide +kernel) rfl, ⟨by decide +kernel, by decide +kernel⟩, by decide, by decide +kernel⟩
theorem mv_X11_mended : MeV mX11_mended 2 9 := ⟨mc_X11_mended, by unfold MeN; decide +kernel, gw (i := 910) (by decide +kernel) rfl, gw (i := 911) (by decide +kernel) rfl, rfl⟩
theorem mc_X11_rounds : MeC mX11_rounds := ⟨gw (i := 917) (by decide +kernel) (by decide +kernel), gw (i := 1) (by decide +kernel) rfl, ⟨by decide +kernel, by decide +kernel⟩, by decide, by decide +kernel⟩
theorem mv_X11_rounds : MeV mX11_rounds 0 9 := ⟨mc_X11_rounds, by unfold MeN; decide +kernel, gw (i := 915) (by decide +kernel) rfl, gw (i := 916) (by decide +kernel) rfl, rfl⟩
theorem mc_X11_shifted : MeC mX11_shifted := ⟨gw (i := 925) (by decide +kernel) (by decide +kernel), gw (i := 1) (by decide +kernel) rfl, ⟨by decide +kernel, by decide +kernel⟩, by decide, by decide +kernel⟩
theorem mv_X11_shifted : MeV mX11_shifted 1 9 := ⟨mc_X11_shifted, by unfold MeN; decide +kernel, gw (i := 923) (by decide +kernel) rfl, gw (i := 924) (by decide +kernel) rfl, rfl⟩
theorem mc_X11_spread : MeC mX11_spread := ⟨gw (i := 929) (by decide +kernel) (by decide +kernel), gw (i := 1) (by decide +kernel) rfl, ⟨by decide +kernel, by decide +kernel⟩, by decide, by decide +kernel⟩
theorem mv_X11_spread : MeV mX11_spread 1 9 := ⟨mc_X11_spread, by unfold MeN; decide +kernel, gw (i := 927) (by decide +kernel) rfl, gw (i := 928) (by decide +kernel) rfl, rfl⟩
theorem mc_X11_step : MeC mX11_step := ⟨gw (i := 933) (by decide +kernel) (by decide +kernel), gw (i := 1) (by decide +kernel) rfl, ⟨by decide +kernel, by decide +kernel⟩, by decide, by decide +kernel⟩
theorem mv_X11_step : MeV mX11_step 3 9 := ⟨mc_X11_step, by unfold MeN; decide +kernel, gw (i := 931) (by decide +kernel) rfl, gw (i := 932) (by decide +kernel) rfl, rfl⟩
theorem mc_X11_run : MeC mX11_run := ⟨gw (i := 951) (by decide +kernel) (by decide +kernel), gw (i := 1) (by decide +kernel) rfl, ⟨by decide +kernel, by decide +kernel⟩, by decide, by decide +kernel⟩
theorem mv_X11_run : MeV mX11_run 2 9 := ⟨mc_X11_run, by unfold MeN; decide +kernel, gw (i := 949) (by decide +kernel) rfl, gw (i := 950) (by decide +kernel) rfl, rfl⟩
theorem mc_X11_perform : MeC mX11_perform := ⟨gw (i := 959) (by decide +kernel) (by decide +kernel), gw (i := 1) (by decide +kernel) rfl, ⟨by decide +kernel, by decide +kernel⟩, by decide, by decide +kernel⟩
theorem mv_X11_perform : MeV mX11_perform 1 9 := ⟨mc_X11_perform, by unfold MeN; decide +kernel, gw (i := 957) (by decide +kernel) rfl, gw (i := 958) (by decide +kernel) rfl, rfl⟩
theorem mc_X11_most : MeC mX11_most := ⟨gw (i := 963) (by decide +kernel) (by decide +kernel), gw (i := 1) (by decide +kernel) rfl, ⟨by decide +kernel, by decide +kernel⟩, by decide, by decide +kernel⟩
theorem mv_X11_most : MeV mX11_most 1 9 := ⟨mc_X11_most, by unfold MeN; decide +kernel, gw (i := 961) (by decide +kernel) rfl, gw (i := 962) (by decide +kernel) rfl, rfl⟩
theorem mc_X11_image : MeC mX11_image := ⟨gw (i := 976) (by decide +kernel) (by decide +kernel), gw (i := 1) (by decide +kernel) rfl, ⟨by decide +kernel, by decide +kernel⟩, by decide, by decide +kernel⟩
theorem mv_X11_image : MeV mX11_image 0 9 := ⟨mc_X11_image, by unfold MeN; decide +kernel, gw (i := 974) (by decide +kernel) rfl, gw (i := 975) (by decide +kernel) rfl, rfl⟩
theorem mc_X11_back : MeC mX11_back := ⟨gw (i := 984) (by decide +kernel) (by decide +kernel), gw (i := 1) (by decide +kernel) rfl, ⟨by decide +kernel, by decide +kernel⟩, by decide, by decide +kernel⟩
theorem mv_X11_back : MeV mX11_back 0 9 := ⟨mc_X11_back, by unfold MeN; decide +kernel, gw (i := 982) (by decide +kernel) rfl, gw (i := 983) (by decide +kernel) rfl, rfl⟩
theorem mc_X11_count : MeC mX11_count := ⟨gw (i := 992) (by decide +kernel) (by decide +kernel), gw (i := 1) (by decide +kernel) rfl, ⟨by decide +kernel, by decide +kernel⟩, by decide, by decide +kernel⟩
theorem mv_X11_count : MeV mX11_count 1 9 := ⟨mc_X11_count, by unfold MeN; decide +kernel, gw (i := 990) (by decide +kernel) rfl, gw (i := 991) (by decide +kernel) rfl, rfl⟩
theorem mc_X12_thrown : MeC mX12_thrown := ⟨gw (i := 1212) (by decide +kernel) (by decide +kernel), gw (i := 11) (by decide +kernel) rfl, ⟨by decide +kernel, by decide +kernel⟩, by decide, by decide +kernel⟩
theorem mv_X12_thrown : MeV mX12_thrown 0 10 := ⟨mc_X12_thrown, by unfold MeN; decide +kernel, gw (i := 1210) (by decide +kernel) rfl, gw (i := 1211) (by decide +kernel) rfl, rfl⟩
theorem mc_X12_feed : MeC mX12_feed := ⟨gw (i := 1216) (by decide +kernel) (by decide +kernel), gw (i := 11) (by decide +kernel) rfl, ⟨by decide +kernel, by decide +kernel⟩, by decide, by decide +kernel⟩
theorem mv_X12_feed : MeV mX12_feed 5 10 := ⟨mc_X12_feed, by unfold MeN; decide +kernel, gw (i := 1214) (by decide +kernel) rfl, gw (i := 1215) (by decide +kernel) rfl, rfl⟩
theorem mc_X12_end : MeC mX12_end := ⟨gw (i := 1227) (by decide +kernel) (by decide +kernel), gw (i := 11) (by decide +kernel) rfl, ⟨by decide +kernel, by decide +kernel⟩, by decide, by decide +kernel⟩
theorem mv_X12_end : MeV mX12_end 1 10 := ⟨mc_X12_end, by unfold MeN; decide +kernel, gw (i := 1225) (by decide +kernel) rfl, gw (i := 1226) (by decide +kernel) rfl, rfl⟩
theorem mc_X12_text : MeC mX12_text := ⟨gw (i := 1360) (by decide +kernel) (by decide +kernel), gw (i := 11) (by decide +kernel) rfl, ⟨by decide +kernel, by decide +kernel⟩, by decide, by decide +kernel⟩
theorem mv_X12_text : MeV mX12_text 1 10 := ⟨mc_X12_text, by unfold MeN; decide +kernel, gw (i := 1358) (by decide +kernel) rfl, gw (i := 1359) (by decide +kernel) rfl, rfl⟩
theorem mc_X12_up : MeC mX12_up := ⟨gw (i := 1380) (by decide +kernel) (by decide +kernel), gw (i := 11) (by decide +kernel) rfl, ⟨by decide +kernel, by decide +kernel⟩, by decide, by decide +kernel⟩
theorem mv_X12_up : MeV mX12_up 0 10 := ⟨mc_X12_up, by unfold MeN; decide +kernel, gw (i := 1378) (by decide +kernel) rfl, gw (i := 1379) (by decide +kernel) rfl, rfl⟩
theorem mc_X12_down : MeC mX12_down := ⟨gw (i := 1519) (by decide +kernel) (by decide +kernel), gw (i := 11) (by decide +kernel) rfl, ⟨by decide +kernel, by decide +kernel⟩, by decide, by decide +kernel⟩
theorem mv_X12_down : MeV mX12_down 0 10 := ⟨mc_X12_down, by unfold MeN; decide +kernel, gw (i := 1517) (by decide +kernel) rfl, gw (i := 1518) (by decide +kernel) rfl, rfl⟩
theorem mc_X12_call : MeC mX12_call := ⟨gw (i := 1523) (by decide +kernel) (by decide +kernel), gw (i := 11) (by decide +kernel) rfl, ⟨by decide +kernel, by decide +kernel⟩, by decide, by decide +kernel⟩
theorem mv_X12_call : MeV mX12_call 0 10 := ⟨mc_X12_call, by unfold MeN; decide +kernel, gw (i := 1521) (by decide +kernel) rfl, gw (i := 1522) (by decide +kernel) rfl, rfl⟩
theorem mc_X12_refund : MeC mX12_refund := ⟨gw (i := 1527) (by decide +kernel) (by decide +kernel), gw (i := 11) (by decide +kernel) rfl, ⟨by decide +kernel, by decide +kernel⟩, by decide, by decide +kernel⟩
theorem mv_X12_refund : MeV mX12_refund 0 10 := ⟨mc_X12_refund, by unfold MeN; decide +kernel, gw (i := 1525) (by decide +kernel) rfl, gw (i := 1526) (by decide +kernel) rfl, rfl⟩
theorem mc_X12_withdraw : MeC mX12_withdraw := ⟨gw (i := 1531) (by decide +kernel) (by decide +kernel), gw (i := 11) (by decide +kernel) rfl, ⟨by decide +kernel, by decide +kernel⟩, by decide, by decide +kernel⟩
theorem mv_X12_withdraw : MeV mX12_withdraw 0 10 := ⟨mc_X12_withdraw, by unfold MeN; decide +kernel, gw (i := 1529) (by decide +kernel) rfl, gw (i := 1530) (by decide +kernel) rfl, rfl⟩
theorem mc_X12_instal : MeC mX12_instal := ⟨gw (i := 1535) (by decide +kernel) (by decide +kernel), gw (i := 11) (by decide +kernel) rfl, ⟨by decide +kernel, by decide +kernel⟩, by decide, by decide +kernel⟩
theorem mv_X12_instal : MeV mX12_instal 2 10 := ⟨mc_X12_instal, by unfold MeN; decide +kernel, gw (i := 1533) (by decide +kernel) rfl, gw (i := 1534) (by decide +kernel) rfl, rfl⟩
theorem mc_X12_tell : MeC mX12_tell := ⟨gw (i := 1539) (by decide +kernel) (by decide +kernel), gw (i := 11) (by decide +kernel) rfl, ⟨by decide +kernel, by decide +kernel⟩, by decide, by decide +kernel⟩
theorem mv_X12_tell : MeV mX12_tell 3 10 := ⟨mc_X12_tell, by unfold MeN; decide +kernel, gw (i := 1537) (by decide +kernel) rfl, gw (i := 1538) (by decide +kernel) rfl, rfl⟩
theorem mc_X12_doBest : MeC mX12_doBest := ⟨gw (i := 1543) (by decide +kernel) (by decide +kernel), gw (i := 11) (by decide +kernel) rfl, ⟨by decide +kernel, by decide +kernel⟩, by decide, by decide +kernel⟩
theorem mv_X12_doBest : MeV mX12_doBest 0 10 := ⟨mc_X12_doBest, by unfold MeN; decide +kernel, gw (i := 1541) (by decide +kernel) rfl, gw (i := 1542) (by decide +kernel) rfl, rfl⟩
theorem mc_X12_adopt : MeC mX12_adopt := ⟨gw (i := 1547) (by decide +kernel) (by decide +kernel), gw (i := 11) (by decide +kernel) rfl, ⟨by decide +kernel, by decide +kernel⟩, by decide, by decide +kernel⟩
theorem mv_X12_adopt : MeV mX12_adopt 0 10 := ⟨mc_X12_adopt, by unfold MeN; decide +kernel, gw (i := 1545) (by decide +kernel) rfl, gw (i := 1546) (by decide +kernel) rfl, rfl⟩
theorem mc_X12_follow : MeC mX12_follow := ⟨gw (i := 1551) (by decide +kernel) (by decide +kernel), gw (i := 11) (by decide +kernel) rfl, ⟨by decide +kernel, by decide +kernel⟩, by decide, by decide +kernel⟩
theorem mv_X12_follow : MeV mX12_follow 0 10 := ⟨mc_X12_follow, by unfold MeN; decide +kernel, gw (i := 1549) (by decide +kernel) rfl, gw (i := 1550) (by decide +kernel) rfl, rfl⟩
theorem mc_X12_years : MeC mX12_years := ⟨gw (i := 1555) (by decide +kernel) (by decide +kernel), gw (i := 11) (by decide +kernel) rfl, ⟨by decide +kernel, by decide +kernel⟩, by decide, by decide +kernel⟩
theorem mv_X12_years : MeV mX12_years 2 10 := ⟨mc_X12_years, by unfold MeN; decide +kernel, gw (i := 1553) (by decide +kernel) rfl, gw (i := 1554) (by decide +kernel) rfl, rfl⟩
theorem mc_X12_status : MeC mX12_status := ⟨gw (i := 1570) (by decide +kernel) (by decide +kernel), gw (i := 11) (by decide +kernel) rfl, ⟨by decide +kernel, by decide +kernel⟩, by decide, by decide +kernel⟩
theorem mv_X12_status : MeV mX12_status 1 10 := ⟨mc_X12_status, by unfold MeN; decide +kernel, gw (i := 1568) (by decide +kernel) rfl, gw (i := 1569) (by decide +kernel) rfl, rfl⟩
theorem mc_X12_undo : MeC mX12_undo := ⟨gw (i := 1575) (by decide +kernel) (by decide +kernel), gw (i := 11) (by decide +kernel) rfl, ⟨by decide +kernel, by decide +kernel⟩, by decide, by decide +kernel⟩
theorem mv_X12_undo : MeV mX12_undo 0 10 := ⟨mc_X12_undo, by unfold MeN; decide +kernel, gw (i := 1573) (by decide +kernel) rfl, gw (i := 1574) (by decide +kernel) rfl, rfl⟩
theorem mc_X12_log : MeC mX12_log := ⟨gw (i := 1579) (by decide +kernel) (by decide +kernel), gw (i := 11) (by decide +kernel) rfl, ⟨by decide +kernel, by decide +kernel⟩, by decide, by decide +kernel⟩
theorem mv_X12_log : MeV mX12_log 2 10 := ⟨mc_X12_log, by unfold MeN; decide +kernel, gw (i := 1577) (by decide +kernel) rfl, gw (i := 1578) (by decide +kernel) rfl, rfl⟩
theorem mc_X12_image : MeC mX12_image := ⟨gw (i := 1584) (by decide +kernel) (by decide +kernel), gw (i := 11) (by decide +kernel) rfl, ⟨by decide +kernel, by decide +kernel⟩, by decide, by decide +kernel⟩
theorem mv_X12_image : MeV mX12_image 0 10 := ⟨mc_X12_image, by unfold MeN; decide +kernel, gw (i := 1582) (by decide +kernel) rfl, gw (i := 1583) (by decide +kernel) rfl, rfl⟩
theorem mc_X12_back : MeC mX12_back := ⟨gw (i := 1588) (by decide +kernel) (by decide +kernel), gw (i := 11) (by decide +kernel) rfl, ⟨by decide +kernel, by decide +kernel⟩, by decide, by decide +kernel⟩
theorem mv_X12_back : MeV mX12_back 0 10 := ⟨mc_X12_back, by unfold MeN; decide +kernel, gw (i := 1586) (by decide +kernel) rfl, gw (i := 1587) (by decide +kernel) rfl, rfl⟩
theorem mc_X12_rule : MeC mX12_rule := ⟨gw (i := 1592) (by decide +kernel) (by decide +kernel), gw (i := 11) (by decide +kernel) rfl, ⟨by decide +kernel, by decide +kernel⟩, by decide, by decide +kernel⟩
theorem mv_X12_rule : MeV mX12_rule 1 10 := ⟨mc_X12_rule, by unfold MeN; decide +kernel, gw (i := 1590) (by decide +kernel) rfl, gw (i := 1591) (by decide +kernel) rfl, rfl⟩
theorem mc_X12_rate : MeC mX12_rate := ⟨gw (i := 1597) (by decide +kernel) (by decide +kernel), gw (i := 11) (by decide +kernel) rfl, ⟨by decide +kernel, by decide +kernel⟩, by decide, by decide +kernel⟩
theorem mv_X12_rate : MeV mX12_rate 2 10 := ⟨mc_X12_rate, by unfold MeN; decide +kernel, gw (i := 1595) (by decide +kernel) rfl, gw (i := 1596) (by decide +kernel) rfl, rfl⟩
theorem mc_X12_year : MeC mX12_year := ⟨gw (i := 1601) (by decide +kernel) (by decide +kernel), gw (i := 11) (by decide +kernel) rfl, ⟨by decide +kernel, by decide +kernel⟩, by decide, by decide +kernel⟩
theorem mv_X12_year : MeV mX12_year 2 10 := ⟨mc_X12_year, by unfold MeN; decide +kernel, gw (i := 1599) (by decide +kernel) rfl, gw (i := 1600) (by decide +kernel) rfl, rfl⟩
theorem mc_X12_costs : MeC mX12_costs := ⟨gw (i := 1606) (by decide +kernel) (by decide +kernel), gw (i := 11) (by decide +kernel) rfl, ⟨by decide +kernel, by decide +kernel⟩, by decide, by decide +kernel⟩
theorem mv_X12_costs : MeV mX12_costs 3 10 := ⟨mc_X12_costs, by unfold MeN; decide +kernel, gw (i := 1604) (by decide +kernel) rfl, gw (i := 1605) (by decide +kernel) rfl, rfl⟩
theorem mc_X12_best : MeC mX12_best := ⟨gw (i := 1616) (by decide +kernel) (by decide +kernel), gw (i := 11) (by decide +kernel) rfl, ⟨by decide +kernel, by decide +kernel⟩, by decide, by decide +kernel⟩
theorem mv_X12_best : MeV mX12_best 2 10 := ⟨mc_X12_best, by unfold MeN; decide +kernel, gw (i := 1614) (by decide +kernel) rfl, gw (i := 1615) (by decide +kernel) rfl, rfl⟩
theorem mc_X12_way : MeC mX12_way := ⟨gw (i := 1620) (by decide +kernel) (by decide +kernel), gw (i := 11) (by decide +kernel) rfl, ⟨by decide +kernel, by decide +kernel⟩, by decide, by decide +kernel⟩
theorem mv_X12_way : MeV mX12_way 2 10 := ⟨mc_X12_way, by unfold MeN; decide +kernel, gw (i := 1618) (by decide +kernel) rfl, gw (i := 1619) (by decide +kernel) rfl, rfl⟩
theorem mc_X12_spread : MeC mX12_spread := ⟨gw (i := 1636) (by decide +kernel) (by decide +kernel), gw (i := 11) (by decide +kernel) rfl, ⟨by decide +kernel, by decide +kernel⟩, by decide, by decide +kernel⟩
theorem mv_X12_spread : MeV mX12_spread 1 10 := ⟨mc_X12_spread, by unfold MeN; decide +kernel, gw (i := 1634) (by decide +kernel) rfl, gw (i := 1635) (by decide +kernel) rfl, rfl⟩
theorem mc_X12_mass : MeC mX12_mass := ⟨gw (i := 1649) (by decide +kernel) (by decide +kernel), gw (i := 11) (by decide +kernel) rfl, ⟨by decide +kernel, by decide +kernel⟩, by decide, by decide +kernel⟩
theorem mv_X12_mass : MeV mX12_mass 2 10 := ⟨mc_X12_mass, by unfold MeN; decide +kernel, gw (i := 1647) (by decide +kernel) rfl, gw (i := 1648) (by decide +kernel) rfl, rfl⟩
theorem mc_X12_masses : MeC mX12_masses := ⟨gw (i := 1663) (by decide +kernel) (by decide +kernel), gw (i := 11) (by decide +kernel) rfl, ⟨by decide +kernel, by decide +kernel⟩, by decide, by decide +kernel⟩
theorem mv_X12_masses : MeV mX12_masses 1 10 := ⟨mc_X12_masses, by unfold MeN; decide +kernel, gw (i := 1661) (by decide +kernel) rfl, gw (i := 1662) (by decide +kernel) rfl, rfl⟩
theorem mc_X12_ending : MeC mX12_ending := ⟨gw (i := 1667) (by decide +kernel) (by decide +kernel), gw (i := 11) (by decide +kernel) rfl, ⟨by decide +kernel, by decide +kernel⟩, by decide, by decide +kernel⟩
theorem mv_X12_ending : MeV mX12_ending 2 10 := ⟨mc_X12_ending, by unfold MeN; decide +kernel, gw (i := 1665) (by decide +kernel) rfl, gw (i := 1666) (by decide +kernel) rfl, rfl⟩
theorem mc_X12_worth : MeC mX12_worth := ⟨gw (i := 1671) (by decide +kernel) (by decide +kernel), gw (i := 11) (by decide +kernel) rfl, ⟨by decide +kernel, by decide +kernel⟩, by decide, by decide +kernel⟩
theorem mv_X12_worth : MeV mX12_worth 0 10 := ⟨mc_X12_worth, by unfold MeN; decide +kernel, gw (i := 1669) (by decide +kernel) rfl, gw (i := 1670) (by decide +kernel) rfl, rfl⟩
theorem mc_X12_margin : MeC mX12_margin := ⟨gw (i := 1683) (by decide +kernel) (by decide +kernel), gw (i := 11) (by decide +kernel) rfl, ⟨by decide +kernel, by decide +kernel⟩, by decide, by decide +kernel⟩
theorem mv_X12_margin : MeV mX12_margin 0 10 := ⟨mc_X12_margin, by unfold MeN; decide +kernel, gw (i := 1681) (by decide +kernel) rfl, gw (i := 1682) (by decide +kernel) rfl, rfl⟩
theorem mc_X12_till : MeC mX12_till := ⟨gw (i := 1687) (by decide +kernel) (by decide +kernel), gw (i := 11) (by decide +kernel) rfl, ⟨by decide +kernel, by decide +kernel⟩, by decide, by decide +kernel⟩
theorem mv_X12_till : MeV mX12_till 0 10 := ⟨mc_X12_till, by unfold MeN; decide +kernel, gw (i := 1685) (by decide +kernel) rfl, gw (i := 1686) (by decide +kernel) rfl, rfl⟩
theorem mc_X12_edge : MeC mX12_edge := ⟨gw (i := 1691) (by decide +kernel) (by decide +kernel), gw (i := 11) (by decide +kernel) rfl, ⟨by decide +kernel, by decide +kernel⟩, by decide, by decide +kernel⟩
theorem mv_X12_edge : MeV mX12_edge 1 10 := ⟨mc_X12_edge, by unfold MeN; decide +kernel, gw (i := 1689) (by decide +kernel) rfl, gw (i := 1690) (by decide +kernel) rfl, rfl⟩
theorem mc_X12_saved : MeC mX12_saved := ⟨gw (i := 1695) (by decide +kernel) (by decide +kernel), gw (i := 11) (by decide +kernel) rfl, ⟨by decide +kernel, by decide +kernel⟩, by decide, by decide +kernel⟩
theorem mv_X12_saved : MeV mX12_saved 0 10 := ⟨mc_X12_saved, by unfold MeN; decide +kernel, gw (i := 1693) (by decide +kernel) rfl, gw (i := 1694) (by decide +kernel) rfl, rfl⟩
theorem mc_X12_fair : MeC mX12_fair := ⟨gw (i := 1699) (by decide +kernel) (by decide +kernel), gw (i := 11) (by decide +kernel) rfl, ⟨by decide +kernel, by decide +kernel⟩, by decide, by decide +kernel⟩
theorem mv_X12_fair : MeV mX12_fair 0 10 := ⟨mc_X12_fair, by unfold MeN; decide +kernel, gw (i := 1697) (by decide +kernel) rfl, gw (i := 1698) (by decide +kernel) rfl, rfl⟩
theorem mc_X12_sums : MeC mX12_sums := ⟨gw (i := 1703) (by decide +kernel) (by decide +kernel), gw (i := 11) (by decide +kernel) rfl, ⟨by decide +kernel, by decide +kernel⟩, by decide, by decide +kernel⟩
theorem mv_X12_sums : MeV mX12_sums 1 10 := ⟨mc_X12_sums, by unfold MeN; decide +kernel, gw (i := 1701) (by decide +kernel) rfl, gw (i := 1702) (by decide +kernel) rfl, rfl⟩
theorem mc_X12_shifted : MeC mX12_shifted := ⟨gw (i := 1707) (by decide +kernel) (by decide +kernel), gw (i := 11) (by decide +kernel) rfl, ⟨by decide +kernel, by decide +kernel⟩, by decide, by decide +kernel⟩
theorem mv_X12_shifted : MeV mX12_shifted 1 10 := ⟨mc_X12_shifted, by unfold MeN; decide +kernel, gw (i := 1705) (by decide +kernel) rfl, gw (i := 1706) (by decide +kernel) rfl, rfl⟩
theorem mc_X12_deed : MeC mX12_deed := ⟨gw (i := 1713) (by decide +kernel) (by decide +kernel), gw (i := 11) (by decide +kernel) rfl, ⟨by decide +kernel, by decide +kernel⟩, by decide, by decide +kernel⟩
theorem mv_X12_deed : MeV mX12_deed 2 10 := ⟨mc_X12_deed, by unfold MeN; decide +kernel, gw (i := 1711) (by decide +kernel) rfl, gw (i := 1712) (by decide +kernel) rfl, rfl⟩
theorem mc_X12_byPolicy : MeC mX12_byPolicy := ⟨gw (i := 1717) (by decide +kernel) (by decide +kernel), gw (i := 11) (by decide +kernel) rfl, ⟨by decide +kernel, by decide +kernel⟩, by decide, by decide +kernel⟩
theorem mv_X12_byPolicy : MeV mX12_byPolicy 2 10 := ⟨mc_X12_byPolicy, by unfold MeN; decide +kernel, gw (i := 1715) (by decide +kernel) rfl, gw (i := 1716) (by decide +kernel) rfl, rfl⟩
theorem mc_X12_regret : MeC mX12_regret := ⟨gw (i := 1721) (by decide +kernel) (by decide +kernel), gw (i := 11) (by decide +kernel) rfl, ⟨by decide +kernel, by decide +kernel⟩, by decide, by decide +kernel⟩
theorem mv_X12_regret : MeV mX12_regret 0 10 := ⟨mc_X12_regret, by unfold MeN; decide +kernel, gw (i := 1719) (by decide +kernel) rfl, gw (i := 1720) (by decide +kernel) rfl, rfl⟩
theorem mc_X12_strays : MeC mX12_strays := ⟨gw (i := 1725) (by decide +kernel) (by decide +kernel), gw (i := 11) (by decide +kernel) rfl, ⟨by decide +kernel, by decide +kernel⟩, by decide, by decide +kernel⟩
theorem mv_X12_strays : MeV mX12_strays 1 10 := ⟨mc_X12_strays, by unfold MeN; decide +kernel, gw (i := 1723) (by decide +kernel) rfl, gw (i := 1724) (by decide +kernel) rfl, rfl⟩
theorem mc_X12_mended : MeC mX12_mended := ⟨gw (i := 1729) (by decide +kernel) (by decide +kernel), gw (i := 11) (by decide +kernel) rfl, ⟨by decide +kernel, by decide +kernel⟩, by decide, by decide +kernel⟩
theorem mv_X12_mended : MeV mX12_mended 2 10 := ⟨mc_X12_mended, by unfold MeN; decide +kernel, gw (i := 1727) (by decide +kernel) rfl, gw (i := 1728) (by decide +kernel) rfl, rfl⟩
theorem mc_X12_rounds : MeC mX12_rounds := ⟨gw (i := 1733) (by decide +kernel) (by decide +kernel), gw (i := 11) (by decide +kernel) rfl, ⟨by decide +kernel, by decide +kernel⟩, by decide, by decide +kernel⟩
theorem mv_X12_rounds : MeV mX12_rounds 0 10 := ⟨mc_X12_rounds, by unfold MeN; decide +kernel, gw (i := 1731) (by decide +kernel) rfl, gw (i := 1732) (by decide +kernel) rfl, rfl⟩
theorem mc_X12_step : MeC mX12_step := ⟨gw (i := 1741) (by decide +kernel) (by decide +kernel), gw (i := 11) (by decide +kernel) rfl, ⟨by decide +kernel, by decide +kernel⟩, by decide, by decide +kernel⟩
theorem mv_X12_step : MeV mX12_step 3 10 := ⟨mc_X12_step, by unfold MeN; decide +kernel, gw (i := 1739) (by decide +kernel) rfl, gw (i := 1740) (by decide +kernel) rfl, rfl⟩
theorem mc_X12_run : MeC mX12_run := ⟨gw (i := 1749) (by decide +kernel) (by decide +kernel), gw (i := 11) (by decide +kernel) rfl, ⟨by decide +kernel, by decide +kernel⟩, by decide, by decide +kernel⟩
theorem mv_X12_run : MeV mX12_run 2 10 := ⟨mc_X12_run, by unfold MeN; decide +kernel, gw (i := 1747) (by decide +kernel) rfl, gw (i := 1748) (by decide +kernel) rfl, rfl⟩
theorem mc_X12_perform : MeC mX12_perform := ⟨gw (i := 1753) (by decide +kernel) (by decide +kernel), gw (i := 11) (by decide +kernel) rfl, ⟨by decide +kernel, by decide +kernel⟩, by decide, by decide +kernel⟩
theorem mv_X12_perform : MeV mX12_perform 1 10 := ⟨mc_X12_perform, by unfold MeN; decide +kernel, gw (i := 1751) (by decide +kernel) rfl, gw (i := 1752) (by decide +kernel) rfl, rfl⟩
theorem mc_X12_most : MeC mX12_most := ⟨gw (i := 1757) (by decide +kernel) (by decide +kernel), gw (i := 11) (by decide +kernel) rfl, ⟨by decide +kernel, by decide +kernel⟩, by decide, by decide +kernel⟩
theorem mv_X12_most : MeV mX12_most 1 10 := ⟨mc_X12_most, by unfold MeN; decide +kernel, gw (i := 1755) (by decide +kernel) rfl, gw (i := 1756) (by decide +kernel) rfl, rfl⟩
theorem mc_X12_count : MeC mX12_count := ⟨gw (i := 1769) (by decide +kernel) (by decide +kernel), gw (i := 11) (by decide +kernel) rfl, ⟨by decide +kernel, by decide +kernel⟩, by decide, by decide +kernel⟩
theorem mv_X12_count : MeV mX12_count 1 10 := ⟨mc_X12_count, by unfold MeN; decide +kernel, gw (i := 1767) (by decide +kernel) rfl, gw (i := 1768) (by decide +kernel) rfl, rfl⟩
end
section
-- loads that give their value a name; lengths; static arrays and texts that nobody writes
section Ops3
variable {M : Me} {pc : Nat}
def zt_no : Tr := fun _ _ _ _ _ _ _ _ => False
theorem ze_no {n : Nat} : Ent M (pc, n, zt_no) := by
  intro l G d K Q lv st σ hK hJ h
  exact h.elim
def zt_iald : Tr := fun _ _ _ K _ lv st σ => match st with | .int i :: .ref a :: st => vp_in i (lenI a) ∧ ∀ x, σ.1 a i.toNatClampNeg = x → K none lv (.int x :: st) σ | _ => False
theorem ze_iald (hd : decode M.2.1 pc = .ok (.iaload, 1)) : Ent M (pc, pc + 1, zt_iald) := by
  intro l G d K Q lv st σ hK hJ h
  refine ze_iaload hd l G d K Q lv st σ hK hJ ?_
  unfold zt_iald at h
  unfold zt_iaload
  dsimp only at h ⊢
  split at h
  · exact ⟨h.1, h.2 _ rfl⟩
  · exact h.elim
def zt_bald : Tr := fun _ _ _ K _ lv st σ => match st with | .int i :: .ref a :: st => vp_in i (lenB a) ∧ ∀ x, σ.1 a i.toNatClampNeg = x → K none lv (.int x :: st) σ | _ => False
theorem ze_bald (hd : decode M.2.1 pc = .ok (.baload, 1)) : Ent M (pc, pc + 1, zt_bald) := by
  intro l G d K Q lv st σ hK hJ h
  refine ze_baload hd l G d K Q lv st σ hK hJ ?_
  unfold zt_bald at h
  unfold zt_baload
  dsimp only at h ⊢
  split at h
  · exact ⟨h.1, h.2 _ rfl⟩
  · exact h.elim
def zt_lald : Tr := fun _ _ _ K _ lv st σ => match st with | .int i :: .ref a :: st => vp_in i (lenJ a) ∧ ∀ x, σ.2 a i.toNatClampNeg = x → K none lv (.long x :: st) σ | _ => False
theorem ze_lald (hd : decode M.2.1 pc = .ok (.laload, 1)) : Ent M (pc, pc + 1, zt_lald) := by
  intro l G d K Q lv st σ hK hJ h
  refine ze_laload hd l G d K Q lv st σ hK hJ ?_
  unfold zt_lald at h
  unfold zt_laload
  dsimp only at h ⊢
  split at h
  · exact ⟨h.1, h.2 _ rfl⟩
  · exact h.elim
def zt_aald : Tr := fun _ _ _ K _ lv st σ => match st with | .int i :: .ref a :: st => vp_in i (lenQ a) ∧ ∀ x, refA a i.toNatClampNeg = x → K none lv (.ref x :: st) σ | _ => False
theorem ze_aald (hd : decode M.2.1 pc = .ok (.aaload, 1)) : Ent M (pc, pc + 1, zt_aald) := by
  intro l G d K Q lv st σ hK hJ h
  refine ze_aaload hd l G d K Q lv st σ hK hJ ?_
  unfold zt_aald at h
  unfold zt_aaload
  dsimp only at h ⊢
  split at h
  · exact ⟨h.1, h.2 _ rfl⟩
  · exact h.elim
def zt_alen : Tr := fun _ _ _ K _ lv st σ => match st with | .ref a :: st => if (sh a).1 < 5 ∧ a < NN then K none lv (.int (Int32.ofNat (sh a).2.1) :: st) σ else False | _ => False
theorem ze_alen (hd : decode M.2.1 pc = .ok (.arraylength, 1)) : Ent M (pc, pc + 1, zt_alen) := by
  intro l G d K Q lv st σ hK hJ h p e s m args below meth c H locs ls C hP hS hl
  obtain ⟨hx, hb, hr, hml, hown, hts, hlocks, hKx⟩ := id C
  unfold zt_alen at h
  dsimp only at h
  split at h
  · next a st =>
    split at h
    · next hn =>
      have hk := hK _ _ _ h p e s m args below meth c H locs ls C hP hS hl
      have hw := wo_at G σ hn.2
      have h5 : (sh a).1 = 0 ∨ (sh a).1 = 1 ∨ (sh a).1 = 2 ∨ (sh a).1 = 3 ∨ (sh a).1 = 4 := by omega
      rcases h5 with q | q | q | q | q
      · rw [cel_B q] at hw
        exact va_alen hx hb hKx.1 hP a 0 hw rfl rfl hd hk
      · rw [cel_I q] at hw
        exact va_alen hx hb hKx.1 hP a 1 hw rfl rfl hd hk
      · rw [cel_J q] at hw
        exact va_alen hx hb hKx.1 hP a 2 hw rfl rfl hd hk
      · rw [cel_Q (Or.inl q), q] at hw
        exact va_alen hx hb hKx.1 hP a 3 hw rfl rfl hd hk
      · rw [cel_Q (Or.inr q), q] at hw
        exact va_alen hx hb hKx.1 hP a 4 hw rfl rfl hd hk
    · exact h.elim
  · exact h.elim
/-- the static arrays (200 ..), the texts (210 ..) and their bytes (220 ..) -/
def stc (a : Nat) : List Int32 :=
  if a = 200 then [108, 105, 120, 112] else if a = 201 then [1, 12, 16, 24] else if a = 202 then [0, 14, 16, 19, 22]
  else if a = 203 then [112, 116, 99, 98, 117, 100, 113, 109, 115, 102, 110, 107, 103, 101, 121, 97, 121, 104, 114, 121, 104, 97]
  else if a = 204 then [1, 1, 0, 0, 0, 0, 0, 0, 0, 0, 0, 0, 0, 0, 1, 0, 0, 0, 0, 0, 0, 0]
  else if a = 205 then [9999, 12, 999, 999, 99, 99, 100, 999, 99, 12, 2, 2, 99, 999, 12, 9999, 11, 11, 999, 11, 11, 2]
  else if a = 206 then [1000, 5, 50, 50, 10, 10, 50, 20, 5, 1, 0, 1, 0, 5, 1, 0, 0, 0, 0, 0, 0, 0]
  else if a = 207 then [117, 100, 99, 114, 119, 105, 120, 98, 97, 102]
  else if a = 220 then [112, 116, 99, 98, 117, 100, 113, 109, 115, 102, 110, 107, 103, 101] else if a = 221 then [121, 97] else if a = 222 then [121, 104, 114] else if a = 223 then [121, 104, 97] else if a = 224 then [117, 100, 99, 114, 119, 105, 120, 98, 97, 102] else []
def stn (a : Nat) : String × String × FieldType := if a = 200 then ("KINDS", "[C", .char) else if a = 201 then ("LIMITS", "[I", .int) else if a = 202 then ("FROM", "[I", .int) else if a = 203 then ("LETTERS", "[C", .char) else if a = 204 then ("LOWEST", "[I", .int) else if a = 205 then ("HIGHEST", "[I", .int) else if a = 206 then ("PLAIN", "[I", .int) else ("STEPS", "[C", .char)
def sti (k : Nat) : Nat × String := if k = 210 then (158, "ptcbudqmsfnkge") else if k = 211 then (164, "ya") else if k = 212 then (166, "yhr") else if k = 213 then (178, "yha") else (183, "udcrwixbaf")
def Xs (G : GT) (U : State) : Prop :=
  (∀ a, 200 ≤ a → a < 208 → va_Z "RefundDesk$Reader" (stn a).1 (stn a).2.1 (.ref (G.2.1 a)) (aX G) U U.heap ∧ va_T (stn a).2.2 (G.2.1 a) (stc a).length (fun j => .int ((stc a).getD j 0)) (aX G) U U.heap) ∧
  (∀ a, 210 ≤ a → a < 215 → vk_R "RefundDeskModel" (sti a).1 (sti a).2 (G.2.1 a) U ∧ va_O "java/lang/String" (G.2.1 a) (aX G) U U.heap ∧ va_OF "java/lang/String" "coder" "B" (.int 0) (G.2.1 a) (aX G) U U.heap ∧ va_OF "java/lang/String" "value" "[B" (.ref (G.2.1 (a + 10))) (G.2.1 a) (aX G) U U.heap ∧ va_T .byte (G.2.1 (a + 10)) (stc (a + 10)).length (fun j => .int ((stc (a + 10)).getD j 0)) (aX G) U U.heap) ∧
  va_Z "java/lang/String" "COMPACT_STRINGS" "Z" (.int 1) (aX G) U U.heap ∧
  (va_Z "jdk/internal/util/Preconditions" "SIOOBE_FORMATTER" "Ljava/util/function/BiFunction;" .null (aX G) U U.heap ∨ va_Z "jdk/internal/util/Preconditions" "SIOOBE_FORMATTER" "Ljava/util/function/BiFunction;" (.ref (G.2.1 230)) (aX G) U U.heap)
def GX (G : GT) : Prop := ∀ U : State, G.2.2.2.2 U → Xs G U
def zt_gst (a : Nat) : Tr := fun _ G _ K _ lv st σ => GX G ∧ K none lv (.ref a :: st) σ
theorem ze_gst {idx a : Nat} (hd : decode M.2.1 pc = .ok (.getstatic idx, 3)) (h1 : 200 ≤ a ∧ a < 208) (hk : Cond.fieldLink M.2.2.2.2 idx "RefundDesk$Reader" (stn a).1 (stn a).2.1 ∈ gW) : Ent M (pc, pc + 3, zt_gst a) := by
  intro l G d K Q lv st σ hK hJ h p e s m args below meth c H locs ls C hP hS hl
  obtain ⟨hx, hb, hr, hml, hown, hts, hlocks, hKx⟩ := id C
  exact va_gets hx hb ((h.1 s hKx.2.1).1 a h1.1 h1.2).1 hS hown (hts _ hk) (fun _ z => z) hd (hK _ _ _ h.2 p e s m args below meth c H locs ls C hP hS hl)
def zt_sld (ty : FieldType) : Tr := fun _ G _ K _ lv st σ => match st with | .int i :: .ref a :: st => if 200 ≤ a ∧ a < 208 ∧ (stn a).2.2 = ty then GX G ∧ vp_in i (stc a).length ∧ ∀ x, (stc a).getD i.toNatClampNeg 0 = x → K none lv (.int x :: st) σ else False | _ => False
theorem ze_siald (hd : decode M.2.1 pc = .ok (.iaload, 1)) : Ent M (pc, pc + 1, zt_sld .int) := by
  intro l G d K Q lv st σ hK hJ h p e s m args below meth c H locs ls C hP hS hl
  obtain ⟨hx, hb, hr, hml, hown, hts, hlocks, hKx⟩ := id C
  unfold zt_sld at h
  dsimp only at h
  split at h
  · next i a st =>
    split at h
    · next hn =>
      have hT := ((h.1 s hKx.2.1).1 a hn.1 hn.2.1).2
      rw [hn.2.2] at hT
      exact va_ti hx hb hT hS h.2.1 rfl hd (hK _ _ _ (h.2.2 _ rfl) p e s m args below meth c H locs ls C hP hS hl)
    · exact h.elim
  · exact h.elim
theorem ze_scald (hd : decode M.2.1 pc = .ok (.caload, 1)) : Ent M (pc, pc + 1, zt_sld .char) := by
  intro l G d K Q lv st σ hK hJ h p e s m args below meth c H locs ls C hP hS hl
  obtain ⟨hx, hb, hr, hml, hown, hts, hlocks, hKx⟩ := id C
  unfold zt_sld at h
  dsimp only at h
  split at h
  · next i a st =>
    split at h
    · next hn =>
      have hT := ((h.1 s hKx.2.1).1 a hn.1 hn.2.1).2
      rw [hn.2.2] at hT
      exact va_tc hx hb hT hS h.2.1 rfl hd (hK _ _ _ (h.2.2 _ rfl) p e s m args below meth c H locs ls C hP hS hl)
    · exact h.elim
  · exact h.elim
def zt_sbld : Tr := fun _ G _ K _ lv st σ => match st with | .int i :: .ref a :: st => if 220 ≤ a ∧ a < 225 then GX G ∧ vp_in i (stc a).length ∧ ∀ x, (stc a).getD i.toNatClampNeg 0 = x → K none lv (.int x :: st) σ else False | _ => False
theorem ze_sbald (hd : decode M.2.1 pc = .ok (.baload, 1)) : Ent M (pc, pc + 1, zt_sbld) := by
  intro l G d K Q lv st σ hK hJ h p e s m args below meth c H locs ls C hP hS hl
  obtain ⟨hx, hb, hr, hml, hown, hts, hlocks, hKx⟩ := id C
  unfold zt_sbld at h
  dsimp only at h
  split at h
  · next i a st =>
    split at h
    · next hn =>
      have n1 : (220 : Nat) ≤ (a : Nat) := hn.1
      have n2 : (a : Nat) < (225 : Nat) := hn.2
      obtain ⟨b, rfl⟩ := Nat.exists_eq_add_of_le' (Nat.le_trans (by decide) n1 : (10 : Nat) ≤ a)
      have hT := ((h.1 s hKx.2.1).2.1 b (Nat.le_of_add_le_add_right (b := 10) n1) (Nat.lt_of_add_lt_add_right (n := 10) n2)).2.2.2.2
      exact va_tb hx hb hT hS h.2.1 rfl hd (hK _ _ _ (h.2.2 _ rfl) p e s m args below meth c H locs ls C hP hS hl)
    · exact h.elim
  · exact h.elim
def zt_slen : Tr := fun _ G _ K _ lv st σ => match st with | .ref a :: st => if (200 ≤ a ∧ a < 208) ∨ (220 ≤ a ∧ a < 225) then GX G ∧ K none lv (.int (Int32.ofNat (stc a).length) :: st) σ else False | _ => False
theorem ze_slen (hd : decode M.2.1 pc = .ok (.arraylength, 1)) : Ent M (pc, pc + 1, zt_slen) := by
  intro l G d K Q lv st σ hK hJ h p e s m args below meth c H locs ls C hP hS hl
  obtain ⟨hx, hb, hr, hml, hown, hts, hlocks, hKx⟩ := id C
  unfold zt_slen at h
  dsimp only at h
  split at h
  · next a st =>
    split at h
    · next hn =>
      have hk := hK _ _ _ h.2 p e s m args below meth c H locs ls C hP hS hl
      rcases hn with hn | hn
      · exact va_tlen hx hb ((h.1 s hKx.2.1).1 a hn.1 hn.2).2 hS rfl hd hk
      · have n1 : (220 : Nat) ≤ (a : Nat) := hn.1
        have n2 : (a : Nat) < (225 : Nat) := hn.2
        obtain ⟨b, rfl⟩ := Nat.exists_eq_add_of_le' (Nat.le_trans (by decide) n1 : (10 : Nat) ≤ a)
        exact va_tlen hx hb ((h.1 s hKx.2.1).2.1 b (Nat.le_of_add_le_add_right (b := 10) n1) (Nat.lt_of_add_lt_add_right (n := 10) n2)).2.2.2.2 hS rfl hd hk
    · exact h.elim
  · exact h.elim
def zt_lds (a : Nat) : Tr := fun _ G _ K _ lv st σ => GX G ∧ K none lv (.ref a :: st) σ
theorem ze_lds {a : Nat} (hd : decode M.2.1 pc = .ok (.ldc (sti a).1, 2)) (h1 : 210 ≤ a ∧ a < 215) (ho : M.2.2.2.2 = "RefundDeskModel") : Ent M (pc, pc + 2, zt_lds a) := by
  intro l G d K Q lv st σ hK hJ h p e s m args below meth c H locs ls C hP hS hl
  obtain ⟨hx, hb, hr, hml, hown, hts, hlocks, hKx⟩ := id C
  rw [ho] at hown
  exact va_ldcS hx hb hown ((h.1 s hKx.2.1).2.1 a h1.1 h1.2).1 hd (hK _ _ _ h.2 p e s m args below meth c H locs ls C hP hS hl)
def zt_strV : Tr := fun _ G _ K _ lv st σ => match st with | .ref a :: st => if 210 ≤ a ∧ a < 215 then GX G ∧ K none lv (.ref (a + 10) :: st) σ else False | _ => False
theorem ze_strV {idx : Nat} (hd : decode M.2.1 pc = .ok (.getfield idx, 3)) (hk : Cond.fieldLink M.2.2.2.2 idx "java/lang/String" "value" "[B" ∈ gW) : Ent M (pc, pc + 3, zt_strV) := by
  intro l G d K Q lv st σ hK hJ h p e s m args below meth c H locs ls C hP hS hl
  obtain ⟨hx, hb, hr, hml, hown, hts, hlocks, hKx⟩ := id C
  unfold zt_strV at h
  dsimp only at h
  split at h
  · next a st =>
    split at h
    · next hn => exact vk_getf hx hb ((h.1 s hKx.2.1).2.1 a hn.1 hn.2).2.2.2.1 hS hown (hts _ hk) (fun _ z => z) hd (hK _ _ _ h.2 p e s m args below meth c H locs ls C hP hS hl)
    · exact h.elim
  · exact h.elim
def zt_strC : Tr := fun _ G _ K _ lv st σ => match st with | .ref a :: st => if 210 ≤ a ∧ a < 215 then GX G ∧ K none lv (.int 0 :: st) σ else False | _ => False
theorem ze_strC {idx : Nat} (hd : decode M.2.1 pc = .ok (.getfield idx, 3)) (hk : Cond.fieldLink M.2.2.2.2 idx "java/lang/String" "coder" "B" ∈ gW) : Ent M (pc, pc + 3, zt_strC) := by
  intro l G d K Q lv st σ hK hJ h p e s m args below meth c H locs ls C hP hS hl
  obtain ⟨hx, hb, hr, hml, hown, hts, hlocks, hKx⟩ := id C
  unfold zt_strC at h
  dsimp only at h
  split at h
  · next a st =>
    split at h
    · next hn => exact vk_getf hx hb ((h.1 s hKx.2.1).2.1 a hn.1 hn.2).2.2.1 hS hown (hts _ hk) (fun _ z => z) hd (hK _ _ _ h.2 p e s m args below meth c H locs ls C hP hS hl)
    · exact h.elim
  · exact h.elim
def zt_gcs : Tr := fun _ G _ K _ lv st σ => GX G ∧ K none lv (.int 1 :: st) σ
theorem ze_gcs {idx : Nat} (hd : decode M.2.1 pc = .ok (.getstatic idx, 3)) (hk : Cond.fieldLink M.2.2.2.2 idx "java/lang/String" "COMPACT_STRINGS" "Z" ∈ gW) : Ent M (pc, pc + 3, zt_gcs) := by
  intro l G d K Q lv st σ hK hJ h p e s m args below meth c H locs ls C hP hS hl
  obtain ⟨hx, hb, hr, hml, hown, hts, hlocks, hKx⟩ := id C
  exact va_gets hx hb (h.1 s hKx.2.1).2.2.1 hS hown (hts _ hk) (fun _ z => z) hd (hK _ _ _ h.2 p e s m args below meth c H locs ls C hP hS hl)
def zt_gfm : Tr := fun _ G _ K _ lv st σ => GX G ∧ K none lv (.null :: st) σ ∧ K none lv (.ref 230 :: st) σ
theorem ze_gfm {idx : Nat} (hd : decode M.2.1 pc = .ok (.getstatic idx, 3)) (hk : Cond.fieldLink M.2.2.2.2 idx "jdk/internal/util/Preconditions" "SIOOBE_FORMATTER" "Ljava/util/function/BiFunction;" ∈ gW) : Ent M (pc, pc + 3, zt_gfm) := by
  intro l G d K Q lv st σ hK hJ h p e s m args below meth c H locs ls C hP hS hl
  obtain ⟨hx, hb, hr, hml, hown, hts, hlocks, hKx⟩ := id C
  rcases (h.1 s hKx.2.1).2.2.2 with q | q
  · exact va_gets hx hb q hS hown (hts _ hk) (fun _ z => z) hd (hK _ _ _ h.2.1 p e s m args below meth c H locs ls C hP hS hl)
  · exact va_gets hx hb q hS hown (hts _ hk) (fun _ z => z) hd (hK _ _ _ h.2.2 p e s m args below meth c H locs ls C hP hS hl)
def zt_i2c : Tr := fun _ _ _ K _ lv st σ => match st with | .int x :: st => K none lv (.int ((x.toUInt32 % 65536).toInt32) :: st) σ | _ => False
theorem ze_i2c (hd : decode M.2.1 pc = .ok (.i2c, 1)) : Ent M (pc, pc + 1, zt_i2c) := by
  intro l G d K Q lv st σ hK hJ h p e s m args below meth c H locs ls C hP hS hl
  obtain ⟨hx, hb, hr, hml, hown, hts, hlocks, hKx⟩ := id C
  unfold zt_i2c at h
  dsimp only at h
  split at h
  · next x st => exact lv_i2c hx hb hd rfl (hK _ _ _ h p e s m args below meth c H locs ls C hP hS hl)
  · exact h.elim
/-- a small number returned as a char or a byte -/
def zt_nret (ty : FieldType) : Tr := fun _ _ _ _ Q _ st σ => match st with | [.int v] => narrow ty (.int v) = .int v ∧ Q (some (.int v)) σ | _ => False
theorem ze_nret {n : Nat} {ty : FieldType} (hd : decode M.2.1 pc = .ok (.ireturn, 1)) (hM : M.2.2.2.1 = some ty) : Ent M (pc, n, zt_nret ty) := by
  intro l G d K Q lv st σ hK hJ h p e s m args below meth c H locs ls C hP hS hl
  obtain ⟨hx, hb, hr, hml, hown, hts, hlocks, hKx⟩ := id C
  unfold zt_nret at h
  dsimp only at h
  split at h
  · next v => exact W.zret hx hb (hr.trans hM) h.1 (fun t ht _ => ⟨⟨some (.int v), σ, rfl, h.2, by rw [ht]; exact hP⟩, hS.F ht⟩) hS.2.2 hd hlocks
  · exact h.elim
/-- a call on a text -/
def MeT (M' : Me) (n : Nat) : Prop := MeC M' ∧ MeN M' n ∧ Cond.instanceMethod M'.1 ∈ gW ∧ Cond.selects M'.1.cls M'.1 M'.1 ∈ gW ∧ M'.1.cls = "java/lang/String"
def zt_callT (M' : Me) (n : Nat) : Tr := fun l G d K _ lv st σ => match d with
  | 0 => False
  | d' + 1 => match st.drop n with
    | .ref a :: rest => if n ≤ st.length ∧ (210 ≤ a ∧ a < 215) ∧ catS rest ≤ 24 then GX G ∧ MW l G d' M' (.ref a :: (st.take n).reverse) σ (fun r σ' => K none lv (r.toList ++ rest) σ') else False
    | _ => False
theorem ze_callT {M' : Me} {n idx : Nat} (hd : decode M.2.1 pc = .ok (.invokevirtual idx, 3)) (hk : Cond.methodLink M.2.2.2.2 idx M'.1 ∈ gW) (hm : MeT M' n) : Ent M (pc, pc + 3, zt_callT M' n) := by
  intro l G d K Q lv st σ hK hJ h p e s m args below meth c H locs ls C hP hS hl
  obtain ⟨hx, hb, hr, hml, hown, hts, hlocks, hKx⟩ := id C
  unfold zt_callT at h
  dsimp only at h
  cases d with
  | zero => exact h.elim
  | succ d =>
    dsimp only at h
    split at h
    · next a rest hdr =>
      split at h
      · next hn =>
        intro T hT X
        obtain ⟨cellB, hcB, hoB, hclB, -⟩ := ((h.1 s hKx.2.1).2.1 a hn.2.1.1 hn.2.1.2).2.1.kept hS.2.1
        rw [← hm.2.2.2.2] at hclB
        have hst : st.map (tv G) = (((st.take n).reverse).map (tv G)).reverse ++ .ref (G.2.1 a) :: rest.map (tv G) := by
          rw [← List.map_reverse, List.reverse_reverse]
          have : st.map (tv G) = (st.take n).map (tv G) ++ (st.drop n).map (tv G) := by rw [← List.map_append, List.take_append_drop]
          rw [this, hdr]; rfl
        obtain ⟨v, vm1, ⟨U', l2, c2, s2⟩, hW1, X', ⟨g', mk, t, L, e1, e2, hq, h1, hL, h2, h3⟩, go⟩ := callV X hx (C := M'.1.cls) (bytes := M'.2.1) (maxL := M'.2.2.1) (ret := M'.2.2.2.1) hown (hts _ hk) (hts _ hm.2.2.1) (hts _ hm.2.2.2.1) (hts _ hm.1.1) hm.1.2.2.1 (cal_back hm.1 hts h.2) (by rw [hT]; exact hcB) hoB hclB (g := F0 m pc ls (st.map (tv G))) rfl (hl.1.trans hml.symm) (argsL := (st.take n).reverse.map (tv G)) (rest := rest.map (tv G)) (len_of hm.2.1 (by simp; omega)) hst (room24 hn.2.2) (by rw [hb]; exact hd) (fun vm1 hW1 => cal_pre (l := l) hT hP hS hKx vm1 hW1)
        dsimp only [Pt.U, Pt.locs, Pt.cells, Pt.slots] at X' e1 e2 h1 h2 h3 go
        subst h1; subst h2; subst h3
        obtain ⟨⟨r, σ', hv, hQ, hP'⟩, hF⟩ := hq
        cases hv
        have hgo := hK _ _ _ hQ p e s m args below meth c t.heap (locs ++ L) ls C hP' (cal_S hS (st0 := (T.setVm vm1).calling g' mk _) hT hF hL) hl
        obtain ⟨t2, a1, b1⟩ := hgo U' e1 X'
        refine ⟨t2, go t2 ?_, b1⟩
        have he : (r.map (tv G)).toList ++ rest.map (tv G) = (r.toList ++ rest).map (tv G) := by cases r <;> simp
        rw [he]
        exact a1
      · exact h.elim
    · exact h.elim
/-- arraycopy out of a static array of ints -/
def zt_copyS : Tr := fun _ G d K _ lv st σ => match st with
  | .int n :: .int dp :: .ref a :: .int sp :: .ref a0 :: st => if 1 ≤ d ∧ catS st ≤ 24 ∧ 200 ≤ a0 ∧ a0 < 208 ∧ (stn a0).2.2 = .int then GX G ∧ (¬ sp < 0 ∧ ¬ dp < 0 ∧ ¬ n < 0 ∧ (sh a).1 = 1 ∧ a < NN ∧ sp.toNatClampNeg + n.toNatClampNeg ≤ (stc a0).length ∧ dp.toNatClampNeg + n.toNatClampNeg ≤ lenI a) ∧ K none lv st (uR σ a (va_cpy (fun j => (stc a0).getD j 0) (σ.1 a) sp.toNatClampNeg dp.toNatClampNeg n.toNatClampNeg)) else False
  | _ => False
theorem ze_copyS {idx : Nat} (hd : decode M.2.1 pc = .ok (.invokestatic idx, 3)) (hk : Cond.methodLink M.2.2.2.2 idx arraycopyName ∈ gW) (h1 : Cond.native arraycopyName ∈ gW) (h2 : Cond.static arraycopyName ∈ gW) (h3 : Cond.initialized "java/lang/System" ∈ gW) : Ent M (pc, pc + 3, zt_copyS) := by
  intro l G d K Q lv st σ hK hJ h p e s m args below meth c H locs ls C hP hS hl
  obtain ⟨hx, hb, hr, hml, hown, hts, hlocks, hKx⟩ := id C
  unfold zt_copyS at h
  dsimp only at h
  split at h
  · next n dp a sp a0 st =>
    split at h
    · next hn =>
      obtain ⟨hG, ⟨g1, g2, g3, g5, g7, g8, g9⟩, h⟩ := h
      have hT := ((hG s hKx.2.1).1 a0 hn.2.2.1 hn.2.2.2.1).2
      rw [hn.2.2.2.2] at hT
      have q1 : lenI a = (sh a).2.1 := if_pos ⟨g5, g7⟩
      have nn : ∀ z : Int32, ¬ z < 0 → z.toInt = (z.toNatClampNeg : Int) := by
        intro z hz
        have h0 : (0 : Int) ≤ z.toInt := by simpa using Int32.le_iff_toInt_le.mp (Int32.not_lt.mp hz)
        show z.toInt = ((z.toInt.toNat : Nat) : Int)
        omega
      have hlo : ((st.map (tv G)).map fun v => v.category).sum + (nativeFrameWords "java/lang/System" "arraycopy" 5 + 11) ≤ (rmD d).locals := by
        rw [catS_tv]
        have h5 : nativeFrameWords "java/lang/System" "arraycopy" 5 + 11 ≤ 60 := by decide +kernel
        show catS st + (nativeFrameWords "java/lang/System" "arraycopy" 5 + 11) ≤ 96 * d
        omega
      intro T hT0 X
      have hw := (wo_at G σ g7).trans (congrArg (fun z => some (G.2.1 a, z)) (cel_I g5))
      obtain ⟨scr, t1, t2, t3, t4, -, t5, t6⟩ := hT
      have c0 : H[G.2.1 a0]? = some scr := by rw [hS.2.1 _ (Array.getElem?_eq_some_iff.mp t1).1 t6]; exact t1
      have c1 : H[G.2.1 a]? = some (vp_cell (G.2.2.1 1) ((sh a).2.1, .inl (σ.1 a))) := hP a _ hw
      obtain ⟨t7, k0, hk0, cm0, hkk0⟩ := t2
      obtain ⟨-, k1, hk1, cm1, hkk1⟩ := (hKx.1.2 1 _ rfl).1 (sh a).2.1 (fun j => .int (σ.1 a j))
      obtain ⟨vm', X', go⟩ := X.arraycopy hx hown (hts _ hk) (hts _ h1) (hts _ h2) (hts _ h3) (src := G.2.1 a0) (dst := G.2.1 a) (cs := scr) (cd := vp_cell (G.2.2.1 1) ((sh a).2.1, .inl (σ.1 a))) (srcPos := sp) (destPos := dp) (n := n) (by rw [hT0]; exact c0) (by rw [hT0]; exact c1) t7 (fun _ z => by cases z) t3 (fun z => by cases z) hk0 hk1 hkk0 hkk1 (by simp [refKind]) g1 g2 g3 (by rw [nn sp g1, nn n g3]; omega) (by rw [nn dp g2, nn n g3]; show ¬ _ > ((arrV _ (sh a).2.1 (fun j => .int (σ.1 a j))).slots.size : Int); rw [arrV_size, ← q1]; omega)
        (fun vm1 _ i hi => by
          have e1 : scr.slots.getD (sp.toNatClampNeg + i) .null = .int ((stc a0).getD (sp.toNatClampNeg + i) 0) := by
            rw [Array.getD_eq_getD_getElem?, t5 _ (by omega)]; rfl
          rw [e1]
          exact ⟨rfl, trivial⟩)
        (g := F0 m pc ls (.int n :: .int dp :: .ref (G.2.1 a) :: .int sp :: .ref (G.2.1 a0) :: st.map (tv G))) rfl (hl.1.trans hml.symm) (rest := st.map (tv G)) rfl (by rw [hb]; exact hd) hn.1 (by show 2 * 0 + _ + _ ≤ _; omega)
      have e1 : copied scr (vp_cell (G.2.2.1 1) ((sh a).2.1, .inl (σ.1 a))) sp dp n = vp_cell (G.2.2.1 1) ((sh a).2.1, .inl (va_cpy (fun j => (stc a0).getD j 0) (σ.1 a) sp.toNatClampNeg dp.toNatClampNeg n.toNatClampNeg)) := va_copiedX (fun z => .int z) scr (G.2.2.1 1) (fun j => (stc a0).getD j 0) (σ.1 a) t5 g8
      rw [e1] at X' go
      generalize hcel : vp_cell (G.2.2.1 1) ((sh a).2.1, .inl (va_cpy (fun j => (stc a0).getD j 0) (σ.1 a) sp.toNatClampNeg dp.toNatClampNeg n.toNatClampNeg)) = cel1 at X' go
      have hlt : G.2.1 a < H.size := (Array.getElem?_eq_some_iff.mp c1).1
      have hD := wo_D hKx σ
      have oq : ∀ q : Nat, q ≠ G.2.1 a → (H.setIfInBounds (G.2.1 a) cel1)[q]? = H[q]? := fun q hq => by simp [Array.getElem?_setIfInBounds, Ne.symm hq]
      have hP1 := hP.set (H1 := H.setIfInBounds (G.2.1 a) cel1) (e := .inl (G.2.2.1 1, (sh a).2.1, .inl (va_cpy (fun j => (stc a0).getD j 0) (σ.1 a) sp.toNatClampNeg dp.toNatClampNeg n.toNatClampNeg))) hD hw (show (H.setIfInBounds (G.2.1 a) cel1)[G.2.1 a]? = some _ by rw [← hcel]; simp [Array.getElem?_setIfInBounds, hlt]) oq
      rw [wo_set (σ' := uR σ a (va_cpy (fun j => (stc a0).getD j 0) (σ.1 a) sp.toNatClampNeg dp.toNatClampNeg n.toNatClampNeg)) (by rw [cel_I g5]; simp [uR]) (fun b hb => by simp [uR, hb]) (fun b hb => by simp [uR, hb])] at hP1
      have hS1 : ∀ L : List Loc, (∀ q ∈ L, q.base = G.2.1 a) → va_S (aX G) s.heap (H.setIfInBounds (G.2.1 a) cel1) (locs ++ L) := fun L hL => ⟨by simp; exact hS.1, fun q z1 z2 => by
          rw [oq q (fun e => z2 (by rw [e]; exact hD.2 a _ hw))]
          exact hS.2.1 q z1 z2, fun q hq => by
          rcases List.mem_append.mp hq with z | z
          · exact hS.2.2 q z
          · rw [hL q z]; exact hD.2 a _ hw⟩
      obtain ⟨t, a1, b1⟩ := hK _ _ _ h p e s m args below meth c (H.setIfInBounds (G.2.1 a) cel1) _ ls C hP1 (hS1 _ (fun q hq => by
        obtain ⟨z, -, hz⟩ := List.mem_map.mp hq
        rw [← hz])) hl _ (by rw [← hT0]; rfl) X'
      exact ⟨t, go t a1, b1⟩
    · exact h.elim
  · exact h.elim

/-- a list laid out before one goes on with it -/
def frc {α : Type} : List α → (List α → Prop) → Prop
  | [], k => k []
  | q :: l, k => frc l (fun l' => k (q :: l'))
theorem frc_eq {α : Type} : ∀ (l : List α) (k : List α → Prop), frc l k = k l
  | [], _ => rfl
  | q :: l, k => frc_eq l (fun l' => k (q :: l'))
def zt_istoreF (i : Nat) : Tr := fun _ _ _ K _ lv st σ => match st with | .int x :: st => frc (sto lv i (.int x)) (fun lv => K none lv st σ) | _ => False
theorem zq_istore {i : Nat} {l : Launch} {G : GT} {d : Nat} {K : Ko} {Q : Po} {lv : Lv} {st : List Value} {σ : Mm} (h : zt_istoreF i l G d K Q lv st σ) : zt_istore i l G d K Q lv st σ := by
  unfold zt_istoreF at h
  unfold zt_istore
  try dsimp only at h ⊢
  split at h
  · rw [frc_eq] at h; exact h
  · exact h.elim
theorem ze_istoreF {i : Nat} (hd : decode M.2.1 pc = .ok (.istore i, 2)) (hn : i < M.2.2.1) : Ent M (pc, pc + 2, zt_istoreF i) := fun l G d K Q lv st σ hK hJ h => ze_istore hd hn l G d K Q lv st σ hK hJ (zq_istore (l := l) (G := G) (d := d) (Q := Q) h)
theorem ze_istoreF_n {i : Nat} {k : Fin 4} (hd : decode M.2.1 pc = .ok (.istore_n k, 1)) (hi : (k : Nat) = i) (hn : i < M.2.2.1) : Ent M (pc, pc + 1, zt_istoreF i) := fun l G d K Q lv st σ hK hJ h => ze_istore_n hd hi hn l G d K Q lv st σ hK hJ (zq_istore (l := l) (G := G) (d := d) (Q := Q) h)
def zt_astoreF (i : Nat) : Tr := fun _ _ _ K _ lv st σ => match st with | .ref x :: st => frc (sto lv i (.ref x)) (fun lv => K none lv st σ) | _ => False
theorem zq_astore {i : Nat} {l : Launch} {G : GT} {d : Nat} {K : Ko} {Q : Po} {lv : Lv} {st : List Value} {σ : Mm} (h : zt_astoreF i l G d K Q lv st σ) : zt_astore i l G d K Q lv st σ := by
  unfold zt_astoreF at h
  unfold zt_astore
  try dsimp only at h ⊢
  split at h
  · rw [frc_eq] at h; exact h
  · exact h.elim
theorem ze_astoreF {i : Nat} (hd : decode M.2.1 pc = .ok (.astore i, 2)) (hn : i < M.2.2.1) : Ent M (pc, pc + 2, zt_astoreF i) := fun l G d K Q lv st σ hK hJ h => ze_astore hd hn l G d K Q lv st σ hK hJ (zq_astore (l := l) (G := G) (d := d) (Q := Q) h)
theorem ze_astoreF_n {i : Nat} {k : Fin 4} (hd : decode M.2.1 pc = .ok (.astore_n k, 1)) (hi : (k : Nat) = i) (hn : i < M.2.2.1) : Ent M (pc, pc + 1, zt_astoreF i) := fun l G d K Q lv st σ hK hJ h => ze_astore_n hd hi hn l G d K Q lv st σ hK hJ (zq_astore (l := l) (G := G) (d := d) (Q := Q) h)
def zt_lstoreF (i : Nat) : Tr := fun _ _ _ K _ lv st σ => match st with | .long x :: st => frc (sto2 lv i (.long x)) (fun lv => K none lv st σ) | _ => False
theorem zq_lstore {i : Nat} {l : Launch} {G : GT} {d : Nat} {K : Ko} {Q : Po} {lv : Lv} {st : List Value} {σ : Mm} (h : zt_lstoreF i l G d K Q lv st σ) : zt_lstore i l G d K Q lv st σ := by
  unfold zt_lstoreF at h
  unfold zt_lstore
  try dsimp only at h ⊢
  split at h
  · rw [frc_eq] at h; exact h
  · exact h.elim
theorem ze_lstoreF {i : Nat} (hd : decode M.2.1 pc = .ok (.lstore i, 2)) (hn : i + 1 < M.2.2.1) : Ent M (pc, pc + 2, zt_lstoreF i) := fun l G d K Q lv st σ hK hJ h => ze_lstore hd hn l G d K Q lv st σ hK hJ (zq_lstore (l := l) (G := G) (d := d) (Q := Q) h)
theorem ze_lstoreF_n {i : Nat} {k : Fin 4} (hd : decode M.2.1 pc = .ok (.lstore_n k, 1)) (hi : (k : Nat) = i) (hn : i + 1 < M.2.2.1) : Ent M (pc, pc + 1, zt_lstoreF i) := fun l G d K Q lv st σ hK hJ h => ze_lstore_n hd hi hn l G d K Q lv st σ hK hJ (zq_lstore (l := l) (G := G) (d := d) (Q := Q) h)
def zt_iincF (i : Nat) (n : Int32) : Tr := fun _ _ _ K _ lv st σ => match lk lv i with | some (.int x) => frc (sto lv i (.int (x + n))) (fun lv => K none lv st σ) | _ => False
theorem ze_iincF {i : Nat} {n : Int} {v : Int32} (hd : decode M.2.1 pc = .ok (.iinc i n, 3)) (hv : Int32.ofInt n = v) (hn : i < M.2.2.1) : Ent M (pc, pc + 3, zt_iincF i v) := by
  intro l G d K Q lv st σ hK hJ h
  refine ze_iinc hd hv hn l G d K Q lv st σ hK hJ ?_
  unfold zt_iincF at h
  unfold zt_iinc
  dsimp only at h ⊢
  split at h
  · rw [frc_eq] at h
    next x hx => rw [hx]; exact h
  · exact h.elim
def zt_callSF (M' : Me) (n : Nat) : Tr := fun l G d K _ lv st σ => match d with
  | 0 => False
  | d' + 1 => if n ≤ st.length ∧ catS (st.drop n) ≤ 24 then MW l G d' M' (st.take n).reverse σ (fun r σ' => frc (r.toList ++ st.drop n) (fun st => K none lv st σ')) else False
theorem ze_callSF {M' : Me} {n idx : Nat} (hd : decode M.2.1 pc = .ok (.invokestatic idx, 3)) (hk : Cond.methodLink M.2.2.2.2 idx M'.1 ∈ gW) (hm : MeS M' n) : Ent M (pc, pc + 3, zt_callSF M' n) := by
  intro l G d K Q lv st σ hK hJ h
  refine ze_callS hd hk hm l G d K Q lv st σ hK hJ ?_
  unfold zt_callSF at h
  unfold zt_callS
  dsimp only at h ⊢
  cases d with
  | zero => exact h.elim
  | succ d =>
    dsimp only at h ⊢
    split at h
    · next hn =>
      rw [if_pos hn]
      exact MW.mono h (fun r σ' q => by rw [frc_eq] at q; exact q)
    · exact h.elim
def zt_callVF (M' : Me) (n cn : Nat) : Tr := fun l G d K _ lv st σ => match d with
  | 0 => False
  | d' + 1 => match st.drop n with
    | .ref a :: rest => if n ≤ st.length ∧ (sh a).1 = cn ∧ catS rest ≤ 24 then MW l G d' M' (.ref a :: (st.take n).reverse) σ (fun r σ' => frc (r.toList ++ rest) (fun st => K none lv st σ')) else False
    | _ => False
theorem ze_callVF {M' : Me} {n idx ci cn : Nat} (hd : decode M.2.1 pc = .ok (.invokevirtual idx, 3)) (hk : Cond.methodLink M.2.2.2.2 idx M'.1 ∈ gW) (hm : MeV M' n ci) (hcn : 10 + ci = cn) : Ent M (pc, pc + 3, zt_callVF M' n cn) := by
  intro l G d K Q lv st σ hK hJ h
  refine ze_callV hd hk hm hcn l G d K Q lv st σ hK hJ ?_
  unfold zt_callVF at h
  unfold zt_callV
  dsimp only at h ⊢
  cases d with
  | zero => exact h.elim
  | succ d =>
    dsimp only at h ⊢
    split at h
    · next a rest hdr =>
      split at h
      · next hn =>
        rw [hdr]
        dsimp only
        rw [if_pos hn]
        exact MW.mono h (fun r σ' q => by rw [frc_eq] at q; exact q)
      · exact h.elim
    · exact h.elim
/-- an object's refs -/
def shr (a : Nat) : List (Option Nat) := (if a < 61 then (if a < 30 then (if a < 15 then (if a < 7 then (if a < 3 then (if a < 1 then [some 1, some 2, some 3, some 4, some 5, some 6, some 8, some 12, some 15, some 63, some 64, some 69, some 96, none] else (if a < 2 then [] else [])) else (if a < 5 then (if a < 4 then [] else []) else (if a < 6 then [] else [some 7, none]))) else (if a < 11 then (if a < 9 then (if a < 8 then [] else [some 9, some 10, none, some 11, some 6, none, none]) else (if a < 10 then [] else [])) else (if a < 13 then (if a < 12 then [] else [some 13, some 14, none]) else (if a < 14 then [] else [])))) else (if a < 22 then (if a < 18 then (if a < 16 then [some 16, some 17, some 18, some 19, some 31, some 43, some 1, some 55, some 56, some 59, some 62, none] else (if a < 17 then [] else [])) else (if a < 20 then (if a < 19 then [] else [some 20, some 21, some 22, some 23, some 27, none, none, none]) else (if a < 21 then [] else []))) else (if a < 26 then (if a < 24 then (if a < 23 then [] else []) else (if a < 25 then [] else [])) else (if a < 28 then (if a < 27 then [] else []) else (if a < 29 then [] else []))))) else (if a < 45 then (if a < 37 then (if a < 33 then (if a < 31 then [] else (if a < 32 then [some 32, some 33, some 34, some 35, some 39, none, none, none] else [])) else (if a < 35 then (if a < 34 then [] else []) else (if a < 36 then [] else []))) else (if a < 41 then (if a < 39 then (if a < 38 then [] else []) else (if a < 40 then [] else [])) else (if a < 43 then (if a < 42 then [] else []) else (if a < 44 then [some 44, some 45, some 46, some 47, some 51, none, none, none] else [])))) else (if a < 53 then (if a < 49 then (if a < 47 then (if a < 46 then [] else []) else (if a < 48 then [] else [])) else (if a < 51 then (if a < 50 then [] else []) else (if a < 52 then [] else []))) else (if a < 57 then (if a < 55 then (if a < 54 then [] else []) else (if a < 56 then [] else [])) else (if a < 59 then (if a < 58 then [] else []) else (if a < 60 then [] else [])))))) else (if a < 92 then (if a < 76 then (if a < 68 then (if a < 64 then (if a < 62 then [] else (if a < 63 then [] else [some 1, some 2, some 15, none])) else (if a < 66 then (if a < 65 then [none, some 65, some 66, some 67, some 68, none, none, none, none] else []) else (if a < 67 then [] else []))) else (if a < 72 then (if a < 70 then (if a < 69 then [] else [none, none, none, none, none, none, none, none, some 1, some 15, some 70, some 71, none, none, none]) else (if a < 71 then [] else [])) else (if a < 74 then (if a < 73 then [some 73, some 74, some 75, some 76, some 80, none, none, none] else []) else (if a < 75 then [] else [])))) else (if a < 84 then (if a < 80 then (if a < 78 then (if a < 77 then [] else []) else (if a < 79 then [] else [])) else (if a < 82 then (if a < 81 then [] else []) else (if a < 83 then [] else []))) else (if a < 88 then (if a < 86 then (if a < 85 then [some 85, some 86, some 87, some 88, some 92, none, none, none] else []) else (if a < 87 then [] else [])) else (if a < 90 then (if a < 89 then [] else []) else (if a < 91 then [] else []))))) else (if a < 107 then (if a < 99 then (if a < 95 then (if a < 93 then [] else (if a < 94 then [] else [])) else (if a < 97 then (if a < 96 then [] else [some 97, some 1]) else (if a < 98 then [] else [none, some 99, none, none, none, some 100, some 101, some 102, some 103, some 104, some 105, some 106, some 107, none, none, none, none, none, none, none, some 108, some 109, some 110, some 111, none, none, none, none, some 112, some 113, some 114, some 115, some 116, none, none, some 117, none, some 118, none, some 119, some 120, none, none, none, some 121]))) else (if a < 103 then (if a < 101 then (if a < 100 then [] else []) else (if a < 102 then [] else [])) else (if a < 105 then (if a < 104 then [] else []) else (if a < 106 then [] else [])))) else (if a < 115 then (if a < 111 then (if a < 109 then (if a < 108 then [] else []) else (if a < 110 then [] else [])) else (if a < 113 then (if a < 112 then [] else []) else (if a < 114 then [] else []))) else (if a < 119 then (if a < 117 then (if a < 116 then [] else []) else (if a < 118 then [] else [])) else (if a < 121 then (if a < 120 then [] else []) else (if a < 122 then [] else [])))))))
theorem shr_ok : ∀ a, a < NN → ∀ k, k < 45 → ((shr a).getD k none = none ∨ (shr a).getD k none = some (refA a k - 2) ∧ 2 ≤ refA a k) := by decide +kernel
theorem shr_ref {a k r c : Nat} (hc : (sh a).1 = 10 + c) (hk : k < 45) (h : (shr a).getD k none = some r) : refA a k = r + 2 := by
  have := shr_ok a (sh_obj hc) k hk
  rw [h] at this
  rcases this with q | q
  · cases q
  · have := Option.some.inj q.1
    omega
def zt_getL (cn k : Nat) : Tr := fun _ _ _ K _ lv st σ => match st with | .ref a :: st => if (sh a).1 = cn then (match (shr a).getD k none with | some r => K none lv (.ref r :: st) σ | none => False) else False | _ => False
theorem ze_getL {idx ci k cn : Nat} (hd : decode M.2.1 pc = .ok (.getfield idx, 3)) (hF : Fl M.2.2.2.2 idx ci k) (hcn : 10 + ci = cn) (hk : k < 45) : Ent M (pc, pc + 3, zt_getL cn k) := by
  intro l G d K Q lv st σ hK hJ h
  refine ze_getR hd hF hcn l G d K Q lv st σ hK hJ ?_
  unfold zt_getL at h
  unfold zt_getR
  dsimp only at h ⊢
  split at h
  · next a st =>
    split at h
    · next hc =>
      split at h
      · next r hr =>
        have e := shr_ref (hc.trans hcn.symm) hk hr
        dsimp only
        rw [if_pos ⟨hc, by omega⟩, e, Nat.add_sub_cancel]
        exact h
      · exact h.elim
    · exact h.elim
  · exact h.elim
def zt_iastoreF : Tr := fun _ _ _ K _ lv st σ => match st with | .int v :: .int i :: .ref a :: st => vp_in i (lenI a) ∧ ∀ k, i.toNatClampNeg = k → K none lv st (uI σ a k v) | _ => False
theorem ze_iastoreF (hd : decode M.2.1 pc = .ok (.iastore, 1)) : Ent M (pc, pc + 1, zt_iastoreF) := by
  intro l G d K Q lv st σ hK hJ h
  refine ze_iastore hd l G d K Q lv st σ hK hJ ?_
  unfold zt_iastoreF at h
  unfold zt_iastore
  dsimp only at h ⊢
  split at h
  · exact ⟨h.1, h.2 _ rfl⟩
  · exact h.elim
def zt_bastoreF : Tr := fun _ _ _ K _ lv st σ => match st with | .int v :: .int i :: .ref a :: st => vp_in i (lenB a) ∧ ∀ k, i.toNatClampNeg = k → K none lv st (uI σ a k (v.toInt8.toInt32)) | _ => False
theorem ze_bastoreF (hd : decode M.2.1 pc = .ok (.bastore, 1)) : Ent M (pc, pc + 1, zt_bastoreF) := by
  intro l G d K Q lv st σ hK hJ h
  refine ze_bastore hd l G d K Q lv st σ hK hJ ?_
  unfold zt_bastoreF at h
  unfold zt_bastore
  dsimp only at h ⊢
  split at h
  · exact ⟨h.1, h.2 _ rfl⟩
  · exact h.elim
def zt_lastoreF : Tr := fun _ _ _ K _ lv st σ => match st with | .long v :: .int i :: .ref a :: st => vp_in i (lenJ a) ∧ ∀ k, i.toNatClampNeg = k → K none lv st (uJ σ a k v) | _ => False
theorem ze_lastoreF (hd : decode M.2.1 pc = .ok (.lastore, 1)) : Ent M (pc, pc + 1, zt_lastoreF) := by
  intro l G d K Q lv st σ hK hJ h
  refine ze_lastore hd l G d K Q lv st σ hK hJ ?_
  unfold zt_lastoreF at h
  unfold zt_lastore
  dsimp only at h ⊢
  split at h
  · exact ⟨h.1, h.2 _ rfl⟩
  · exact h.elim
end Ops3
end
