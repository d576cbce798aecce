section
-- ===== PART A: goes FIRST, ahead of the names: the tables' words, and 'selects' of the private methods out of them =====
/-- a private method of a class that the tables say can be made, by its rows of tables_1 -/
def lw_okq (q : MethodName × Nat) : Prop := (q.1.cls ≠ "java/lang/invoke/MethodHandle" ∧ q.1.cls ≠ "java/lang/invoke/VarHandle") ∧ Cond.instantiable q.1.cls q.2 ∈ tables_1 ∧ Cond.privateMethod q.1 ∈ tables_1 ∧ Cond.instanceMethod q.1 ∈ tables_1
theorem lw_p0 : lw_okq (⟨"StripeTrees$State", "addChildren", "(III)V"⟩, 1) := ⟨⟨by decide +kernel, by decide +kernel⟩, List.mem_of_getElem? (i := 29) (by decide +kernel), List.mem_of_getElem? (i := 136) (by decide +kernel), List.mem_of_getElem? (i := 137) (by decide +kernel)⟩
theorem lw_p1 : lw_okq (⟨"StripeTrees", "mixedWithMember", "(JI)J"⟩, 3) := ⟨⟨by decide +kernel, by decide +kernel⟩, List.mem_of_getElem? (i := 15) (by decide +kernel), List.mem_of_getElem? (i := 200) (by decide +kernel), List.mem_of_getElem? (i := 201) (by decide +kernel)⟩
theorem lw_p2 : lw_okq (⟨"StripeTrees", "isJoined", "(I)Z"⟩, 3) := ⟨⟨by decide +kernel, by decide +kernel⟩, List.mem_of_getElem? (i := 15) (by decide +kernel), List.mem_of_getElem? (i := 205) (by decide +kernel), List.mem_of_getElem? (i := 206) (by decide +kernel)⟩
theorem lw_p3 : lw_okq (⟨"java/lang/Throwable", "fillInStackTrace", "(I)Ljava/lang/Throwable;"⟩, 6) := ⟨⟨by decide +kernel, by decide +kernel⟩, List.mem_of_getElem? (i := 254) (by decide +kernel), List.mem_of_getElem? (i := 252) (by decide +kernel), List.mem_of_getElem? (i := 253) (by decide +kernel)⟩
theorem lw_p4 : lw_okq (⟨"StripeTrees", "requireJoined", "(I)V"⟩, 3) := ⟨⟨by decide +kernel, by decide +kernel⟩, List.mem_of_getElem? (i := 15) (by decide +kernel), List.mem_of_getElem? (i := 284) (by decide +kernel), List.mem_of_getElem? (i := 285) (by decide +kernel)⟩
theorem lw_p5 : lw_okq (⟨"StripeTrees", "connectedStripes", "(I)I"⟩, 3) := ⟨⟨by decide +kernel, by decide +kernel⟩, List.mem_of_getElem? (i := 15) (by decide +kernel), List.mem_of_getElem? (i := 388) (by decide +kernel), List.mem_of_getElem? (i := 389) (by decide +kernel)⟩
theorem lw_p6 : lw_okq (⟨"StripeTrees", "hasFailed", "(I)Z"⟩, 3) := ⟨⟨by decide +kernel, by decide +kernel⟩, List.mem_of_getElem? (i := 15) (by decide +kernel), List.mem_of_getElem? (i := 414) (by decide +kernel), List.mem_of_getElem? (i := 415) (by decide +kernel)⟩
theorem lw_p7 : lw_okq (⟨"StripeTrees", "noticeFailures", "()V"⟩, 3) := ⟨⟨by decide +kernel, by decide +kernel⟩, List.mem_of_getElem? (i := 15) (by decide +kernel), List.mem_of_getElem? (i := 460) (by decide +kernel), List.mem_of_getElem? (i := 461) (by decide +kernel)⟩
theorem lw_p8 : lw_okq (⟨"StripeTrees", "quietTicks", "()I"⟩, 3) := ⟨⟨by decide +kernel, by decide +kernel⟩, List.mem_of_getElem? (i := 15) (by decide +kernel), List.mem_of_getElem? (i := 464) (by decide +kernel), List.mem_of_getElem? (i := 465) (by decide +kernel)⟩
theorem lw_p9 : lw_okq (⟨"StripeTrees", "sendBlocks", "(I)I"⟩, 3) := ⟨⟨by decide +kernel, by decide +kernel⟩, List.mem_of_getElem? (i := 15) (by decide +kernel), List.mem_of_getElem? (i := 470) (by decide +kernel), List.mem_of_getElem? (i := 471) (by decide +kernel)⟩
theorem lw_p10 : lw_okq (⟨"StripeTrees", "receiveBlocks", "(II)I"⟩, 3) := ⟨⟨by decide +kernel, by decide +kernel⟩, List.mem_of_getElem? (i := 15) (by decide +kernel), List.mem_of_getElem? (i := 474) (by decide +kernel), List.mem_of_getElem? (i := 475) (by decide +kernel)⟩
theorem lw_p11 : lw_okq (⟨"StripeTrees", "requireJoinedPlace", "(I)V"⟩, 3) := ⟨⟨by decide +kernel, by decide +kernel⟩, List.mem_of_getElem? (i := 15) (by decide +kernel), List.mem_of_getElem? (i := 514) (by decide +kernel), List.mem_of_getElem? (i := 515) (by decide +kernel)⟩
theorem lw_p12 : lw_okq (⟨"StripeTreesModel", "isJoined", "(I)Z"⟩, 5) := ⟨⟨by decide +kernel, by decide +kernel⟩, List.mem_of_getElem? (i := 583) (by decide +kernel), List.mem_of_getElem? (i := 622) (by decide +kernel), List.mem_of_getElem? (i := 623) (by decide +kernel)⟩
theorem lw_p13 : lw_okq (⟨"StripeTreesModel", "of", "(II)I"⟩, 5) := ⟨⟨by decide +kernel, by decide +kernel⟩, List.mem_of_getElem? (i := 583) (by decide +kernel), List.mem_of_getElem? (i := 626) (by decide +kernel), List.mem_of_getElem? (i := 627) (by decide +kernel)⟩
theorem lw_p14 : lw_okq (⟨"StripeTreesModel", "keep", "()V"⟩, 5) := ⟨⟨by decide +kernel, by decide +kernel⟩, List.mem_of_getElem? (i := 583) (by decide +kernel), List.mem_of_getElem? (i := 630) (by decide +kernel), List.mem_of_getElem? (i := 631) (by decide +kernel)⟩
theorem lw_p15 : lw_okq (⟨"StripeTreesModel", "put", "(III)V"⟩, 5) := ⟨⟨by decide +kernel, by decide +kernel⟩, List.mem_of_getElem? (i := 583) (by decide +kernel), List.mem_of_getElem? (i := 634) (by decide +kernel), List.mem_of_getElem? (i := 635) (by decide +kernel)⟩
def lw_privs_1 : List (MethodName × Nat) := [(⟨"StripeTrees$State", "addChildren", "(III)V"⟩, 1), (⟨"StripeTrees", "mixedWithMember", "(JI)J"⟩, 3), (⟨"StripeTrees", "isJoined", "(I)Z"⟩, 3), (⟨"java/lang/Throwable", "fillInStackTrace", "(I)Ljava/lang/Throwable;"⟩, 6), (⟨"StripeTrees", "requireJoined", "(I)V"⟩, 3), (⟨"StripeTrees", "connectedStripes", "(I)I"⟩, 3), (⟨"StripeTrees", "hasFailed", "(I)Z"⟩, 3), (⟨"StripeTrees", "noticeFailures", "()V"⟩, 3), (⟨"StripeTrees", "quietTicks", "()I"⟩, 3), (⟨"StripeTrees", "sendBlocks", "(I)I"⟩, 3), (⟨"StripeTrees", "receiveBlocks", "(II)I"⟩, 3), (⟨"StripeTrees", "requireJoinedPlace", "(I)V"⟩, 3), (⟨"StripeTreesModel", "isJoined", "(I)Z"⟩, 5), (⟨"StripeTreesModel", "of", "(II)I"⟩, 5), (⟨"StripeTreesModel", "keep", "()V"⟩, 5), (⟨"StripeTreesModel", "put", "(III)V"⟩, 5)]
theorem lw_r1 : ∀ q ∈ lw_privs_1, lw_okq q := List.forall_mem_cons.mpr ⟨lw_p0, List.forall_mem_cons.mpr ⟨lw_p1, List.forall_mem_cons.mpr ⟨lw_p2, List.forall_mem_cons.mpr ⟨lw_p3, List.forall_mem_cons.mpr ⟨lw_p4, List.forall_mem_cons.mpr ⟨lw_p5, List.forall_mem_cons.mpr ⟨lw_p6, List.forall_mem_cons.mpr ⟨lw_p7, List.forall_mem_cons.mpr ⟨lw_p8, List.forall_mem_cons.mpr ⟨lw_p9, List.forall_mem_cons.mpr ⟨lw_p10, List.forall_mem_cons.mpr ⟨lw_p11, List.forall_mem_cons.mpr ⟨lw_p12, List.forall_mem_cons.mpr ⟨lw_p13, List.forall_mem_cons.mpr ⟨lw_p14, List.forall_mem_cons.mpr ⟨lw_p15, fun _ h => absurd h List.not_mem_nil⟩⟩⟩⟩⟩⟩⟩⟩⟩⟩⟩⟩⟩⟩⟩⟩
theorem lw_p16 : lw_okq (⟨"StripeTreesModel", "attachAll", "()V"⟩, 5) := ⟨⟨by decide +kernel, by decide +kernel⟩, List.mem_of_getElem? (i := 583) (by decide +kernel), List.mem_of_getElem? (i := 638) (by decide +kernel), List.mem_of_getElem? (i := 639) (by decide +kernel)⟩
theorem lw_p17 : lw_okq (⟨"StripeTreesModel", "isChild", "(III)Z"⟩, 5) := ⟨⟨by decide +kernel, by decide +kernel⟩, List.mem_of_getElem? (i := 583) (by decide +kernel), List.mem_of_getElem? (i := 642) (by decide +kernel), List.mem_of_getElem? (i := 643) (by decide +kernel)⟩
theorem lw_p18 : lw_okq (⟨"StripeTreesModel", "attach", "(II)V"⟩, 5) := ⟨⟨by decide +kernel, by decide +kernel⟩, List.mem_of_getElem? (i := 583) (by decide +kernel), List.mem_of_getElem? (i := 646) (by decide +kernel), List.mem_of_getElem? (i := 647) (by decide +kernel)⟩
theorem lw_p19 : lw_okq (⟨"StripeTreesModel", "isRoomy", "(II)Z"⟩, 5) := ⟨⟨by decide +kernel, by decide +kernel⟩, List.mem_of_getElem? (i := 583) (by decide +kernel), List.mem_of_getElem? (i := 650) (by decide +kernel), List.mem_of_getElem? (i := 651) (by decide +kernel)⟩
theorem lw_p20 : lw_okq (⟨"StripeTreesModel", "childrenIn", "(II)I"⟩, 5) := ⟨⟨by decide +kernel, by decide +kernel⟩, List.mem_of_getElem? (i := 583) (by decide +kernel), List.mem_of_getElem? (i := 654) (by decide +kernel), List.mem_of_getElem? (i := 655) (by decide +kernel)⟩
theorem lw_p21 : lw_okq (⟨"StripeTreesModel", "depthOf", "(II)I"⟩, 5) := ⟨⟨by decide +kernel, by decide +kernel⟩, List.mem_of_getElem? (i := 583) (by decide +kernel), List.mem_of_getElem? (i := 658) (by decide +kernel), List.mem_of_getElem? (i := 659) (by decide +kernel)⟩
theorem lw_p22 : lw_okq (⟨"StripeTreesModel", "childrenOf", "(I)I"⟩, 5) := ⟨⟨by decide +kernel, by decide +kernel⟩, List.mem_of_getElem? (i := 583) (by decide +kernel), List.mem_of_getElem? (i := 662) (by decide +kernel), List.mem_of_getElem? (i := 663) (by decide +kernel)⟩
theorem lw_p23 : lw_okq (⟨"StripeTreesModel", "isInnerElsewhere", "(II)Z"⟩, 5) := ⟨⟨by decide +kernel, by decide +kernel⟩, List.mem_of_getElem? (i := 583) (by decide +kernel), List.mem_of_getElem? (i := 666) (by decide +kernel), List.mem_of_getElem? (i := 667) (by decide +kernel)⟩
theorem lw_p24 : lw_okq (⟨"StripeTreesModel", "lastChild", "(II)I"⟩, 5) := ⟨⟨by decide +kernel, by decide +kernel⟩, List.mem_of_getElem? (i := 583) (by decide +kernel), List.mem_of_getElem? (i := 670) (by decide +kernel), List.mem_of_getElem? (i := 671) (by decide +kernel)⟩
theorem lw_p25 : lw_okq (⟨"StripeTreesModel", "isAhead", "(III)Z"⟩, 5) := ⟨⟨by decide +kernel, by decide +kernel⟩, List.mem_of_getElem? (i := 583) (by decide +kernel), List.mem_of_getElem? (i := 674) (by decide +kernel), List.mem_of_getElem? (i := 675) (by decide +kernel)⟩
theorem lw_p26 : lw_okq (⟨"StripeTreesModel", "canBeInner", "(II)Z"⟩, 5) := ⟨⟨by decide +kernel, by decide +kernel⟩, List.mem_of_getElem? (i := 583) (by decide +kernel), List.mem_of_getElem? (i := 678) (by decide +kernel), List.mem_of_getElem? (i := 679) (by decide +kernel)⟩
theorem lw_p27 : lw_okq (⟨"StripeTreesModel", "firstInner", "(II)I"⟩, 5) := ⟨⟨by decide +kernel, by decide +kernel⟩, List.mem_of_getElem? (i := 583) (by decide +kernel), List.mem_of_getElem? (i := 682) (by decide +kernel), List.mem_of_getElem? (i := 683) (by decide +kernel)⟩
theorem lw_p28 : lw_okq (⟨"StripeTreesModel", "nearestRoom", "(II)I"⟩, 5) := ⟨⟨by decide +kernel, by decide +kernel⟩, List.mem_of_getElem? (i := 583) (by decide +kernel), List.mem_of_getElem? (i := 686) (by decide +kernel), List.mem_of_getElem? (i := 687) (by decide +kernel)⟩
theorem lw_p29 : lw_okq (⟨"StripeTreesModel", "isUnder", "(III)Z"⟩, 5) := ⟨⟨by decide +kernel, by decide +kernel⟩, List.mem_of_getElem? (i := 583) (by decide +kernel), List.mem_of_getElem? (i := 690) (by decide +kernel), List.mem_of_getElem? (i := 691) (by decide +kernel)⟩
theorem lw_p30 : lw_okq (⟨"StripeTreesModel", "goes", "(I)V"⟩, 5) := ⟨⟨by decide +kernel, by decide +kernel⟩, List.mem_of_getElem? (i := 583) (by decide +kernel), List.mem_of_getElem? (i := 698) (by decide +kernel), List.mem_of_getElem? (i := 699) (by decide +kernel)⟩
theorem lw_p31 : lw_okq (⟨"StripeTreesModel", "cut", "(III)V"⟩, 5) := ⟨⟨by decide +kernel, by decide +kernel⟩, List.mem_of_getElem? (i := 583) (by decide +kernel), List.mem_of_getElem? (i := 710) (by decide +kernel), List.mem_of_getElem? (i := 711) (by decide +kernel)⟩
def lw_privs_2 : List (MethodName × Nat) := [(⟨"StripeTreesModel", "attachAll", "()V"⟩, 5), (⟨"StripeTreesModel", "isChild", "(III)Z"⟩, 5), (⟨"StripeTreesModel", "attach", "(II)V"⟩, 5), (⟨"StripeTreesModel", "isRoomy", "(II)Z"⟩, 5), (⟨"StripeTreesModel", "childrenIn", "(II)I"⟩, 5), (⟨"StripeTreesModel", "depthOf", "(II)I"⟩, 5), (⟨"StripeTreesModel", "childrenOf", "(I)I"⟩, 5), (⟨"StripeTreesModel", "isInnerElsewhere", "(II)Z"⟩, 5), (⟨"StripeTreesModel", "lastChild", "(II)I"⟩, 5), (⟨"StripeTreesModel", "isAhead", "(III)Z"⟩, 5), (⟨"StripeTreesModel", "canBeInner", "(II)Z"⟩, 5), (⟨"StripeTreesModel", "firstInner", "(II)I"⟩, 5), (⟨"StripeTreesModel", "nearestRoom", "(II)I"⟩, 5), (⟨"StripeTreesModel", "isUnder", "(III)Z"⟩, 5), (⟨"StripeTreesModel", "goes", "(I)V"⟩, 5), (⟨"StripeTreesModel", "cut", "(III)V"⟩, 5)]
theorem lw_r2 : ∀ q ∈ lw_privs_2, lw_okq q := List.forall_mem_cons.mpr ⟨lw_p16, List.forall_mem_cons.mpr ⟨lw_p17, List.forall_mem_cons.mpr ⟨lw_p18, List.forall_mem_cons.mpr ⟨lw_p19, List.forall_mem_cons.mpr ⟨lw_p20, List.forall_mem_cons.mpr ⟨lw_p21, List.forall_mem_cons.mpr ⟨lw_p22, List.forall_mem_cons.mpr ⟨lw_p23, List.forall_mem_cons.mpr ⟨lw_p24, List.forall_mem_cons.mpr ⟨lw_p25, List.forall_mem_cons.mpr ⟨lw_p26, List.forall_mem_cons.mpr ⟨lw_p27, List.forall_mem_cons.mpr ⟨lw_p28, List.forall_mem_cons.mpr ⟨lw_p29, List.forall_mem_cons.mpr ⟨lw_p30, List.forall_mem_cons.mpr ⟨lw_p31, fun _ h => absurd h List.not_mem_nil⟩⟩⟩⟩⟩⟩⟩⟩⟩⟩⟩⟩⟩⟩⟩⟩
theorem lw_p32 : lw_okq (⟨"StripeTreesModel", "orphans", "(I)I"⟩, 5) := ⟨⟨by decide +kernel, by decide +kernel⟩, List.mem_of_getElem? (i := 583) (by decide +kernel), List.mem_of_getElem? (i := 726) (by decide +kernel), List.mem_of_getElem? (i := 727) (by decide +kernel)⟩
theorem lw_p33 : lw_okq (⟨"StripeTreesModel", "tickOne", "()V"⟩, 5) := ⟨⟨by decide +kernel, by decide +kernel⟩, List.mem_of_getElem? (i := 583) (by decide +kernel), List.mem_of_getElem? (i := 738) (by decide +kernel), List.mem_of_getElem? (i := 739) (by decide +kernel)⟩
theorem lw_p34 : lw_okq (⟨"StripeTreesModel", "sendTo", "(I)V"⟩, 5) := ⟨⟨by decide +kernel, by decide +kernel⟩, List.mem_of_getElem? (i := 583) (by decide +kernel), List.mem_of_getElem? (i := 742) (by decide +kernel), List.mem_of_getElem? (i := 743) (by decide +kernel)⟩
theorem lw_p35 : lw_okq (⟨"StripeTreesModel", "piecesOf", "(II)I"⟩, 5) := ⟨⟨by decide +kernel, by decide +kernel⟩, List.mem_of_getElem? (i := 583) (by decide +kernel), List.mem_of_getElem? (i := 746) (by decide +kernel), List.mem_of_getElem? (i := 747) (by decide +kernel)⟩
theorem lw_p36 : lw_okq (⟨"StripeTreesModel", "gets", "(III)Z"⟩, 5) := ⟨⟨by decide +kernel, by decide +kernel⟩, List.mem_of_getElem? (i := 583) (by decide +kernel), List.mem_of_getElem? (i := 750) (by decide +kernel), List.mem_of_getElem? (i := 751) (by decide +kernel)⟩
theorem lw_p37 : lw_okq (⟨"StripeTreesModel", "memberOf", "(II)I"⟩, 5) := ⟨⟨by decide +kernel, by decide +kernel⟩, List.mem_of_getElem? (i := 583) (by decide +kernel), List.mem_of_getElem? (i := 762) (by decide +kernel), List.mem_of_getElem? (i := 763) (by decide +kernel)⟩
theorem lw_p38 : lw_okq (⟨"StripeTreesModel", "innerStripe", "(I)I"⟩, 5) := ⟨⟨by decide +kernel, by decide +kernel⟩, List.mem_of_getElem? (i := 583) (by decide +kernel), List.mem_of_getElem? (i := 766) (by decide +kernel), List.mem_of_getElem? (i := 767) (by decide +kernel)⟩
theorem lw_p39 : lw_okq (⟨"StripeTreesModel", "subtreeOf", "(II)I"⟩, 5) := ⟨⟨by decide +kernel, by decide +kernel⟩, List.mem_of_getElem? (i := 583) (by decide +kernel), List.mem_of_getElem? (i := 789) (by decide +kernel), List.mem_of_getElem? (i := 790) (by decide +kernel)⟩
theorem lw_p40 : lw_okq (⟨"StripeTreesModel", "harmOf", "(I)I"⟩, 5) := ⟨⟨by decide +kernel, by decide +kernel⟩, List.mem_of_getElem? (i := 583) (by decide +kernel), List.mem_of_getElem? (i := 805) (by decide +kernel), List.mem_of_getElem? (i := 806) (by decide +kernel)⟩
theorem lw_p41 : lw_okq (⟨"StripeTreesModel", "stripeOf", "(II)I"⟩, 5) := ⟨⟨by decide +kernel, by decide +kernel⟩, List.mem_of_getElem? (i := 583) (by decide +kernel), List.mem_of_getElem? (i := 817) (by decide +kernel), List.mem_of_getElem? (i := 818) (by decide +kernel)⟩
theorem lw_p42 : lw_okq (⟨"StripeTreesModel", "countOf", "(I)I"⟩, 5) := ⟨⟨by decide +kernel, by decide +kernel⟩, List.mem_of_getElem? (i := 583) (by decide +kernel), List.mem_of_getElem? (i := 825) (by decide +kernel), List.mem_of_getElem? (i := 826) (by decide +kernel)⟩
theorem lw_p43 : lw_okq (⟨"StripeTreesModel", "mix", "(J)V"⟩, 5) := ⟨⟨by decide +kernel, by decide +kernel⟩, List.mem_of_getElem? (i := 583) (by decide +kernel), List.mem_of_getElem? (i := 838) (by decide +kernel), List.mem_of_getElem? (i := 839) (by decide +kernel)⟩
theorem lw_p44 : lw_okq (⟨"StripeTreesModel", "mixMember", "(I)V"⟩, 5) := ⟨⟨by decide +kernel, by decide +kernel⟩, List.mem_of_getElem? (i := 583) (by decide +kernel), List.mem_of_getElem? (i := 843) (by decide +kernel), List.mem_of_getElem? (i := 844) (by decide +kernel)⟩
def lw_privs_3 : List (MethodName × Nat) := [(⟨"StripeTreesModel", "orphans", "(I)I"⟩, 5), (⟨"StripeTreesModel", "tickOne", "()V"⟩, 5), (⟨"StripeTreesModel", "sendTo", "(I)V"⟩, 5), (⟨"StripeTreesModel", "piecesOf", "(II)I"⟩, 5), (⟨"StripeTreesModel", "gets", "(III)Z"⟩, 5), (⟨"StripeTreesModel", "memberOf", "(II)I"⟩, 5), (⟨"StripeTreesModel", "innerStripe", "(I)I"⟩, 5), (⟨"StripeTreesModel", "subtreeOf", "(II)I"⟩, 5), (⟨"StripeTreesModel", "harmOf", "(I)I"⟩, 5), (⟨"StripeTreesModel", "stripeOf", "(II)I"⟩, 5), (⟨"StripeTreesModel", "countOf", "(I)I"⟩, 5), (⟨"StripeTreesModel", "mix", "(J)V"⟩, 5), (⟨"StripeTreesModel", "mixMember", "(I)V"⟩, 5)]
theorem lw_r3 : ∀ q ∈ lw_privs_3, lw_okq q := List.forall_mem_cons.mpr ⟨lw_p32, List.forall_mem_cons.mpr ⟨lw_p33, List.forall_mem_cons.mpr ⟨lw_p34, List.forall_mem_cons.mpr ⟨lw_p35, List.forall_mem_cons.mpr ⟨lw_p36, List.forall_mem_cons.mpr ⟨lw_p37, List.forall_mem_cons.mpr ⟨lw_p38, List.forall_mem_cons.mpr ⟨lw_p39, List.forall_mem_cons.mpr ⟨lw_p40, List.forall_mem_cons.mpr ⟨lw_p41, List.forall_mem_cons.mpr ⟨lw_p42, List.forall_mem_cons.mpr ⟨lw_p43, List.forall_mem_cons.mpr ⟨lw_p44, fun _ h => absurd h List.not_mem_nil⟩⟩⟩⟩⟩⟩⟩⟩⟩⟩⟩⟩⟩
def lw_privs : List (MethodName × Nat) := lw_privs_1 ++ (lw_privs_2 ++ (lw_privs_3))
def lw_tbl : List Cond := k2_sels lw_privs ++ tables_1
theorem lw_privs_ok : ∀ q ∈ lw_privs, lw_okq q := by
  show ∀ q ∈ lw_privs_1 ++ (lw_privs_2 ++ (lw_privs_3)), lw_okq q
  exact List.forall_mem_append.mpr ⟨lw_r1, List.forall_mem_append.mpr ⟨lw_r2, lw_r3⟩⟩
-- ===== end of PART A; then your names; then what follows =====
end
section
/-! ===== BEGIN words of one list among another's, by their places ===== -/
theorem goodIn_r {big : List Cond} (ws : List Cond) (ps : List Nat) (hp : ws = ps.filterMap (fun i => big[i]?)) (h : ws.all goodWord = true) : GoodIn big ws := by
  intro w hw
  have h1 := List.all_eq_true.mp h w hw
  rw [hp] at hw
  obtain ⟨i, -, hi⟩ := List.mem_filterMap.mp hw
  have hm : w ∈ big := by first | exact List.mem_of_getElem? hi | exact List.getElem?_mem hi
  exact ⟨hm, good_of_word h1⟩
theorem goodIn_app {big a b : List Cond} (ha : GoodIn big a) (hb : GoodIn big b) : GoodIn big (a ++ b) := fun w h => (List.mem_append.mp h).elim (ha w) (hb w)
theorem goodIn_ca {big a b : List Cond} {c : Cond} (ha : GoodIn big (c :: a)) (hb : GoodIn big b) : GoodIn big (c :: (a ++ b)) := fun w h => (List.mem_cons.mp h).elim (fun e => ha w (List.mem_cons.mpr (Or.inl e))) (fun h => (List.mem_append.mp h).elim (fun h => ha w (List.mem_cons.mpr (Or.inr h))) (hb w))
theorem goodIn_sub {big ws : List Cond} (hm : ∀ w ∈ ws, w ∈ big) (h : ws.all goodWord = true) : GoodIn big ws := fun w hw => ⟨hm w hw, good_of_word (List.all_eq_true.mp h w hw)⟩
/-! ===== END ===== -/

/-! ===== BEGIN exceptions that leave a method, and their catching by the caller (launches without stack traces) ===== -/
section VXA
/-! The laws vx_back, vx_callV, vx_callS, vx_callSW, vx_throw0, vx_throwS follow proofs of the library, with one case more: JvmDerived/Free/Laws.lean (Back.of_free), Shelf42/LK1.lean (callV, callS), Shelf/KitTraced.lean (throwNew0V, throwNewS). -/
/-- where a method has thrown q: the class by its name, the cell, what was written, the world -/
def vx_T (XC : String → State → State → Prop) (st : State) (q : Addr) (t : State) (mc ms : Nat) (free : Addr → Prop) : Prop :=
  ∃ (E : String) (ce : Cell) (L : List Loc), XC E st t ∧ t.heap[q]? = some ce ∧ ce.vm = .none ∧ st.vm.findClass E = some ce.cls ∧ st.WarmedH t.vm ∧ st.sameButNew ({ t with vm := st.vm } : State) L mc ms ∧ ∀ z ∈ L, free z.base
def vx_Q (Qc : Array Value → State → Outcome → State → Prop) (XC : String → State → State → Prop) (mc ms : Nat) (free : Addr → Prop) : Array Value → State → Outcome → State → Prop := fun a st o t =>
  (Qc a st o t ∧ ∃ L, FrameEnd st o t L mc ms ∧ ∀ q ∈ L, free q.base) ∨ ∃ q, o = .threw q ∧ vx_T XC st q t mc ms free
/-- a callee that returns or throws -/
def vx_Met (l : Launch) (y : MethodName) (ws : List Cond) (rm : Room) (Pc : Array Value → State → Prop) (Qc : Array Value → State → Outcome → State → Prop) (XC : String → State → State → Prop) (mc ms : Nat) (free : Addr → Prop) : Prop :=
  MetFree l y (headSpec ws rm) Pc (fun _ _ _ _ _ => True) (vx_Q Qc XC mc ms free)
def vx_Post (XC : String → State → State → Prop) (mc ms : Nat) (free : Addr → Prop) : Pt → Array Value → Addr → Pt → Prop := fun A a q B =>
  ∃ (g : JFrame) (mk : MethodId) (t : State) (L : List Loc) (E : String) (ce : Cell), B.U.heap = t.heap ∧ B.U.vm = t.vm ∧ XC E (A.U.calling g mk a) t ∧ t.heap[q]? = some ce ∧ ce.vm = .none ∧ A.U.vm.findClass E = some ce.cls ∧ B.locs = A.locs ++ L ∧ (∀ z ∈ L, free z.base) ∧ B.cells = A.cells + mc ∧ B.slots = A.slots + ms
def vx_Back (l : Launch) (R : Room) (p : Program) (e : Env) (below : List Frame) (s : State) (sargs : Array Value) (y : MethodName) (len W9 : Nat)
    (Pre : Pt → Array Value → Prop) (Post : Pt → Array Value → Option Value → Pt → Prop) (PostX : Pt → Array Value → Addr → Pt → Prop) : Prop :=
  ∀ (m : MethodId) (meth : Method) (c : Code) (A : Pt) (g : JFrame) (ig : Instr) (mk : MethodId) (a : Array Value),
    Stand p l e R s m sargs below meth c A.U A.locs A.cells A.slots → g.method = m → g.locals.size = c.maxLocals → decode c.code g.pc = .ok (ig, len) →
    2 * g.monitorRoom + (g.stack.map fun v => v.category).sum ≤ W9 → A.U.methodNamed? y = some mk → Pre A a →
    (∃ (v : Option Value) (B : Pt), Stand p l e R s m sargs below meth c B.U B.locs B.cells B.slots ∧ Post A a v B ∧
      Steps p.tables e below (doInvoke e (A.U.setTop g) [] mk a).1 (B.U.setTop { g with pc := g.pc + len, stack := v.toList ++ g.stack })) ∨
    (∃ (q : Addr) (B : Pt), Stand p l e R s m sargs below meth c B.U B.locs B.cells B.slots ∧ PostX A a q B ∧
      Steps p.tables e below (doInvoke e (A.U.setTop g) [] mk a).1 ((B.U.setTop g).pushFrame (.throwing q)))
section Payer
variable {l : Launch} {R : Room} {p : Program} {e : Env} {below : List Frame} {s : State} {sargs : Array Value} {y : MethodName} {len W9 : Nat}
theorem vx_back {ws : List Cond} {rm : Room} {Pc : Array Value → State → Prop} {Qc : Array Value → State → Outcome → State → Prop} {XC : String → State → State → Prop} {mc ms : Nat} {free : Addr → Prop} {bytes : ByteArray} {maxL : Nat} {ret : Option FieldType}
    (hM : vx_Met l y ws rm Pc Qc XC mc ms free) (hblind : FrameBlind Pc) (hrc : rm.cells = mc) (hrs : rm.slots = ms)
    (hframes : rm.frames + 1 ≤ R.frames) (hlocals : W9 + (maxL + 11) + rm.locals ≤ R.locals)
    (hws : ∀ w ∈ ws, ∀ a' U, s.WarmedH U.vm → w.before a' U = true) (hcode : Cond.code y bytes maxL ret ∈ ws) (hinit : ∀ a' U, s.WarmedH U.vm → (Cond.initialized y.cls).before a' U = true) :
    vx_Back l R p e below s sargs y len W9 (PreOf R mc ms Pc) (PostOf Qc mc ms free) (vx_Post XC mc ms free) := by
  intro m meth c A g ig mk a X hg hsize hdg hW hn hp
  have h1 : (headSpec ws rm).pre.before a A.U = true := atoms_intro fun w hw => hws w hw _ _ X.warmed
  have h2 : (Cond.code y bytes maxL ret).before a A.U = true := hws _ hcode _ _ X.warmed
  have h3 : (Cond.initialized y.cls).before a A.U = true := hinit _ _ X.warmed
  have h4 : A.cells + (headSpec ws rm).room.cells ≤ R.cells := by rw [show (headSpec ws rm).room.cells = mc from hrc]; exact hp.1
  have h5 : A.slots + (headSpec ws rm).room.slots ≤ R.slots := by rw [show (headSpec ws rm).room.slots = ms from hrs]; exact hp.2.1
  have hPc : Pc a (A.U.calling g mk a) := hblind _ _ _ _ hp.2.2
  obtain ⟨U, Ls, c0, s0⟩ := A
  dsimp only [Pt.U, Pt.locs, Pt.cells, Pt.slots] at h1 h2 h3 h4 h5 X hn hPc ⊢
  obtain ⟨methY, cY, hmY, hcY, -, hlY, -, -, -, -⟩ := Cond.code_spec hn h2
  obtain ⟨kY, hkY, -⟩ := className_of_methodNamed hn
  have hinitY : kY.init = .initialized := Cond.initialized_spec (findClass_of_methodNamed hn) hkY h3
  have h : At U g.method c below := by rw [hg]; exact X.here
  have hlocals9 : W9 + (maxL + 11) + (headSpec ws rm).room.locals ≤ R.locals := hlocals
  have happ : (headSpec ws rm).appliesLoose y e.platform (U.calling g mk a) = true :=
    Spec.appliesLoose_calling (g := g) h hdg hn hkY hinitY
      (X.room_calling (g := g) (R' := (headSpec ws rm).room) hsize hmY hcY hframes (by rw [hlY]; omega) h4 h5) h1
  obtain ⟨mid, hmid⟩ := h.above
  have hfr : (U.setTop g).frames = (.java g :: mid) ++ below := by rw [State.frames_setTop' g h.top, hmid]; rfl
  obtain ⟨o, s₂, hsteps, -, hend, hq⟩ := Steps.callFree hM p X.admits X.cas X.clock (acts := []) hfr happ hPc trivial
  have hq' : vx_Q Qc XC mc ms free a (U.calling g mk a) o s₂ := hq
  rw [State.frames_setTop' g h.top] at hend
  obtain ⟨g₀, hg0⟩ := Option.isSome_iff_exists.mp h.top
  obtain ⟨r, hr⟩ := State.topJava?_eq_some.mp hg0
  have hr' : (({ U with heap := s₂.heap, slotsUsed := s₂.slotsUsed } : State).setVm s₂.vm).frames = .java g₀ :: r := hr
  rcases hq' with ⟨hqc, L, hfe, hL⟩ | ⟨q, rfl, E, ce, L, hx, hce, hcv, hcl, hW₂, hsm, hL⟩
  · obtain ⟨⟨v, rfl⟩, hW₂, e2, q2, q3, q4, q5, q6⟩ := id hfe
    have e3 : s₂ = ({ (U.calling g mk a).setFrames s₂.frames with heap := s₂.heap, slotsUsed := s₂.slotsUsed } : State).setVm s₂.vm := by
      have : s₂ = ({ s₂ with vm := (U.calling g mk a).vm } : State).setVm s₂.vm := rfl
      rw [e2] at this
      exact this
    obtain ⟨c₂, i₂, len₂, hc₂, hd₂, hf₂⟩ := hend
    have hW' : U.WarmedH s₂.vm := hW₂
    have hcc : c₂ = c := by
      have h1 : s₂.code? g.method = U.code? g.method := by
        rw [State.code?_eq, State.code?_eq, hW'.alike.method?]
      exact Option.some.inj (hc₂.symm.trans (h1.trans h.code))
    subst hcc
    have hlen : len₂ = len := by rw [hdg] at hd₂; cases hd₂; rfl
    subst hlen
    have hs₂ : s₂ = (({ U with heap := s₂.heap, slotsUsed := s₂.slotsUsed } : State).setVm s₂.vm).setTop { g with pc := g.pc + len₂, stack := v.toList ++ g.stack } := by
      refine e3.trans ?_
      rw [hf₂, State.calling_eq h.top, State.setFrames_setFrames, State.setTop_of_frames _ hr', hr]
      rfl
    have hsame : U.sameButNew ({ U with heap := s₂.heap, slotsUsed := s₂.slotsUsed } : State) L mc ms := by
      refine ⟨?_, q2, q3, q4, q5, q6⟩
      obtain ⟨t, ht, -⟩ := State.frames_cons hr
      show ({ U with heap := s₂.heap, slotsUsed := s₂.slotsUsed } : State) = { U.setFrames U.frames with heap := s₂.heap, slotsUsed := s₂.slotsUsed }
      rw [State.setFrames_self ht]
    subst hg
    refine Or.inl ⟨v, ⟨(({ U with heap := s₂.heap, slotsUsed := s₂.slotsUsed } : State).setVm s₂.vm), Ls ++ L, c0 + mc, s0 + ms⟩,
      ⟨X.admits, X.cas, X.clock, X.frames, X.room, X.hears, X.method, X.code, (X.here.setHeapUsed s₂.heap s₂.slotsUsed).setVm hW'.alike, X.tail, State.WarmedH.trans X.warmed hW', X.limits, X.bytes, X.same.trans (hsame.setVm s.vm)⟩,
      ⟨g, mk, s₂, L, rfl, rfl, hqc, rfl, hL, rfl, rfl⟩, ?_⟩
    show Steps p.tables e below _ ((({ U with heap := s₂.heap, slotsUsed := s₂.slotsUsed } : State).setVm s₂.vm).setTop { g with pc := g.pc + len₂, stack := v.toList ++ g.stack })
    rw [← hs₂]
    exact hsteps
  · obtain ⟨e2, q2, q3, q4, q5, q6⟩ := id hsm
    have e3 : s₂ = ({ (U.calling g mk a).setFrames s₂.frames with heap := s₂.heap, slotsUsed := s₂.slotsUsed } : State).setVm s₂.vm := by
      have : s₂ = ({ s₂ with vm := (U.calling g mk a).vm } : State).setVm s₂.vm := rfl
      rw [e2] at this
      exact this
    have hf₂ : s₂.frames = .throwing q :: .java g :: U.frames.tail := hend
    have hW' : U.WarmedH s₂.vm := hW₂
    have hs₂ : s₂ = ((({ U with heap := s₂.heap, slotsUsed := s₂.slotsUsed } : State).setVm s₂.vm).setTop g).pushFrame (.throwing q) := by
      refine e3.trans ?_
      rw [hf₂, State.calling_eq h.top, State.setFrames_setFrames, State.pushFrame, State.frames_setTop _ hr', State.setTop_of_frames _ hr', State.setFrames_setFrames, hr]
      rfl
    have hsame : U.sameButNew ({ U with heap := s₂.heap, slotsUsed := s₂.slotsUsed } : State) L mc ms := by
      refine ⟨?_, q2, q3, q4, q5, q6⟩
      obtain ⟨t, ht, -⟩ := State.frames_cons hr
      show ({ U with heap := s₂.heap, slotsUsed := s₂.slotsUsed } : State) = { U.setFrames U.frames with heap := s₂.heap, slotsUsed := s₂.slotsUsed }
      rw [State.setFrames_self ht]
    subst hg
    refine Or.inr ⟨q, ⟨(({ U with heap := s₂.heap, slotsUsed := s₂.slotsUsed } : State).setVm s₂.vm), Ls ++ L, c0 + mc, s0 + ms⟩,
      ⟨X.admits, X.cas, X.clock, X.frames, X.room, X.hears, X.method, X.code, (X.here.setHeapUsed s₂.heap s₂.slotsUsed).setVm hW'.alike, X.tail, State.WarmedH.trans X.warmed hW', X.limits, X.bytes, X.same.trans (hsame.setVm s.vm)⟩,
      ⟨g, mk, s₂, L, E, ce, rfl, rfl, hx, hce, hcv, hcl, rfl, hL, rfl, rfl⟩, ?_⟩
    show Steps p.tables e below _ (((({ U with heap := s₂.heap, slotsUsed := s₂.slotsUsed } : State).setVm s₂.vm).setTop g).pushFrame (.throwing q))
    rw [← hs₂]
    exact hsteps
end Payer
section Calls
variable {p : Program} {l : Launch} {e : Env} {R : Room} {s : State} {m : MethodId} {args : Array Value} {below : List Frame} {meth : Method} {c : Code} {T : State} {locs : List Loc} {cells slots : Nat}
theorem vx_callV (X : Stand p l e R s m args below meth c T locs cells slots) (hexec : p.tables.exec = Jvm.exec) {own C : String} {index : Nat} {y : MethodName} {bytes : ByteArray} {maxL : Nat} {ret : Option FieldType}
    (hown : s.vm.findClass own = some m.cls) (hlink : (Cond.methodLink own index y).before args s = true) (hinst : (Cond.instanceMethod y).before args s = true) (hsel : (Cond.selects C y y).before args s = true)
    (hcode : (Cond.code y bytes maxL ret).before args s = true) (hy : y.cls ≠ "java/lang/invoke/MethodHandle" ∧ y.cls ≠ "java/lang/invoke/VarHandle")
    {W9 : Nat} {Pre : Pt → Array Value → Prop} {Post : Pt → Array Value → Option Value → Pt → Prop} {PostX : Pt → Array Value → Addr → Pt → Prop} (hK : vx_Back l R p e below s args y 3 W9 Pre Post PostX)
    {b : Addr} {cellB : Cell} (hcell : T.heap[b]? = some cellB) (hobj : cellB.vm.isStatics = false) (hcls : s.vm.findClass C = some cellB.cls)
    {g : JFrame} (hg : g.method = m) (hsize : g.locals.size = c.maxLocals) {argsL rest : List Value} (hlen : ∀ sig, parseMethodDescriptor y.desc = some sig → argsL.length = sig.parameters.length)
    (hstack : g.stack = argsL.reverse ++ .ref b :: rest) (hW : 2 * g.monitorRoom + (rest.map fun v => v.category).sum ≤ W9) (hdg : decode c.code g.pc = .ok (.invokevirtual index, 3))
    (hpre : ∀ vm₁, s.WarmedH vm₁ → Pre ⟨T.setVm vm₁, locs, cells, slots⟩ (Value.ref b :: argsL).toArray) :
    (∃ (v : Option Value) (vm₁ : Vm) (B : Pt), s.WarmedH vm₁ ∧ Stand p l e R s m args below meth c B.U B.locs B.cells B.slots ∧ Post ⟨T.setVm vm₁, locs, cells, slots⟩ (Value.ref b :: argsL).toArray v B ∧
      ∀ target, Steps p.tables e below (B.U.setTop { g with pc := g.pc + 3, stack := v.toList ++ rest }) target → Steps p.tables e below (T.setTop g) target) ∨
    (∃ (q : Addr) (vm₁ : Vm) (B : Pt), s.WarmedH vm₁ ∧ Stand p l e R s m args below meth c B.U B.locs B.cells B.slots ∧ PostX ⟨T.setVm vm₁, locs, cells, slots⟩ (Value.ref b :: argsL).toArray q B ∧
      Steps p.tables e below (T.setTop g) ((B.U.setTop { g with stack := rest }).pushFrame (.throwing q))) := by
  obtain ⟨mk, methM, hnamed, hmethM, hstM, habM⟩ := Cond.instanceMethod_spec hinst
  obtain ⟨methM', cM, hmethM', -, -, -, -, -, -, hsigM⟩ := Cond.code_spec hnamed hcode
  cases hmethM.symm.trans hmethM'
  obtain ⟨c2, r2, m2, q1, q2, q3, q4, kP, hkP, hkPi⟩ := Cond.selects_spec hsel
  cases hcls.symm.trans q1
  cases (State.methodFound?_of_named hnamed hy).symm.trans q2
  cases hnamed.symm.trans q3
  have hselP : selectMethod e.platform s.vm cellB.cls mk = .method mk := by rw [Launch.admits_selectMethod X.admits]; exact q4
  obtain ⟨vm₁, X₁, hstep₁⟩ := X.invokevirtual hexec hown hlink hnamed hmethM hstM hkP hkPi hy (a := b) (cell := cellB) hcell
    (fun z h => by rw [h] at hobj; cases hobj) hselP hmethM habM hkP hkPi (g := g) hg (argsL := argsL) (rest := rest) (hlen _ hsigM) hstack hdg
  rcases hK m meth c ⟨T.setVm vm₁, locs, cells, slots⟩ { g with stack := rest } (.invokevirtual index) mk (Value.ref b :: argsL).toArray X₁ hg hsize hdg hW (X₁.named hnamed) (hpre vm₁ X₁.warmed) with ⟨v, B, X', hpost, hsteps⟩ | ⟨q, B, X', hpost, hsteps⟩
  · exact Or.inl ⟨v, vm₁, B, X₁.warmed, X', hpost, fun target h => hstep₁ _ fun acts => by rw [doInvoke_state]; exact hsteps.trans h⟩
  · exact Or.inr ⟨q, vm₁, B, X₁.warmed, X', hpost, hstep₁ _ fun acts => by rw [doInvoke_state]; exact hsteps⟩
theorem vx_callS (X : Stand p l e R s m args below meth c T locs cells slots) (hexec : p.tables.exec = Jvm.exec) {own : String} {index : Nat} {y : MethodName} {bytes : ByteArray} {maxL : Nat} {ret : Option FieldType}
    (hown : s.vm.findClass own = some m.cls) (hlink : (Cond.methodLink own index y).before args s = true) (hstat : (Cond.static y).before args s = true) (hinit : (Cond.initialized y.cls).before args s = true)
    (hcode : (Cond.code y bytes maxL ret).before args s = true) (hy : y.cls ≠ "java/lang/invoke/MethodHandle" ∧ y.cls ≠ "java/lang/invoke/VarHandle")
    {W9 : Nat} {Pre : Pt → Array Value → Prop} {Post : Pt → Array Value → Option Value → Pt → Prop} {PostX : Pt → Array Value → Addr → Pt → Prop} (hK : vx_Back l R p e below s args y 3 W9 Pre Post PostX)
    {g : JFrame} (hg : g.method = m) (hsize : g.locals.size = c.maxLocals) {argsL rest : List Value} (hlen : ∀ sig, parseMethodDescriptor y.desc = some sig → argsL.length = sig.parameters.length)
    (hstack : g.stack = argsL.reverse ++ rest) (hW : 2 * g.monitorRoom + (rest.map fun v => v.category).sum ≤ W9) (hdg : decode c.code g.pc = .ok (.invokestatic index, 3))
    (hpre : ∀ vm₁, s.WarmedH vm₁ → Pre ⟨T.setVm vm₁, locs, cells, slots⟩ argsL.toArray) :
    (∃ (v : Option Value) (vm₁ : Vm) (B : Pt), s.WarmedH vm₁ ∧ Stand p l e R s m args below meth c B.U B.locs B.cells B.slots ∧ Post ⟨T.setVm vm₁, locs, cells, slots⟩ argsL.toArray v B ∧
      ∀ target, Steps p.tables e below (B.U.setTop { g with pc := g.pc + 3, stack := v.toList ++ rest }) target → Steps p.tables e below (T.setTop g) target) ∨
    (∃ (q : Addr) (vm₁ : Vm) (B : Pt), s.WarmedH vm₁ ∧ Stand p l e R s m args below meth c B.U B.locs B.cells B.slots ∧ PostX ⟨T.setVm vm₁, locs, cells, slots⟩ argsL.toArray q B ∧
      Steps p.tables e below (T.setTop g) ((B.U.setTop { g with stack := rest }).pushFrame (.throwing q))) := by
  obtain ⟨mk, hnamed⟩ := Cond.code_named hcode
  obtain ⟨methM, cM, hmethM, -, -, -, -, -, -, hsigM⟩ := Cond.code_spec hnamed hcode
  have hstatic : methM.isStatic = true := Cond.static_spec hnamed hmethM hstat
  obtain ⟨kP, hkP, -⟩ := className_of_methodNamed hnamed
  have hinitP : kP.init = .initialized := Cond.initialized_spec (findClass_of_methodNamed hnamed) hkP hinit
  obtain ⟨vm₁, X₁, hstep₁⟩ := X.invokestatic hexec hown hlink hnamed hmethM hstatic hkP hinitP hy (g := g) hg (argsL := argsL) (rest := rest) (hlen _ hsigM) hstack hdg
  rcases hK m meth c ⟨T.setVm vm₁, locs, cells, slots⟩ { g with stack := rest } (.invokestatic index) mk argsL.toArray X₁ hg hsize hdg hW (X₁.named hnamed) (hpre vm₁ X₁.warmed) with ⟨v, B, X', hpost, hsteps⟩ | ⟨q, B, X', hpost, hsteps⟩
  · exact Or.inl ⟨v, vm₁, B, X₁.warmed, X', hpost, fun target h => hstep₁ _ fun acts => by rw [doInvoke_state]; exact hsteps.trans h⟩
  · exact Or.inr ⟨q, vm₁, B, X₁.warmed, X', hpost, hstep₁ _ fun acts => by rw [doInvoke_state]; exact hsteps⟩
end Calls
theorem vx_cls {s : State} {T : State} {vm₁ : Vm} {E : String} {k : ClassId} (hW : s.WarmedH vm₁) (h : (T.setVm vm₁).vm.findClass E = some k) : s.vm.findClass E = some k := by
  have h1 : vm₁.findClass E = some k := h
  rw [hW.alike.findClass] at h1
  exact h1
/-- the method's frame g, with q thrown over it -/
def vx_W (p : Program) (l : Launch) (e : Env) (R : Room) (s : State) (m : MethodId) (args : Array Value) (below : List Frame) (meth : Method) (c : Code) (H : Heap) (locs : List Loc) (cells slots : Nat) (Q : State → Prop) (g : JFrame) (q : Addr) : Prop :=
  ∀ T : State, T.heap = H → Stand p l e R s m args below meth c T locs cells slots → ∃ t, Steps p.tables e below ((T.setTop g).pushFrame (.throwing q)) t ∧ Q t
def vx_Run (p : Program) (l : Launch) (e : Env) (R : Room) (s : State) (m : MethodId) (args : Array Value) (below : List Frame) (meth : Method) (c : Code) (H : Heap) (locs : List Loc) (cells slots mc ms : Nat) (g : JFrame) (rest : List Value) (Qa : State → Outcome → State → Prop) (XC : String → State → State → Prop) (free : Addr → Prop) : Prop :=
  ∀ T : State, T.heap = H → Stand p l e R s m args below meth c T locs cells slots →
    (∃ (v : Option Value) (st₀ t T' : State) (L : List Loc), st₀.heap = H ∧ Stand p l e R s m args below meth c T' (locs ++ L) (cells + mc) (slots + ms) ∧ (∀ q ∈ L, free q.base) ∧ T'.heap = t.heap ∧ T'.vm = t.vm ∧ Qa st₀ (.returned v) t ∧
      Goes p e below T g T' { g with pc := g.pc + 3, stack := v.toList ++ rest }) ∨
    (∃ (q : Addr) (st₀ t T' : State) (L : List Loc) (E : String) (ce : Cell), st₀.heap = H ∧ Stand p l e R s m args below meth c T' (locs ++ L) (cells + mc) (slots + ms) ∧ (∀ z ∈ L, free z.base) ∧ T'.heap = t.heap ∧ T'.vm = t.vm ∧ XC E st₀ t ∧ t.heap[q]? = some ce ∧ ce.vm = .none ∧ s.vm.findClass E = some ce.cls ∧
      Steps p.tables e below (T.setTop g) ((T'.setTop { g with stack := rest }).pushFrame (.throwing q)))
def vx_X {S : Type} (px : S → Prop) (B : String → S → State → Prop) (A : Nat → Prop) : String → State → State → Prop := fun E st t => ∃ u : S, px u ∧ B E u t ∧ va_F A st t
section Runs
variable {p : Program} {l : Launch} {e : Env} {R : Room} {s : State} {m : MethodId} {args : Array Value} {below : List Frame} {meth : Method} {c : Code} {H : Heap} {locs : List Loc} {cells slots : Nat}
variable {y : MethodName} {bytes cc : ByteArray} {maxL nL mc ms n index : Nat} {ret : Option FieldType} {ws : List Cond} {rm : Room} {Pc : Array Value → State → Prop} {Qc : Array Value → State → Outcome → State → Prop} {XC : String → State → State → Prop} {free : Addr → Prop} {Ts : List Cond} {own C : String} {b : Addr} {As rest : List Value} {g : JFrame}
theorem vx_callBack (cb : CallB R s args own index y bytes maxL ret ws rm mc ms n) (hM : vx_Met l y ws rm Pc Qc XC mc ms free) (hbl : FrameBlind Pc) : vx_Back l R p e below s args y 3 8 (PreOf R mc ms Pc) (PostOf Qc mc ms free) (vx_Post XC mc ms free) := by
  obtain ⟨hrc, hrs, hfr, hlo, hws, hcw, -, hini, -⟩ := cb
  exact vx_back (bytes := bytes) (maxL := maxL) (ret := ret) hM hbl hrc hrs hfr hlo hws hcw (fun a' U hW => word_at hW (Or.inl (by first | rfl | simp [Cond.onTables, Cond.keeps, Cond.steady])) hini)
theorem vx_runV (S : CallFix p m c cc nL s args Ts own) (hM : vx_Met l y ws rm Pc Qc XC mc ms free) (cw : CallW R s args own C index y bytes maxL ret ws rm mc ms n) (hp : PreV s H C b Pc As)
    (hg : g.method = m) (hn : As.length = n) (hsize : g.locals.size = nL) (hstack : g.stack = As.reverse ++ .ref b :: rest) (hW : 2 * g.monitorRoom + (rest.map fun v => v.category).sum ≤ 8) (hdg : decode cc g.pc = .ok (.invokevirtual index, 3)) (hf : cells + mc ≤ R.cells ∧ slots + ms ≤ R.slots) :
    vx_Run p l e R s m args below meth c H locs cells slots mc ms g rest (Qc (Value.ref b :: As).toArray) XC free := by
  have hK : vx_Back l R p e below s args y 3 8 (PreOf R mc ms Pc) (PostOf Qc mc ms free) (vx_Post XC mc ms free) := vx_callBack cw.1 hM hp.1
  obtain ⟨⟨-, -, -, -, -, -, hcode, -, hy, hlen, hl⟩, hin, hse⟩ := cw
  obtain ⟨hx, hb, hml, ho, -⟩ := S
  obtain ⟨-, ⟨cellB, hcB, hoB, hclB⟩, hPc⟩ := hp
  intro T hT X
  rcases vx_callV X hx (C := C) (bytes := bytes) (maxL := maxL) (ret := ret) ho hl hin hse hcode hy hK (by rw [hT]; exact hcB) hoB hclB hg (hsize.trans hml.symm) (argsL := As) (rest := rest) (fun sig h => hn.trans (hlen sig h)) hstack hW (by rw [hb]; exact hdg)
    (fun vm₁ hW₁ => ⟨hf.1, hf.2, hPc (T.setVm vm₁) hT hW₁⟩) with ⟨v, vm₁, ⟨U', l2, c2, s2⟩, hW₁, X', ⟨g', mk, t, L, e1, e2, hq, h1, hL, h2, h3⟩, st⟩ | ⟨q, vm₁, ⟨U', l2, c2, s2⟩, hW₁, X', ⟨g', mk, t, L, E, ce, e1, e2, hq, hce, hcv, hcl, h1, hL, h2, h3⟩, st⟩
  · dsimp only [Pt.U, Pt.locs, Pt.cells, Pt.slots] at X' e1 e2 h1 h2 h3 st
    subst h1; subst h2; subst h3
    exact Or.inl ⟨v, (T.setVm vm₁).calling g' mk (Value.ref b :: As).toArray, t, U', L, hT, X', hL, e1, e2, hq, st⟩
  · dsimp only [Pt.U, Pt.locs, Pt.cells, Pt.slots] at X' e1 e2 h1 h2 h3 st hcl
    subst h1; subst h2; subst h3
    exact Or.inr ⟨q, (T.setVm vm₁).calling g' mk (Value.ref b :: As).toArray, t, U', L, E, ce, hT, X', hL, e1, e2, hq, hce, hcv, vx_cls hW₁ hcl, st⟩
theorem vx_runS (S : CallFix p m c cc nL s args Ts own) (hM : vx_Met l y ws rm Pc Qc XC mc ms free) (cw : CallB R s args own index y bytes maxL ret ws rm mc ms n ∧ (Cond.static y).before args s = true) (hp : PreS s H Pc As)
    (hg : g.method = m) (hn : As.length = n) (hsize : g.locals.size = nL) (hstack : g.stack = As.reverse ++ rest) (hW : 2 * g.monitorRoom + (rest.map fun v => v.category).sum ≤ 8) (hdg : decode cc g.pc = .ok (.invokestatic index, 3)) (hf : cells + mc ≤ R.cells ∧ slots + ms ≤ R.slots) :
    vx_Run p l e R s m args below meth c H locs cells slots mc ms g rest (Qc As.toArray) XC free := by
  have hK : vx_Back l R p e below s args y 3 8 (PreOf R mc ms Pc) (PostOf Qc mc ms free) (vx_Post XC mc ms free) := vx_callBack cw.1 hM hp.1
  obtain ⟨⟨-, -, -, -, -, -, hcode, hini, hy, hlen, hl⟩, hstt⟩ := cw
  obtain ⟨hx, hb, hml, ho, -⟩ := S
  intro T hT X
  rcases vx_callS X hx (bytes := bytes) (maxL := maxL) (ret := ret) ho hl hstt hini hcode hy hK hg (hsize.trans hml.symm) (argsL := As) (rest := rest) (fun sig h => hn.trans (hlen sig h)) hstack hW (by rw [hb]; exact hdg)
    (fun vm₁ hW₁ => ⟨hf.1, hf.2, hp.2 (T.setVm vm₁) hT hW₁⟩) with ⟨v, vm₁, ⟨U', l2, c2, s2⟩, hW₁, X', ⟨g', mk, t, L, e1, e2, hq, h1, hL, h2, h3⟩, st⟩ | ⟨q, vm₁, ⟨U', l2, c2, s2⟩, hW₁, X', ⟨g', mk, t, L, E, ce, e1, e2, hq, hce, hcv, hcl, h1, hL, h2, h3⟩, st⟩
  · dsimp only [Pt.U, Pt.locs, Pt.cells, Pt.slots] at X' e1 e2 h1 h2 h3 st
    subst h1; subst h2; subst h3
    exact Or.inl ⟨v, (T.setVm vm₁).calling g' mk As.toArray, t, U', L, hT, X', hL, e1, e2, hq, st⟩
  · dsimp only [Pt.U, Pt.locs, Pt.cells, Pt.slots] at X' e1 e2 h1 h2 h3 st hcl
    subst h1; subst h2; subst h3
    exact Or.inr ⟨q, (T.setVm vm₁).calling g' mk As.toArray, t, U', L, E, ce, hT, X', hL, e1, e2, hq, hce, hcv, vx_cls hW₁ hcl, st⟩
end Runs
section Rows
variable {p : Program} {l : Launch} {e : Env} {R : Room} {s : State} {m : MethodId} {args : Array Value} {below : List Frame} {meth : Method} {c : Code} {H : Heap} {locs : List Loc} {cells slots : Nat} {Q : State → Prop}
variable {mc ms : Nat} {free : Addr → Prop} {A0 A1 : Nat → Prop} {H0 : Heap} {a : Array Value} {pc : Nat} {ls : Array Slot} {st0 rest : List Value}
theorem vx_keep {st₀ t T' : State} {L : List Loc} (h0 : st₀.heap = H) (e1 : T'.heap = t.heap) (hS : va_S A0 H0 H locs) (hA : ∀ q, q < H.size → A1 q → A0 q) (hf : ∀ q, free q → A0 q) (hL : ∀ q ∈ L, free q.base) (hF : va_F A1 st₀ t) :
    H.size ≤ T'.heap.size ∧ (∀ q : Nat, q < H.size → ¬ A1 q → T'.heap[q]? = H[q]?) ∧ va_S A0 H0 T'.heap (locs ++ L) := by
  obtain ⟨hz, hk⟩ := hF
  rw [h0] at hz hk
  exact ⟨by rw [e1]; exact hz, fun q h1 h2 => by rw [e1]; exact hk q h1 h2,
    ⟨Nat.le_trans hS.1 (by rw [e1]; exact hz), fun q h1 h2 => by rw [e1, hk q (Nat.lt_of_lt_of_le h1 hS.1) (fun z => h2 (hA q (Nat.lt_of_lt_of_le h1 hS.1) z))]; exact hS.2.1 q h1 h2, fun q hq => by
      rcases List.mem_append.mp hq with h | h
      · exact hS.2.2 q h
      · exact hf _ (hL q h)⟩⟩
theorem vx_calli {S SX : Type} {post : Int32 → S → Prop} {px : SX → Prop} {B : S → State → Prop} {BX : String → SX → State → Prop} {AX : Nat → Prop} (hr : vx_Run p l e R s m args below meth c H locs cells slots mc ms (F0 m pc ls st0) rest (va_Qi post B A1 a) (vx_X px BX AX) free) (hS : va_S A0 H0 H locs) (hA : ∀ q, q < H.size → A1 q → A0 q) (hf : ∀ q, free q → A0 q) (hAX : ∀ q, q < H.size → AX q → A0 q)
    (kx : ∀ (E : String) (ce : Cell) (q9 : Addr) (u : SX) (t : State) (H1 : Heap) (locs1 : List Loc), t.heap = H1 → s.vm.Alike t.vm → px u → BX E u t → H.size ≤ H1.size → (∀ q : Nat, q < H.size → ¬ AX q → H1[q]? = H[q]?) → va_S A0 H0 H1 locs1 → H1[q9]? = some ce → ce.vm = .none → s.vm.findClass E = some ce.cls → vx_W p l e R s m args below meth c H1 locs1 (cells + mc) (slots + ms) Q (F0 m pc ls rest) q9)
    (kk : ∀ (r : Int32) (u : S) (t : State) (H1 : Heap) (locs1 : List Loc), t.heap = H1 → s.vm.Alike t.vm → post r u → B u t → H.size ≤ H1.size → (∀ q : Nat, q < H.size → ¬ A1 q → H1[q]? = H[q]?) → va_S A0 H0 H1 locs1 → W p l e R s m args below meth c H1 locs1 (cells + mc) (slots + ms) Q (F0 m (pc + 3) ls (.int r :: rest))) : W p l e R s m args below meth c H locs cells slots Q (F0 m pc ls st0) := by
  intro T hT X
  rcases hr T hT X with ⟨v, st₀, t, T', L, h0, X', hL, e1, e2, ⟨⟨r, u, hv, hp, hb⟩, hF⟩, st⟩ | ⟨q, st₀, t, T', L, E, ce, h0, X', hL, e1, e2, ⟨u, hp, hb, hF⟩, hce, hcv, hcl, st⟩
  · cases hv
    obtain ⟨k1, k2, k3⟩ := vx_keep h0 e1 hS hA hf hL hF
    obtain ⟨t2, a1, b1⟩ := kk r u t T'.heap (locs ++ L) e1.symm (by rw [← e2]; exact X'.warmed.alike) hp hb k1 k2 k3 T' rfl X'
    exact ⟨t2, st t2 a1, b1⟩
  · obtain ⟨k1, k2, k3⟩ := vx_keep h0 e1 hS hAX hf hL hF
    obtain ⟨t2, a1, b1⟩ := kx E ce q u t T'.heap (locs ++ L) e1.symm (by rw [← e2]; exact X'.warmed.alike) hp hb k1 k2 k3 (by rw [e1]; exact hce) hcv hcl T' rfl X'
    exact ⟨t2, st.trans a1, b1⟩
theorem vx_calll {S SX : Type} {post : Int64 → S → Prop} {px : SX → Prop} {B : S → State → Prop} {BX : String → SX → State → Prop} {AX : Nat → Prop} (hr : vx_Run p l e R s m args below meth c H locs cells slots mc ms (F0 m pc ls st0) rest (va_Ql post B A1 a) (vx_X px BX AX) free) (hS : va_S A0 H0 H locs) (hA : ∀ q, q < H.size → A1 q → A0 q) (hf : ∀ q, free q → A0 q) (hAX : ∀ q, q < H.size → AX q → A0 q)
    (kx : ∀ (E : String) (ce : Cell) (q9 : Addr) (u : SX) (t : State) (H1 : Heap) (locs1 : List Loc), t.heap = H1 → s.vm.Alike t.vm → px u → BX E u t → H.size ≤ H1.size → (∀ q : Nat, q < H.size → ¬ AX q → H1[q]? = H[q]?) → va_S A0 H0 H1 locs1 → H1[q9]? = some ce → ce.vm = .none → s.vm.findClass E = some ce.cls → vx_W p l e R s m args below meth c H1 locs1 (cells + mc) (slots + ms) Q (F0 m pc ls rest) q9)
    (kk : ∀ (r : Int64) (u : S) (t : State) (H1 : Heap) (locs1 : List Loc), t.heap = H1 → s.vm.Alike t.vm → post r u → B u t → H.size ≤ H1.size → (∀ q : Nat, q < H.size → ¬ A1 q → H1[q]? = H[q]?) → va_S A0 H0 H1 locs1 → W p l e R s m args below meth c H1 locs1 (cells + mc) (slots + ms) Q (F0 m (pc + 3) ls (.long r :: rest))) : W p l e R s m args below meth c H locs cells slots Q (F0 m pc ls st0) := by
  intro T hT X
  rcases hr T hT X with ⟨v, st₀, t, T', L, h0, X', hL, e1, e2, ⟨⟨r, u, hv, hp, hb⟩, hF⟩, st⟩ | ⟨q, st₀, t, T', L, E, ce, h0, X', hL, e1, e2, ⟨u, hp, hb, hF⟩, hce, hcv, hcl, st⟩
  · cases hv
    obtain ⟨k1, k2, k3⟩ := vx_keep h0 e1 hS hA hf hL hF
    obtain ⟨t2, a1, b1⟩ := kk r u t T'.heap (locs ++ L) e1.symm (by rw [← e2]; exact X'.warmed.alike) hp hb k1 k2 k3 T' rfl X'
    exact ⟨t2, st t2 a1, b1⟩
  · obtain ⟨k1, k2, k3⟩ := vx_keep h0 e1 hS hAX hf hL hF
    obtain ⟨t2, a1, b1⟩ := kx E ce q u t T'.heap (locs ++ L) e1.symm (by rw [← e2]; exact X'.warmed.alike) hp hb k1 k2 k3 (by rw [e1]; exact hce) hcv hcl T' rfl X'
    exact ⟨t2, st.trans a1, b1⟩
theorem vx_callf {S SX : Type} {post : UInt32 → S → Prop} {px : SX → Prop} {B : S → State → Prop} {BX : String → SX → State → Prop} {AX : Nat → Prop} (hr : vx_Run p l e R s m args below meth c H locs cells slots mc ms (F0 m pc ls st0) rest (va_Qf post B A1 a) (vx_X px BX AX) free) (hS : va_S A0 H0 H locs) (hA : ∀ q, q < H.size → A1 q → A0 q) (hf : ∀ q, free q → A0 q) (hAX : ∀ q, q < H.size → AX q → A0 q)
    (kx : ∀ (E : String) (ce : Cell) (q9 : Addr) (u : SX) (t : State) (H1 : Heap) (locs1 : List Loc), t.heap = H1 → s.vm.Alike t.vm → px u → BX E u t → H.size ≤ H1.size → (∀ q : Nat, q < H.size → ¬ AX q → H1[q]? = H[q]?) → va_S A0 H0 H1 locs1 → H1[q9]? = some ce → ce.vm = .none → s.vm.findClass E = some ce.cls → vx_W p l e R s m args below meth c H1 locs1 (cells + mc) (slots + ms) Q (F0 m pc ls rest) q9)
    (kk : ∀ (r : UInt32) (u : S) (t : State) (H1 : Heap) (locs1 : List Loc), t.heap = H1 → s.vm.Alike t.vm → post r u → B u t → H.size ≤ H1.size → (∀ q : Nat, q < H.size → ¬ A1 q → H1[q]? = H[q]?) → va_S A0 H0 H1 locs1 → W p l e R s m args below meth c H1 locs1 (cells + mc) (slots + ms) Q (F0 m (pc + 3) ls (.float r :: rest))) : W p l e R s m args below meth c H locs cells slots Q (F0 m pc ls st0) := by
  intro T hT X
  rcases hr T hT X with ⟨v, st₀, t, T', L, h0, X', hL, e1, e2, ⟨⟨r, u, hv, hp, hb⟩, hF⟩, st⟩ | ⟨q, st₀, t, T', L, E, ce, h0, X', hL, e1, e2, ⟨u, hp, hb, hF⟩, hce, hcv, hcl, st⟩
  · cases hv
    obtain ⟨k1, k2, k3⟩ := vx_keep h0 e1 hS hA hf hL hF
    obtain ⟨t2, a1, b1⟩ := kk r u t T'.heap (locs ++ L) e1.symm (by rw [← e2]; exact X'.warmed.alike) hp hb k1 k2 k3 T' rfl X'
    exact ⟨t2, st t2 a1, b1⟩
  · obtain ⟨k1, k2, k3⟩ := vx_keep h0 e1 hS hAX hf hL hF
    obtain ⟨t2, a1, b1⟩ := kx E ce q u t T'.heap (locs ++ L) e1.symm (by rw [← e2]; exact X'.warmed.alike) hp hb k1 k2 k3 (by rw [e1]; exact hce) hcv hcl T' rfl X'
    exact ⟨t2, st.trans a1, b1⟩
theorem vx_calld {S SX : Type} {post : UInt64 → S → Prop} {px : SX → Prop} {B : S → State → Prop} {BX : String → SX → State → Prop} {AX : Nat → Prop} (hr : vx_Run p l e R s m args below meth c H locs cells slots mc ms (F0 m pc ls st0) rest (va_Qd post B A1 a) (vx_X px BX AX) free) (hS : va_S A0 H0 H locs) (hA : ∀ q, q < H.size → A1 q → A0 q) (hf : ∀ q, free q → A0 q) (hAX : ∀ q, q < H.size → AX q → A0 q)
    (kx : ∀ (E : String) (ce : Cell) (q9 : Addr) (u : SX) (t : State) (H1 : Heap) (locs1 : List Loc), t.heap = H1 → s.vm.Alike t.vm → px u → BX E u t → H.size ≤ H1.size → (∀ q : Nat, q < H.size → ¬ AX q → H1[q]? = H[q]?) → va_S A0 H0 H1 locs1 → H1[q9]? = some ce → ce.vm = .none → s.vm.findClass E = some ce.cls → vx_W p l e R s m args below meth c H1 locs1 (cells + mc) (slots + ms) Q (F0 m pc ls rest) q9)
    (kk : ∀ (r : UInt64) (u : S) (t : State) (H1 : Heap) (locs1 : List Loc), t.heap = H1 → s.vm.Alike t.vm → post r u → B u t → H.size ≤ H1.size → (∀ q : Nat, q < H.size → ¬ A1 q → H1[q]? = H[q]?) → va_S A0 H0 H1 locs1 → W p l e R s m args below meth c H1 locs1 (cells + mc) (slots + ms) Q (F0 m (pc + 3) ls (.double r :: rest))) : W p l e R s m args below meth c H locs cells slots Q (F0 m pc ls st0) := by
  intro T hT X
  rcases hr T hT X with ⟨v, st₀, t, T', L, h0, X', hL, e1, e2, ⟨⟨r, u, hv, hp, hb⟩, hF⟩, st⟩ | ⟨q, st₀, t, T', L, E, ce, h0, X', hL, e1, e2, ⟨u, hp, hb, hF⟩, hce, hcv, hcl, st⟩
  · cases hv
    obtain ⟨k1, k2, k3⟩ := vx_keep h0 e1 hS hA hf hL hF
    obtain ⟨t2, a1, b1⟩ := kk r u t T'.heap (locs ++ L) e1.symm (by rw [← e2]; exact X'.warmed.alike) hp hb k1 k2 k3 T' rfl X'
    exact ⟨t2, st t2 a1, b1⟩
  · obtain ⟨k1, k2, k3⟩ := vx_keep h0 e1 hS hAX hf hL hF
    obtain ⟨t2, a1, b1⟩ := kx E ce q u t T'.heap (locs ++ L) e1.symm (by rw [← e2]; exact X'.warmed.alike) hp hb k1 k2 k3 (by rw [e1]; exact hce) hcv hcl T' rfl X'
    exact ⟨t2, st.trans a1, b1⟩
theorem vx_callv {S SX : Type} {post : S → Prop} {px : SX → Prop} {B : S → State → Prop} {BX : String → SX → State → Prop} {AX : Nat → Prop} (hr : vx_Run p l e R s m args below meth c H locs cells slots mc ms (F0 m pc ls st0) rest (va_Qv post B A1 a) (vx_X px BX AX) free) (hS : va_S A0 H0 H locs) (hA : ∀ q, q < H.size → A1 q → A0 q) (hf : ∀ q, free q → A0 q) (hAX : ∀ q, q < H.size → AX q → A0 q)
    (kx : ∀ (E : String) (ce : Cell) (q9 : Addr) (u : SX) (t : State) (H1 : Heap) (locs1 : List Loc), t.heap = H1 → s.vm.Alike t.vm → px u → BX E u t → H.size ≤ H1.size → (∀ q : Nat, q < H.size → ¬ AX q → H1[q]? = H[q]?) → va_S A0 H0 H1 locs1 → H1[q9]? = some ce → ce.vm = .none → s.vm.findClass E = some ce.cls → vx_W p l e R s m args below meth c H1 locs1 (cells + mc) (slots + ms) Q (F0 m pc ls rest) q9)
    (kk : ∀ (u : S) (t : State) (H1 : Heap) (locs1 : List Loc), t.heap = H1 → s.vm.Alike t.vm → post u → B u t → H.size ≤ H1.size → (∀ q : Nat, q < H.size → ¬ A1 q → H1[q]? = H[q]?) → va_S A0 H0 H1 locs1 → W p l e R s m args below meth c H1 locs1 (cells + mc) (slots + ms) Q (F0 m (pc + 3) ls (rest))) : W p l e R s m args below meth c H locs cells slots Q (F0 m pc ls st0) := by
  intro T hT X
  rcases hr T hT X with ⟨v, st₀, t, T', L, h0, X', hL, e1, e2, ⟨⟨u, hv, hp, hb⟩, hF⟩, st⟩ | ⟨q, st₀, t, T', L, E, ce, h0, X', hL, e1, e2, ⟨u, hp, hb, hF⟩, hce, hcv, hcl, st⟩
  · cases hv
    obtain ⟨k1, k2, k3⟩ := vx_keep h0 e1 hS hA hf hL hF
    obtain ⟨t2, a1, b1⟩ := kk u t T'.heap (locs ++ L) e1.symm (by rw [← e2]; exact X'.warmed.alike) hp hb k1 k2 k3 T' rfl X'
    exact ⟨t2, st t2 a1, b1⟩
  · obtain ⟨k1, k2, k3⟩ := vx_keep h0 e1 hS hAX hf hL hF
    obtain ⟨t2, a1, b1⟩ := kx E ce q u t T'.heap (locs ++ L) e1.symm (by rw [← e2]; exact X'.warmed.alike) hp hb k1 k2 k3 (by rw [e1]; exact hce) hcv hcl T' rfl X'
    exact ⟨t2, st.trans a1, b1⟩
/-- caught by the row x of this method's table; the rows ahead don't take it -/
theorem vx_catch {own name : String} {E : String} {ce : Cell} {q : Addr} (hown : s.vm.findClass own = some m.cls) (pre : List ExceptionTableEntry) (x : ExceptionTableEntry) (suf : List ExceptionTableEntry) (hsplit : c.exceptionTable.toList = pre ++ x :: suf)
    (hpass : ∀ z ∈ pre, covers z pc = false ∨ (z.catchType ≠ 0 ∧ ∃ nm : String, (Cond.classLink own z.catchType nm).before args s = true ∧ va_Nc E nm s)) (hx : covers x pc = true) (h0 : x.catchType ≠ 0)
    (hlink : (Cond.classLink own x.catchType name).before args s = true) (hcast : (Cond.castable E name).before args s = true) (hcell : H[q]? = some ce) (hv : ce.vm = .none) (hcl : s.vm.findClass E = some ce.cls)
    (kk : W p l e R s m args below meth c H locs cells slots Q (F0 m x.handlerPc ls [.ref q])) : vx_W p l e R s m args below meth c H locs cells slots Q (F0 m pc ls rest) q := by
  intro T hT X
  have hpl : e.platform.magicAccessors = ({} : Platform).magicAccessors := by rw [X.admits.platform]
  obtain ⟨c3, c4, hc3, hc4, hasg⟩ := Cond.castable_spec hcast
  cases Option.some.inj (hc3.symm.trans hcl)
  obtain ⟨c5, hc5, hcl5⟩ := Cond.classLink_spec hown hlink e.platform hpl
  cases Option.some.inj (hc4.symm.trans hc5)
  obtain ⟨vm', X', st⟩ := X.thenCaughtThrough q (g := F0 m pc ls rest) rfl (Steps.refl _) (by rw [hT]; exact hcell) (by rw [hv]; rfl) (by obtain ⟨k9, h9, -⟩ := Vm.findClass_spec hcl; exact ⟨k9, h9⟩) pre x suf hsplit
    (fun z hz => by
      rcases hpass z hz with h | ⟨hz0, nm, hl1, hn1⟩
      · exact Or.inl h
      · obtain ⟨c6, hc6, hcl6⟩ := Cond.classLink_spec hown hl1 e.platform hpl
        obtain ⟨a8, b8, h1, h2, h3⟩ := hn1
        cases Option.some.inj (h1.symm.trans hcl)
        cases Option.some.inj (h2.symm.trans hc6)
        exact Or.inr ⟨hz0, _, hcl6, h3⟩) hx (Or.inr ⟨h0, c4, hcl5, hasg⟩)
  obtain ⟨t, a1, b1⟩ := kk (T.setVm vm') hT X'
  exact ⟨t, st.trans a1, b1⟩
end Rows
section Ends
variable {p : Program} {l : Launch} {e : Env} {R : Room} {s : State} {m : MethodId} {args : Array Value} {below : List Frame} {meth : Method} {c : Code} {H : Heap} {locs : List Loc} {cells slots : Nat} {Q : State → Prop}
variable {mc ms : Nat} {free : Addr → Prop} {A0 A1 : Nat → Prop} {H0 : Heap} {a : Array Value} {ls : Array Slot} {st0 rest : List Value}
variable {Qc : Array Value → State → Outcome → State → Prop} {XC : String → State → State → Prop}
/-- what a body that may throw owes at its end -/
def vx_MQ (below : List Frame) (Qc : Array Value → State → Outcome → State → Prop) (XC : String → State → State → Prop) (a : Array Value) (s : State) (mc ms : Nat) (free : Addr → Prop) : State → Prop := fun t =>
  ∃ o, t.status = .running ∧ Ended t below o ∧ vx_Q Qc XC mc ms free a s o t
theorem vx_ret {g : JFrame} {mc ms : Nat} (k : W p l e R s m args below meth c H locs cells slots (MQ below Qc args s mc ms free) g) : W p l e R s m args below meth c H locs cells slots (vx_MQ below Qc XC args s mc ms free) g := by
  intro T hT X
  obtain ⟨t, a1, o, b1, b2, b3, b4⟩ := k T hT X
  exact ⟨t, a1, o, b1, b2, Or.inl ⟨b3, b4⟩⟩
/-- not caught here: it goes on to the caller -/
theorem vx_widen {g : JFrame} {q : Addr} {k n : Nat} (h1 : cells ≤ k) (h2 : slots ≤ n) (kk : vx_W p l e R s m args below meth c H locs k n Q g q) : vx_W p l e R s m args below meth c H locs cells slots Q g q := fun T hT X => kk T hT (stand_widen X h1 h2)
theorem vx_out {pc : Nat} {E : String} {ce : Cell} {q : Addr} {mc ms : Nat} (hout : ∀ x ∈ c.exceptionTable.toList, covers x pc = false) (hlocks : meth.locks = false) (hcell : H[q]? = some ce) (hv : ce.vm = .none) (hcl : s.vm.findClass E = some ce.cls)
    (hx : ∀ t : State, t.heap = H → s.vm.Alike t.vm → XC E s t) (hf : ∀ z ∈ locs, free z.base) (hc : cells ≤ mc) (hs : slots ≤ ms) :
    vx_W p l e R s m args below meth c H locs cells slots (vx_MQ below Qc XC args s mc ms free) (F0 m pc ls rest) q := by
  intro T hT X
  obtain ⟨st1, hrun, hend, hW, hsm⟩ := X.leaveThrown q (g := F0 m pc ls rest) rfl rfl rfl hout hlocks
  have hcell9 : (T.setFrames (.throwing q :: below)).heap[q]? = some ce := by
    show T.heap[q]? = some ce
    rw [hT]; exact hcell
  exact ⟨_, st1, .threw q, hrun, hend, Or.inr ⟨q, rfl, E, ce, locs, hx _ hT hW.alike, hcell9, hv, hcl, hW, hsm.mono hc hs, hf⟩⟩
theorem vx_frame {U : State} {k n : Nat} (h : s.sameButNew ({ U with vm := s.vm } : State) locs k n) : s.heap.size ≤ U.heap.size ∧ ∀ q : Nat, q < s.heap.size → (∀ z ∈ locs, z.base ≠ q) → U.heap[q]? = s.heap[q]? := by
  obtain ⟨-, h2, -, -, -, h6⟩ := h
  refine ⟨h2, fun q hq hz => ?_⟩
  obtain ⟨c9, e1, e2, e3, e4⟩ := h6 q _ (Array.getElem?_eq_getElem hq)
  have hs : c9.slots = (s.heap[q]).slots := Array.ext_getElem? fun i => e4 i fun hm => hz _ hm rfl
  have h9 : c9 = s.heap[q] := by
    rw [hs] at e2
    exact e2
  have e5 : U.heap[q]? = some c9 := e1
  rw [e5, h9, Array.getElem?_eq_getElem hq]
/-- the words of a throw but the four that speak of the heap -/
def vx_no (w : Cond) : Bool := decide (w ≠ .isRef (.static Bundle.tN "UNASSIGNED_STACK" Bundle.steD)) && decide (w ≠ .isRef (.static Bundle.tN "SUPPRESSED_SENTINEL" Bundle.listD)) && decide (w ≠ .laysStatic Bundle.tN "UNASSIGNED_STACK" Bundle.steD) && decide (w ≠ .laysStatic Bundle.tN "SUPPRESSED_SENTINEL" Bundle.listD)
def vx_at0 (own : String) (ic : Nat) (X : String) (names : List String) : List Cond := (Bundle.ownAtoms0 own ic X names).filter vx_no
def vx_atS (own : String) (ic : Nat) (X : String) (names : List String) : List Cond := (Bundle.ownAtoms own ic X names).filter vx_no
/-- a word that the tables alone decide, or a good one -/
def vx_ot (w : Cond) : Bool := w.onTables || goodWord w
theorem vx_ot_at {args a' : Array Value} {s U : State} {w : Cond} (hW : s.WarmedH U.vm) (hvm : s.vm = U.vm) (hg : vx_ot w = true) (h : w.before args s = true) : w.before a' U = true := by
  simp only [vx_ot, Bool.or_eq_true] at hg
  rcases hg with hg | hg
  · exact va_tabs hg hvm h
  · exact word_at hW (good_of_word hg) h
/-- a list's words: the good ones out of the method's own list, the others by premises of their own -/
theorem vx_hat {args : Array Value} {s : State} {L B : List Cond} (h1 : ∀ w ∈ L.filter goodWord, w.before args s = true) (h2 : ∀ w ∈ L.filter (fun w => !goodWord w), w ∈ B) (h3 : ∀ w ∈ B, w.before args s = true) : ∀ w ∈ L, w.before args s = true := by
  intro w hw
  by_cases g : goodWord w = true
  · exact h1 w (List.mem_filter.mpr ⟨hw, g⟩)
  · refine h3 w (h2 w (List.mem_filter.mpr ⟨hw, ?_⟩))
    show (!goodWord w) = true
    cases hgw : goodWord w
    · rfl
    · exact absurd hgw g
theorem vx_c {args : Array Value} {s : State} {w : Cond} {B : List Cond} (h : w.before args s = true) (t : ∀ w ∈ B, w.before args s = true) : ∀ w' ∈ w :: B, w'.before args s = true := fun w' h' => (List.mem_cons.mp h').elim (fun e => by rw [e]; exact h) (t w')
theorem vx_n {args : Array Value} {s : State} : ∀ w ∈ ([] : List Cond), w.before args s = true := fun _ h => nomatch h
theorem vx_own {args : Array Value} {s : State} {L : List Cond} (h1 : ∀ w ∈ L.filter vx_no, w.before args s = true)
    (hU : (Cond.isRef (.static Bundle.tN "UNASSIGNED_STACK" Bundle.steD)).before args s = true) (hN : (Cond.isRef (.static Bundle.tN "SUPPRESSED_SENTINEL" Bundle.listD)).before args s = true)
    (lU : (Cond.laysStatic Bundle.tN "UNASSIGNED_STACK" Bundle.steD).before args s = true) (lN : (Cond.laysStatic Bundle.tN "SUPPRESSED_SENTINEL" Bundle.listD).before args s = true) : ∀ w ∈ L, w.before args s = true := by
  intro w hw
  by_cases e1 : w = .isRef (.static Bundle.tN "UNASSIGNED_STACK" Bundle.steD)
  · rw [e1]; exact hU
  · by_cases e2 : w = .isRef (.static Bundle.tN "SUPPRESSED_SENTINEL" Bundle.listD)
    · rw [e2]; exact hN
    · by_cases e3 : w = .laysStatic Bundle.tN "UNASSIGNED_STACK" Bundle.steD
      · rw [e3]; exact lU
      · by_cases e4 : w = .laysStatic Bundle.tN "SUPPRESSED_SENTINEL" Bundle.listD
        · rw [e4]; exact lN
        · exact h1 w (List.mem_filter.mpr ⟨hw, by unfold vx_no; rw [decide_eq_true e1, decide_eq_true e2, decide_eq_true e3, decide_eq_true e4]; rfl⟩)
/-- where a static field lies, its class's statics cell in H -/
def vx_L (C n d : String) (A : Nat → Prop) (U : State) (H : Heap) : Prop := ∃ (c : ClassId) (k : Class) (i : Nat) (f : Field) (a : Nat) (cell : Cell), U.vm.findClass C = some c ∧ U.fieldFound? C n d = some (c, k, i, f) ∧ f.isStatic = true ∧ k.statics = some a ∧ H[a]? = some cell ∧ cell.vm.isStatics = true ∧ cell.cls = c ∧ f.slot < cell.slots.size ∧ k.staticTypes[f.slot]? = some f.type ∧ ¬ A a
theorem vx_L.moved {C n d : String} {A : Nat → Prop} {u U : State} {H : Heap} (hvm : u.vm.Alike U.vm) (h : vx_L C n d A u H) : vx_L C n d A U H := by
  obtain ⟨c, k, i, f, a, cell, h1, h2, h3, h4, h5, h6, h7, h8, h9, h10⟩ := h
  obtain ⟨k', hi', he⟩ := State.fieldFound?_setVm hvm h2
  exact ⟨c, k', i, f, a, cell, by rw [hvm.findClass]; exact h1, hi', h3, by rw [he]; exact h4, h5, h6, h7, h8, by rw [he]; exact h9, h10⟩
theorem vx_L.kept {C n d : String} {A : Nat → Prop} {U : State} {H H1 : Heap} (h : vx_L C n d A U H) (hq : ∀ a : Nat, a < H.size → ¬ A a → H1[a]? = H[a]?) : vx_L C n d A U H1 := by
  obtain ⟨c, k, i, f, a, cell, h1, h2, h3, h4, h5, h6, h7, h8, h9, h10⟩ := h
  exact ⟨c, k, i, f, a, cell, h1, h2, h3, h4, by rw [hq a (Array.getElem?_eq_some_iff.mp h5).1 h10]; exact h5, h6, h7, h8, h9, h10⟩
theorem vx_L.narrow {C n d : String} {A B : Nat → Prop} {U : State} {H : Heap} (h : vx_L C n d A U H) (hAB : ∀ q, B q → A q) : vx_L C n d B U H := by
  obtain ⟨c, k, i, f, a, cell, h1, h2, h3, h4, h5, h6, h7, h8, h9, h10⟩ := h
  exact ⟨c, k, i, f, a, cell, h1, h2, h3, h4, h5, h6, h7, h8, h9, fun z => h10 (hAB _ z)⟩
theorem vx_L.word {C n d : String} {A : Nat → Prop} {s : State} {args : Array Value} (h : vx_L C n d A s s.heap) : (Cond.laysStatic C n d).before args s = true := by
  obtain ⟨c, k, i, f, a, cell, h1, h2, h3, h4, h5, h6, h7, h8, h9, -⟩ := h
  show (Cond.laysStatic C n d).holds args s none s [] = true
  exact Cond.laysStatic_of h1 h2 h3 h4 h5 h6 h7 h8 h9
/-- .. and what it holds: null or some reference -/
def vx_Zq (C n d : String) (A : Nat → Prop) (U : State) (H : Heap) : Prop := va_Zq C n d A U H ∧ vx_L C n d A U H
theorem vx_Zq.moved {C n d : String} {A : Nat → Prop} {u U : State} {H : Heap} (hvm : u.vm.Alike U.vm) (h : vx_Zq C n d A u H) : vx_Zq C n d A U H := ⟨va_Zq.moved hvm h.1, vx_L.moved hvm h.2⟩
theorem vx_Zq.kept {C n d : String} {A : Nat → Prop} {U : State} {H H1 : Heap} (h : vx_Zq C n d A U H) (hq : ∀ a : Nat, a < H.size → ¬ A a → H1[a]? = H[a]?) : vx_Zq C n d A U H1 := ⟨va_Zq.kept h.1 hq, vx_L.kept h.2 hq⟩
theorem vx_Zq.narrow {C n d : String} {A B : Nat → Prop} {U : State} {H : Heap} (h : vx_Zq C n d A U H) (hAB : ∀ q, B q → A q) : vx_Zq C n d B U H := ⟨va_Zq.narrow h.1 hAB, vx_L.narrow h.2 hAB⟩
theorem vx_Zqof {args : Array Value} {s : State} {C n d : String} {A : Nat → Prop} (hl : (Cond.laysStatic C n d).before args s = true) (hini : (Cond.initialized C).before args s = true) (h : (Cond.isRef (.static C n d)).before args s = true) (hA : ∀ a : Nat, a < s.heap.size → ¬ A a) : vx_Zq C n d A s s.heap := by
  refine ⟨va_Zqof hl hini h hA, ?_⟩
  obtain ⟨c, k, i, f, a, cell, h1, h2, h3, h4, h5, h6, h7, h8, h9⟩ := Cond.laysStatic_spec hl
  exact ⟨c, k, i, f, a, cell, h1, h2, h3, h4, h5, h6, h7, h8, h9, hA a (Array.getElem?_eq_some_iff.mp h5).1⟩
theorem vx_isRef {C n d : String} {v : Value} {A : Nat → Prop} {s : State} {args : Array Value} (h : va_Z C n d v A s s.heap) (hv : v.isRef = true) : (Cond.isRef (.static C n d)).before args s = true := by
  obtain ⟨cf, kf, fi, f, a, cell, h1, h2, h3, h4, h5, h6, h7, -⟩ := h
  have he : (Term.static C n d).eval args s none [] s = some v := by
    simp [Term.eval, State.fieldNamed?, h1, h2, h4, h5, h6, h7]
  simp only [Cond.before, Cond.holds, Cond.value, he]
  cases v <;> simp_all [Value.isRef]
theorem vx_isRefq {C n d : String} {A : Nat → Prop} {s : State} {args : Array Value} (h : va_Zq C n d A s s.heap) : (Cond.isRef (.static C n d)).before args s = true := by
  rcases h with h | ⟨t, h⟩
  · exact vx_isRef h rfl
  · exact vx_isRef h rfl
/-- the same frame, seen from here: as if the method were called anew in this heap -/
theorem vx_rebase {T : State} (X : Stand p l e R s m args below meth c T locs cells slots) {R' : Room} (hf : R'.frames ≤ R.frames) (hl : R'.locals ≤ R.locals) (hc : cells + R'.cells ≤ R.cells) (hs : slots + R'.slots ≤ R.slots) :
    Stand p l e R' ((T.setVm s.vm).setFrames (.invoking m args :: below)) m args below meth c T [] 0 0 := by
  have htop : (T.setVm s.vm).topJava?.isSome := X.here.top
  have hF : ((T.setVm s.vm).setFrames (.invoking m args :: below)).frames = .invoking m args :: below := State.frames_setFrames _ (State.cur_lt_of_top htop)
  obtain ⟨g₀, hg0⟩ := Option.isSome_iff_exists.mp htop
  obtain ⟨r, hr⟩ := State.topJava?_eq_some.mp hg0
  have hl9 : e.platform.stackLimits (T.setVm s.vm).me = e.platform.stackLimits s.me := X.limits
  have hb9 : (T.setVm s.vm).me.stackBytes = s.me.stackBytes := X.bytes
  refine ⟨X.admits, X.cas, X.clock, hF, ?_, X.hears, X.method, X.code, X.here, X.tail, X.warmed, ?_, ?_, ?_⟩
  · have h := X.room
    have hU : ((T.setVm s.vm).setFrames (.invoking m args :: below)).localsInUse = s.localsInUse := by
      rw [State.localsInUse_invoking hF (meth := meth) (c := c) X.method X.code, State.localsInUse_invoking X.frames X.method X.code]
    simp only [State.hasRoom, Bool.and_eq_true, decide_eq_true_eq] at h ⊢
    obtain ⟨⟨⟨⟨h1, h2, h3, h4, h5, h6⟩, h7⟩, h8⟩, h9⟩ := h
    rw [X.frames, List.length_cons] at h2 h3
    have q1 := X.heapSize
    have q2 := X.used
    simp only [hF, hU, List.length_cons, State.stackLimits_setFrames, State.stackBytes_setFrames, hl9, hb9]
    refine ⟨⟨⟨⟨by omega, by omega, by omega, by omega, by omega, h6⟩, ?_⟩, ?_⟩, X.book⟩
    · show T.heap.size + R'.cells ≤ e.platform.maxCells
      omega
    · show T.slotsUsed + R'.slots ≤ e.platform.maxSlots
      omega
  · rw [State.stackLimits_setFrames]; rfl
  · rw [State.stackBytes_setFrames]; rfl
  · refine ⟨?_, Nat.le_refl _, Nat.le_refl _, ?_, ?_, fun a c9 h9 => ⟨c9, h9, rfl, rfl, fun _ _ => rfl⟩⟩
    · obtain ⟨t, ht, -⟩ := State.frames_cons hr
      show T.setVm s.vm = { ((T.setVm s.vm).setFrames (.invoking m args :: below)).setFrames (T.setVm s.vm).frames with heap := T.heap, slotsUsed := T.slotsUsed }
      rw [State.setFrames_setFrames, State.setFrames_self ht]
      rfl
    · show T.slotsUsed = T.slotsUsed + ((T.heap.toList.drop T.heap.size).map (·.slots.size)).sum
      rw [List.drop_eq_nil_of_le (Nat.le_of_eq Array.length_toList)]
      rfl
    · show ((T.heap.toList.drop T.heap.size).map (·.slots.size)).sum ≤ 0
      rw [List.drop_eq_nil_of_le (Nat.le_of_eq Array.length_toList)]
      exact Nat.le_refl _
/-- 'throw new E()': new; dup; invokespecial; athrow -/
theorem vx_throw0 {cc : ByteArray} {pc : Nat} (hexec : p.tables.exec = Jvm.exec) (hb : c.code = cc) (hl : l.stackTraces = false) {own cls : String} {names : List String} {ik ic mc ms : Nat} {A : Nat → Prop}
    (hown : s.vm.findClass own = some m.cls) (hcls : Bundle.fit cls = true) (hnames : ∀ n ∈ names, Bundle.fit n = true)
    (hk : (Cond.classLink own ik cls).before args s = true) (hini : (Cond.initialized cls).before args s = true) (hat : ∀ w ∈ vx_at0 own ic cls names, w.before args s = true)
    (hgood : ∀ w ∈ Cond.classLink own ik cls :: Cond.initialized cls :: vx_at0 own ic cls names, vx_ot w = true)
    (hU : vx_Zq Bundle.tN "UNASSIGNED_STACK" Bundle.steD A s s.heap) (hN : vx_Zq Bundle.tN "SUPPRESSED_SENTINEL" Bundle.listD A s s.heap) (hS : va_S A s.heap H locs) (hsize : ls.size = c.maxLocals)
    (d0 : decode cc pc = .ok (.new ik, 3)) (d3 : decode cc (pc + 3) = .ok (.dup, 1)) (d4 : decode cc (pc + 4) = .ok (.invokespecial ic, 3)) (d7 : decode cc (pc + 7) = .ok (.athrow, 1))
    (hout : ∀ x ∈ c.exceptionTable.toList, covers x (pc + 7) = false)
    (hRframes : names.length + 3 < R.frames) (hRlocals : (rest.map fun v => v.category).sum + (13 * (names.length + 1) + 42) ≤ R.locals) (hRcells : cells + 1 ≤ R.cells) (hRslots : slots + 6 ≤ R.slots) (hlocks : meth.locks = false)
    (hx : ∀ t : State, s.vm.Alike t.vm → H.size ≤ t.heap.size → (∀ q : Nat, q < H.size → t.heap[q]? = H[q]?) → XC cls s t)
    (hf : ∀ z ∈ locs, free z.base) (hc : cells + 1 ≤ mc) (hs : slots + 6 ≤ ms) :
    W p l e R s m args below meth c H locs cells slots (vx_MQ below Qc XC args s mc ms free) (F0 m pc ls rest) := by
  intro T hT X
  have htr : e.platform.stackTraces = false := (show e.platform.stackTraces = l.stackTraces by rw [X.admits.platform]).trans hl
  have Y := vx_rebase X (R' := { frames := R.frames, locals := R.locals, cells := 1, slots := 6 }) (Nat.le_refl _) (Nat.le_refl _) hRcells hRslots
  obtain ⟨s', hA⟩ : ∃ z, z = (T.setVm s.vm).setFrames (.invoking m args :: below) := ⟨_, rfl⟩
  rw [← hA] at Y
  have hvm : s'.vm = s.vm := by rw [hA]; rfl
  have hhp : s'.heap = H := by rw [hA]; exact hT
  have hW0 : s.WarmedH s'.vm := by rw [hvm]; exact State.WarmedH.refl s
  have hat' : ∀ w ∈ vx_at0 own ic cls names, w.before args s' = true := fun w hw => vx_ot_at hW0 hvm.symm (hgood w (List.mem_cons_of_mem _ (List.mem_cons_of_mem _ hw))) (hat w hw)
  have hk' : (Cond.classLink own ik cls).before args s' = true := vx_ot_at hW0 hvm.symm (hgood _ List.mem_cons_self) hk
  have hini' : (Cond.initialized cls).before args s' = true := vx_ot_at hW0 hvm.symm (hgood _ (List.mem_cons_of_mem _ List.mem_cons_self)) hini
  have hU' : vx_Zq Bundle.tN "UNASSIGNED_STACK" Bundle.steD A s' s'.heap := by rw [hhp]; exact vx_Zq.moved hW0.alike (hU.kept hS.2.1)
  have hN' : vx_Zq Bundle.tN "SUPPRESSED_SENTINEL" Bundle.listD A s' s'.heap := by rw [hhp]; exact vx_Zq.moved hW0.alike (hN.kept hS.2.1)
  have h : ∀ w ∈ Bundle.ownAtoms0 own ic cls names, w.before args s' = true := vx_own hat' (vx_isRefq hU'.1) (vx_isRefq hN'.1) hU'.2.word hN'.2.word
  have hown' : s'.vm.findClass own = some m.cls := by rw [hvm]; exact hown
  have hins : (Cond.instantiable cls 6).before args s' = true := h _ (by simp [Bundle.ownAtoms0])
  obtain ⟨vm₁, cX, kX, hfX, hkX, -, -, X₁, st1⟩ := Y.newCold hexec (own := own) (C := cls) (index := ik) (n := 6) hown' hk' hins hini'
    (g := F0 m pc ls rest) rfl (by rw [hb]; exact d0) (Nat.le_refl _) (Nat.le_refl _)
  generalize hT1 : (T.setVm vm₁).pushCell { cls := cX, slots := kX.instanceTypes.map defaultValue, vm := .none } = T1 at X₁ st1
  have hcat : (Value.ref T.heap.size).category = 1 := rfl
  have hcellA : T1.heap[T.heap.size]? = some (freshCell cX kX) := by rw [← hT1]; exact State.heap_pushCell_size _ _
  have d3' : decode c.code (pc + 3) = .ok (.dup, 1) := by rw [hb]; exact d3
  obtain ⟨U, hsteps, hrun, hend, hW, hsame, ce, hce, hO⟩ := X₁.ctorThrow0 hexec htr (own := own) (cls := cls) (names := names) (ic := ic) hown' hcls hnames h (fun x hx => nomatch hx) hfX hkX hcellA (by rw [hhp, hT]; exact Nat.le_refl _)
    (g := { method := m, pc := pc + 4, locals := ls, stack := .ref T.heap.size :: .ref T.heap.size :: rest, locked := none }) rfl hsize rfl rfl (rest := rest) rfl
    (by rw [hb]; exact d4) (by rw [hb]; exact d7) hout hRframes (by simp only [List.map_cons, List.sum_cons, hcat]; omega) hlocks
  obtain ⟨f1, f2⟩ := vx_frame hsame
  rw [hhp] at f1 f2
  have hWs : s.WarmedH U.vm := State.WarmedH.trans hW0 hW
  have hcl : s.vm.findClass cls = some ce.cls := by
    have h9 := hO.cls
    rw [hvm] at h9
    exact h9
  have hall : s.sameButNew ({ U with vm := s.vm } : State) locs mc ms := by
    subst hA
    obtain ⟨e1, e2⟩ := hsame
    rw [State.setFrames_setFrames] at e1
    have h2 : (T.setVm s.vm).sameButNew ({ U with vm := s.vm } : State) [] (0 + 1) (0 + 6) := ⟨e1, e2⟩
    have h3 := X.same.trans h2
    rw [List.append_nil] at h3
    exact h3.mono hc hs
  refine ⟨U, ?_, .threw T.heap.size, hrun, hend, Or.inr ⟨T.heap.size, rfl, cls, ce, locs, hx U hWs.alike f1 (fun q hq => f2 q hq (fun z hz => nomatch hz)), hce, hO.vm, hcl, hWs, hall, hf⟩⟩
  refine st1 _ ?_
  show Steps p.tables e below (T1.setTop { method := m, pc := pc + 3, locals := ls, stack := .ref T.heap.size :: rest, locked := none }) _
  jvm_step X₁.here [X₁.here.top, hexec, d3', Value.category]
  exact hsteps
/-- 'throw new E("text")': new; dup; ldc; invokespecial; athrow -/
theorem vx_throwS {cc : ByteArray} {pc : Nat} (hexec : p.tables.exec = Jvm.exec) (hb : c.code = cc) (hl : l.stackTraces = false) {own cls text : String} {names : List String} {ik is ic mc ms sa : Nat} {A : Nat → Prop}
    (hown : s.vm.findClass own = some m.cls) (hcls : Bundle.fit cls = true) (hnames : ∀ n ∈ names, Bundle.fit n = true)
    (hk : (Cond.classLink own ik cls).before args s = true) (hini : (Cond.initialized cls).before args s = true) (hstr : vk_R own is text sa s) (hat : ∀ w ∈ vx_atS own ic cls names, w.before args s = true)
    (hgood : ∀ w ∈ Cond.classLink own ik cls :: Cond.initialized cls :: vx_atS own ic cls names, vx_ot w = true)
    (hU : vx_Zq Bundle.tN "UNASSIGNED_STACK" Bundle.steD A s s.heap) (hN : vx_Zq Bundle.tN "SUPPRESSED_SENTINEL" Bundle.listD A s s.heap) (hS : va_S A s.heap H locs) (hsize : ls.size = c.maxLocals)
    (d0 : decode cc pc = .ok (.new ik, 3)) (d3 : decode cc (pc + 3) = .ok (.dup, 1)) (d4 : decode cc (pc + 4) = .ok (.ldc is, 2)) (d6 : decode cc (pc + 6) = .ok (.invokespecial ic, 3)) (d9 : decode cc (pc + 9) = .ok (.athrow, 1))
    (hout : ∀ x ∈ c.exceptionTable.toList, covers x (pc + 9) = false)
    (hRframes : names.length + 3 < R.frames) (hRlocals : (rest.map fun v => v.category).sum + (13 * (names.length + 1) + 43) ≤ R.locals) (hRcells : cells + 1 ≤ R.cells) (hRslots : slots + 6 ≤ R.slots) (hlocks : meth.locks = false)
    (hx : ∀ t : State, s.vm.Alike t.vm → H.size ≤ t.heap.size → (∀ q : Nat, q < H.size → t.heap[q]? = H[q]?) → XC cls s t)
    (hf : ∀ z ∈ locs, free z.base) (hc : cells + 1 ≤ mc) (hs : slots + 6 ≤ ms) :
    W p l e R s m args below meth c H locs cells slots (vx_MQ below Qc XC args s mc ms free) (F0 m pc ls rest) := by
  intro T hT X
  have htr : e.platform.stackTraces = false := (show e.platform.stackTraces = l.stackTraces by rw [X.admits.platform]).trans hl
  have Y := vx_rebase X (R' := { frames := R.frames, locals := R.locals, cells := 1, slots := 6 }) (Nat.le_refl _) (Nat.le_refl _) hRcells hRslots
  obtain ⟨s', hA⟩ : ∃ z, z = (T.setVm s.vm).setFrames (.invoking m args :: below) := ⟨_, rfl⟩
  rw [← hA] at Y
  have hvm : s'.vm = s.vm := by rw [hA]; rfl
  have hhp : s'.heap = H := by rw [hA]; exact hT
  have hW0 : s.WarmedH s'.vm := by rw [hvm]; exact State.WarmedH.refl s
  have hat' : ∀ w ∈ vx_atS own ic cls names, w.before args s' = true := fun w hw => vx_ot_at hW0 hvm.symm (hgood w (List.mem_cons_of_mem _ (List.mem_cons_of_mem _ hw))) (hat w hw)
  have hk' : (Cond.classLink own ik cls).before args s' = true := vx_ot_at hW0 hvm.symm (hgood _ List.mem_cons_self) hk
  have hini' : (Cond.initialized cls).before args s' = true := vx_ot_at hW0 hvm.symm (hgood _ (List.mem_cons_of_mem _ List.mem_cons_self)) hini
  have hU' : vx_Zq Bundle.tN "UNASSIGNED_STACK" Bundle.steD A s' s'.heap := by rw [hhp]; exact vx_Zq.moved hW0.alike (hU.kept hS.2.1)
  have hN' : vx_Zq Bundle.tN "SUPPRESSED_SENTINEL" Bundle.listD A s' s'.heap := by rw [hhp]; exact vx_Zq.moved hW0.alike (hN.kept hS.2.1)
  have h : ∀ w ∈ Bundle.ownAtoms own ic cls names, w.before args s' = true := vx_own hat' (vx_isRefq hU'.1) (vx_isRefq hN'.1) hU'.2.word hN'.2.word
  have hown' : s'.vm.findClass own = some m.cls := by rw [hvm]; exact hown
  have hins : (Cond.instantiable cls 6).before args s' = true := h _ (by simp [Bundle.ownAtoms])
  obtain ⟨vm₁, cX, kX, hfX, hkX, -, -, X₁, st1⟩ := Y.newCold hexec (own := own) (C := cls) (index := ik) (n := 6) hown' hk' hins hini'
    (g := F0 m pc ls rest) rfl (by rw [hb]; exact d0) (Nat.le_refl _) (Nat.le_refl _)
  generalize hT1 : (T.setVm vm₁).pushCell { cls := cX, slots := kX.instanceTypes.map defaultValue, vm := .none } = T1 at X₁ st1
  have hcat : (Value.ref T.heap.size).category = 1 := rfl
  have hcellA : T1.heap[T.heap.size]? = some (freshCell cX kX) := by rw [← hT1]; exact State.heap_pushCell_size _ _
  have d3' : decode c.code (pc + 3) = .ok (.dup, 1) := by rw [hb]; exact d3
  have d4' : decode c.code (pc + 4) = .ok (.ldc is, 2) := by rw [hb]; exact d4
  have hstr' : vk_R own is text sa s' := vk_R.warm hW0 hstr
  obtain ⟨U, hsteps, hrun, hend, hW, hsame, ce, hce, hO⟩ := X₁.ctorThrowS hexec htr (own := own) (cls := cls) (names := names) (ic := ic) hown' hcls hnames h (fun x hx => nomatch hx) hfX hkX hcellA (by rw [hhp, hT]; exact Nat.le_refl _) (msg := .ref sa) rfl
    (g := { method := m, pc := pc + 6, locals := ls, stack := .ref sa :: .ref T.heap.size :: .ref T.heap.size :: rest, locked := none }) rfl hsize rfl rfl (rest := rest) rfl
    (by rw [hb]; exact d6) (by rw [hb]; exact d9) hout hRframes (by simp only [List.map_cons, List.sum_cons, hcat]; omega) hlocks
  obtain ⟨f1, f2⟩ := vx_frame hsame
  rw [hhp] at f1 f2
  have hWs : s.WarmedH U.vm := State.WarmedH.trans hW0 hW
  have hcl : s.vm.findClass cls = some ce.cls := by
    have h9 := hO.cls
    rw [hvm] at h9
    exact h9
  have hall : s.sameButNew ({ U with vm := s.vm } : State) locs mc ms := by
    subst hA
    obtain ⟨e1, e2⟩ := hsame
    rw [State.setFrames_setFrames] at e1
    have h2 : (T.setVm s.vm).sameButNew ({ U with vm := s.vm } : State) [] (0 + 1) (0 + 6) := ⟨e1, e2⟩
    have h3 := X.same.trans h2
    rw [List.append_nil] at h3
    exact h3.mono hc hs
  refine ⟨U, ?_, .threw T.heap.size, hrun, hend, Or.inr ⟨T.heap.size, rfl, cls, ce, locs, hx U hWs.alike f1 (fun q hq => f2 q hq (fun z hz => nomatch hz)), hce, hO.vm, hcl, hWs, hall, hf⟩⟩
  refine st1 _ ?_
  show Steps p.tables e below (T1.setTop { method := m, pc := pc + 3, locals := ls, stack := .ref T.heap.size :: rest, locked := none }) _
  jvm_step X₁.here [X₁.here.top, hexec, d3', Value.category]
  exact X₁.ldcString hexec (own := own) (text := text) (index := is) (a := sa) hown' hstr'.1 hstr'.2
    (g := { method := m, pc := pc + 4, locals := ls, stack := .ref T.heap.size :: .ref T.heap.size :: rest, locked := none }) rfl d4' _ hsteps
/-- 'throw new E("text")', the text by a wide index -/
theorem vx_throwSW {cc : ByteArray} {pc : Nat} (hexec : p.tables.exec = Jvm.exec) (hb : c.code = cc) (hl : l.stackTraces = false) {own cls text : String} {names : List String} {ik is ic mc ms sa : Nat} {A : Nat → Prop}
    (hown : s.vm.findClass own = some m.cls) (hcls : Bundle.fit cls = true) (hnames : ∀ n ∈ names, Bundle.fit n = true)
    (hk : (Cond.classLink own ik cls).before args s = true) (hini : (Cond.initialized cls).before args s = true) (hstr : vk_R own is text sa s) (hat : ∀ w ∈ vx_atS own ic cls names, w.before args s = true)
    (hgood : ∀ w ∈ Cond.classLink own ik cls :: Cond.initialized cls :: vx_atS own ic cls names, vx_ot w = true)
    (hU : vx_Zq Bundle.tN "UNASSIGNED_STACK" Bundle.steD A s s.heap) (hN : vx_Zq Bundle.tN "SUPPRESSED_SENTINEL" Bundle.listD A s s.heap) (hS : va_S A s.heap H locs) (hsize : ls.size = c.maxLocals)
    (d0 : decode cc pc = .ok (.new ik, 3)) (d3 : decode cc (pc + 3) = .ok (.dup, 1)) (d4 : decode cc (pc + 4) = .ok (.ldc_w is, 3)) (d7 : decode cc (pc + 7) = .ok (.invokespecial ic, 3)) (d10 : decode cc (pc + 10) = .ok (.athrow, 1))
    (hout : ∀ x ∈ c.exceptionTable.toList, covers x (pc + 10) = false)
    (hRframes : names.length + 3 < R.frames) (hRlocals : (rest.map fun v => v.category).sum + (13 * (names.length + 1) + 43) ≤ R.locals) (hRcells : cells + 1 ≤ R.cells) (hRslots : slots + 6 ≤ R.slots) (hlocks : meth.locks = false)
    (hx : ∀ t : State, s.vm.Alike t.vm → H.size ≤ t.heap.size → (∀ q : Nat, q < H.size → t.heap[q]? = H[q]?) → XC cls s t)
    (hf : ∀ z ∈ locs, free z.base) (hc : cells + 1 ≤ mc) (hs : slots + 6 ≤ ms) :
    W p l e R s m args below meth c H locs cells slots (vx_MQ below Qc XC args s mc ms free) (F0 m pc ls rest) := by
  intro T hT X
  have htr : e.platform.stackTraces = false := (show e.platform.stackTraces = l.stackTraces by rw [X.admits.platform]).trans hl
  have Y := vx_rebase X (R' := { frames := R.frames, locals := R.locals, cells := 1, slots := 6 }) (Nat.le_refl _) (Nat.le_refl _) hRcells hRslots
  obtain ⟨s', hA⟩ : ∃ z, z = (T.setVm s.vm).setFrames (.invoking m args :: below) := ⟨_, rfl⟩
  rw [← hA] at Y
  have hvm : s'.vm = s.vm := by rw [hA]; rfl
  have hhp : s'.heap = H := by rw [hA]; exact hT
  have hW0 : s.WarmedH s'.vm := by rw [hvm]; exact State.WarmedH.refl s
  have hat' : ∀ w ∈ vx_atS own ic cls names, w.before args s' = true := fun w hw => vx_ot_at hW0 hvm.symm (hgood w (List.mem_cons_of_mem _ (List.mem_cons_of_mem _ hw))) (hat w hw)
  have hk' : (Cond.classLink own ik cls).before args s' = true := vx_ot_at hW0 hvm.symm (hgood _ List.mem_cons_self) hk
  have hini' : (Cond.initialized cls).before args s' = true := vx_ot_at hW0 hvm.symm (hgood _ (List.mem_cons_of_mem _ List.mem_cons_self)) hini
  have hU' : vx_Zq Bundle.tN "UNASSIGNED_STACK" Bundle.steD A s' s'.heap := by rw [hhp]; exact vx_Zq.moved hW0.alike (hU.kept hS.2.1)
  have hN' : vx_Zq Bundle.tN "SUPPRESSED_SENTINEL" Bundle.listD A s' s'.heap := by rw [hhp]; exact vx_Zq.moved hW0.alike (hN.kept hS.2.1)
  have h : ∀ w ∈ Bundle.ownAtoms own ic cls names, w.before args s' = true := vx_own hat' (vx_isRefq hU'.1) (vx_isRefq hN'.1) hU'.2.word hN'.2.word
  have hown' : s'.vm.findClass own = some m.cls := by rw [hvm]; exact hown
  have hins : (Cond.instantiable cls 6).before args s' = true := h _ (by simp [Bundle.ownAtoms])
  obtain ⟨vm₁, cX, kX, hfX, hkX, -, -, X₁, st1⟩ := Y.newCold hexec (own := own) (C := cls) (index := ik) (n := 6) hown' hk' hins hini'
    (g := F0 m pc ls rest) rfl (by rw [hb]; exact d0) (Nat.le_refl _) (Nat.le_refl _)
  generalize hT1 : (T.setVm vm₁).pushCell { cls := cX, slots := kX.instanceTypes.map defaultValue, vm := .none } = T1 at X₁ st1
  have hcat : (Value.ref T.heap.size).category = 1 := rfl
  have hcellA : T1.heap[T.heap.size]? = some (freshCell cX kX) := by rw [← hT1]; exact State.heap_pushCell_size _ _
  have d3' : decode c.code (pc + 3) = .ok (.dup, 1) := by rw [hb]; exact d3
  have d4' : decode c.code (pc + 4) = .ok (.ldc_w is, 3) := by rw [hb]; exact d4
  have hstr' : vk_R own is text sa s' := vk_R.warm hW0 hstr
  obtain ⟨U, hsteps, hrun, hend, hW, hsame, ce, hce, hO⟩ := X₁.ctorThrowS hexec htr (own := own) (cls := cls) (names := names) (ic := ic) hown' hcls hnames h (fun x hx => nomatch hx) hfX hkX hcellA (by rw [hhp, hT]; exact Nat.le_refl _) (msg := .ref sa) rfl
    (g := { method := m, pc := pc + 7, locals := ls, stack := .ref sa :: .ref T.heap.size :: .ref T.heap.size :: rest, locked := none }) rfl hsize rfl rfl (rest := rest) rfl
    (by rw [hb]; exact d7) (by rw [hb]; exact d10) hout hRframes (by simp only [List.map_cons, List.sum_cons, hcat]; omega) hlocks
  obtain ⟨f1, f2⟩ := vx_frame hsame
  rw [hhp] at f1 f2
  have hWs : s.WarmedH U.vm := State.WarmedH.trans hW0 hW
  have hcl : s.vm.findClass cls = some ce.cls := by
    have h9 := hO.cls
    rw [hvm] at h9
    exact h9
  have hall : s.sameButNew ({ U with vm := s.vm } : State) locs mc ms := by
    subst hA
    obtain ⟨e1, e2⟩ := hsame
    rw [State.setFrames_setFrames] at e1
    have h2 : (T.setVm s.vm).sameButNew ({ U with vm := s.vm } : State) [] (0 + 1) (0 + 6) := ⟨e1, e2⟩
    have h3 := X.same.trans h2
    rw [List.append_nil] at h3
    exact h3.mono hc hs
  refine ⟨U, ?_, .threw T.heap.size, hrun, hend, Or.inr ⟨T.heap.size, rfl, cls, ce, locs, hx U hWs.alike f1 (fun q hq => f2 q hq (fun z hz => nomatch hz)), hce, hO.vm, hcl, hWs, hall, hf⟩⟩
  refine st1 _ ?_
  show Steps p.tables e below (T1.setTop { method := m, pc := pc + 3, locals := ls, stack := .ref T.heap.size :: rest, locked := none }) _
  jvm_step X₁.here [X₁.here.top, hexec, d3', Value.category]
  exact X₁.ldcStringW hexec (own := own) (text := text) (index := is) (a := sa) hown' hstr'.1 hstr'.2
    (g := { method := m, pc := pc + 4, locals := ls, stack := .ref T.heap.size :: .ref T.heap.size :: rest, locked := none }) rfl d4' _ hsteps
end Ends
section Bodies
variable {l : Launch}
theorem vx_ofW {y : MethodName} {ws ws' : List Cond} {rm : Room} {Pc : Array Value → State → Prop} {Qc : Array Value → State → Outcome → State → Prop} {XC : String → State → State → Prop} {mc ms : Nat} {free : Addr → Prop} {cc : ByteArray} {maxL : Nat} {ret : Option FieldType}
    (hy : plainName y.cls = true) (hw : ws = Cond.code y cc maxL ret :: ws')
    (body : ∀ p e s m args below meth c s₁, BodyLoose p l y (headSpec ws rm) cc maxL ret e s m args below meth c s₁ → c.maxLocals = maxL → (∀ x ∈ c.exceptionTable.toList, False) → Pc args s →
      W p l e (headSpec ws rm).room s m args below meth c s.heap [] 0 0 (vx_MQ below Qc XC args s mc ms free) (entryFrame m args maxL)) : vx_Met l y ws rm Pc Qc XC mc ms free := by
  refine MetFree.of_bodyS (code := cc) (maxLocals := maxL) (ret := ret) hy ?_ ?_
  · intro args s m h hn
    obtain ⟨meth, c, h1, h2, h3, h4, h5, h6, -, -⟩ := Cond.code_spec hn (atoms_spec (ws := ws) h _ (by rw [hw]; exact List.mem_cons_self))
    exact ⟨meth, c, h1, h2, h3, h4, h5, h6⟩
  · intro p e s m args below meth c s₁ B hml hP _
    have hh0 : s₁.heap = s.heap := by rw [B.state]; rfl
    have ht : ∀ x ∈ c.exceptionTable.toList, False := by
      obtain ⟨meth9, c9, h1, h2, -, -, -, -, h7, -⟩ := Cond.code_spec B.named (atoms_spec (ws := ws) B.pre _ (by rw [hw]; exact List.mem_cons_self))
      cases Option.some.inj (h1.symm.trans B.method)
      cases Option.some.inj (h2.symm.trans (Stand.of_body B).code)
      intro x hx
      rw [Array.isEmpty_iff.mp h7] at hx
      cases hx
    obtain ⟨t, a1, o, b1, b2, b3⟩ := body p e s m args below meth c s₁ B hml ht hP s₁ hh0 (Stand.of_body B)
    exact ⟨t, o, a1, b1, b2, b3⟩
/-- the table of a body with handlers -/
theorem vx_table {p : Program} {x y : MethodName} {S : Spec} {cc bytes : ByteArray} {maxL maxL' : Nat} {ret ret' : Option FieldType} {e : Env} {s s₁ : State} {m : MethodId} {args : Array Value} {below : List Frame} {meth : Method} {c : Code} {hh : List (Nat × Nat × Nat × Nat)}
    (B : BodyLoose p l y S cc maxL ret e s m args below meth c s₁) (h : (Cond.codeWith y bytes maxL' ret' hh).before args s = true) : c.exceptionTable.toList = tableOf hh := by
  obtain ⟨m9, meth9, c9, hn9, h1, h2, -, -, h6, -⟩ := Cond.codeWith_spec h
  cases Option.some.inj (hn9.symm.trans B.named)
  cases Option.some.inj (h1.symm.trans B.method)
  cases Option.some.inj (h2.symm.trans (Stand.of_body B).code)
  rw [← h6, table_eq]
end Bodies
end VXA
/-! ===== END ===== -/
/-! ===== BEGIN a static call of a method with an exception table ===== -/
section VXS
variable {p : Program} {l : Launch} {e : Env} {R : Room} {s : State} {m : MethodId} {args : Array Value} {below : List Frame} {meth : Method} {c : Code} {T : State} {H : Heap} {locs : List Loc} {cells slots : Nat}
abbrev vx_CSW (R : Room) (s : State) (args : Array Value) (own : String) (index : Nat) (y : MethodName) (bytes : ByteArray) (maxL : Nat) (ret : Option FieldType) (hh : List (Nat × Nat × Nat × Nat)) (ws : List Cond) (rm : Room) (mc ms n : Nat) : Prop :=
  (rm.cells = mc ∧ rm.slots = ms ∧ rm.frames + 1 ≤ R.frames ∧ 8 + (maxL + 11) + rm.locals ≤ R.locals ∧ (∀ w ∈ ws, ∀ (a' : Array Value) (U : State), s.WarmedH U.vm → w.before a' U = true) ∧ Cond.codeWith y bytes maxL ret hh ∈ ws) ∧
  (Cond.codeWith y bytes maxL ret hh).before args s = true ∧ (Cond.initialized y.cls).before args s = true ∧ (y.cls ≠ "java/lang/invoke/MethodHandle" ∧ y.cls ≠ "java/lang/invoke/VarHandle") ∧
  (∀ sig, parseMethodDescriptor y.desc = some sig → n = sig.parameters.length) ∧ (Cond.methodLink own index y).before args s = true ∧ (Cond.static y).before args s = true
theorem vx_cwSW {own : String} {index maxL mc ms : Nat} {y : MethodName} {bytes : ByteArray} {ret : Option FieldType} {hh : List (Nat × Nat × Nat × Nat)} {Ts ws ws' : List Cond} {rm : Room} (n : Nat) (ht : ∀ w ∈ Ts, w.before args s = true) (hT : GoodIn Ts (va_wsS own index y ws)) (hw : ws = Cond.codeWith y bytes maxL ret hh :: ws') (hrc : rm.cells = mc) (hrs : rm.slots = ms)
    (hd : y.cls ≠ "java/lang/invoke/MethodHandle" ∧ y.cls ≠ "java/lang/invoke/VarHandle" ∧ (parseMethodDescriptor y.desc).map (fun d => d.parameters.length) = some n) (hR : rm.frames + 1 ≤ R.frames ∧ 8 + (maxL + 11) + rm.locals ≤ R.locals) :
    vx_CSW R s args own index y bytes maxL ret hh ws rm mc ms n := by
  have ok : ∀ w ∈ va_wsS own index y ws, w.before args s = true := fun w h => ht w (hT w h).1
  have hG : GoodIn Ts ws := fun w h => hT w (by unfold va_wsS; exact List.mem_append_right _ h)
  have hc : Cond.codeWith y bytes maxL ret hh ∈ ws := by rw [hw]; exact List.mem_cons_self
  refine ⟨⟨hrc, hrs, hR.1, hR.2, pay_in ht hG, hc⟩, ht _ (hG _ hc).1, ok _ (by simp [va_wsS]), ⟨hd.1, hd.2.1⟩, fun sig h => ?_, ok _ (by simp [va_wsS]), ok _ (by simp [va_wsS])⟩
  have h2 := hd.2.2
  rw [h] at h2
  exact (Option.some.inj h2).symm
theorem vx_callSW (X : Stand p l e R s m args below meth c T locs cells slots) (hexec : p.tables.exec = Jvm.exec) {own : String} {index : Nat} {y : MethodName} {bytes : ByteArray} {maxL : Nat} {ret : Option FieldType} {hh : List (Nat × Nat × Nat × Nat)}
    (hown : s.vm.findClass own = some m.cls) (hlink : (Cond.methodLink own index y).before args s = true) (hstat : (Cond.static y).before args s = true) (hinit : (Cond.initialized y.cls).before args s = true)
    (hcode : (Cond.codeWith y bytes maxL ret hh).before args s = true) (hy : y.cls ≠ "java/lang/invoke/MethodHandle" ∧ y.cls ≠ "java/lang/invoke/VarHandle")
    {W9 : Nat} {Pre : Pt → Array Value → Prop} {Post : Pt → Array Value → Option Value → Pt → Prop} (hK : Back l R p e below s args y 3 W9 Pre Post)
    {g : JFrame} (hg : g.method = m) (hsize : g.locals.size = c.maxLocals) {argsL rest : List Value} (hlen : ∀ sig, parseMethodDescriptor y.desc = some sig → argsL.length = sig.parameters.length)
    (hstack : g.stack = argsL.reverse ++ rest) (hW : 2 * g.monitorRoom + (rest.map fun v => v.category).sum ≤ W9) (hdg : decode c.code g.pc = .ok (.invokestatic index, 3))
    (hpre : ∀ vm₁, s.WarmedH vm₁ → Pre ⟨T.setVm vm₁, locs, cells, slots⟩ argsL.toArray) :
    ∃ (v : Option Value) (vm₁ : Vm) (B : Pt), s.WarmedH vm₁ ∧ Stand p l e R s m args below meth c B.U B.locs B.cells B.slots ∧ Post ⟨T.setVm vm₁, locs, cells, slots⟩ argsL.toArray v B ∧
      ∀ target, Steps p.tables e below (B.U.setTop { g with pc := g.pc + 3, stack := v.toList ++ rest }) target → Steps p.tables e below (T.setTop g) target := by
  obtain ⟨mk, methM, cM, hnamed, hmethM, -, -, -, -, -, -, hsigM⟩ := Cond.codeWith_spec hcode
  have hstatic : methM.isStatic = true := Cond.static_spec hnamed hmethM hstat
  obtain ⟨kP, hkP, -⟩ := className_of_methodNamed hnamed
  have hinitP : kP.init = .initialized := Cond.initialized_spec (findClass_of_methodNamed hnamed) hkP hinit
  obtain ⟨vm₁, X₁, hstep₁⟩ := X.invokestatic hexec hown hlink hnamed hmethM hstatic hkP hinitP hy (g := g) hg (argsL := argsL) (rest := rest) (hlen _ hsigM) hstack hdg
  obtain ⟨v, B, X', hpost, hsteps⟩ := hK m meth c ⟨T.setVm vm₁, locs, cells, slots⟩ { g with stack := rest } (.invokestatic index) mk argsL.toArray X₁ hg hsize hdg hW (X₁.named hnamed) (hpre vm₁ X₁.warmed)
  exact ⟨v, vm₁, B, X₁.warmed, X', hpost, fun target h => hstep₁ _ fun acts => by rw [doInvoke_state]; exact hsteps.trans h⟩
theorem vx_runSW {y : MethodName} {bytes cc : ByteArray} {maxL nL mc ms n index : Nat} {ret : Option FieldType} {hh : List (Nat × Nat × Nat × Nat)} {ws : List Cond} {rm : Room} {Pc : Array Value → State → Prop} {Qc : Array Value → State → Outcome → State → Prop} {free : Addr → Prop} {Ts : List Cond} {own : String} {As rest : List Value} {g : JFrame}
    (S : CallFix p m c cc nL s args Ts own) (hM : Met l y ws rm Pc Qc mc ms free) (cw : vx_CSW R s args own index y bytes maxL ret hh ws rm mc ms n) (hp : PreS s H Pc As)
    (hg : g.method = m) (hn : As.length = n) (hsize : g.locals.size = nL) (hstack : g.stack = As.reverse ++ rest) (hW : 2 * g.monitorRoom + (rest.map fun v => v.category).sum ≤ 8) (hdg : decode cc g.pc = .ok (.invokestatic index, 3)) (hf : cells + mc ≤ R.cells ∧ slots + ms ≤ R.slots) :
    va_Run p l e R s m args below meth c H locs cells slots mc ms g rest (Qc As.toArray) (free) := by
  obtain ⟨⟨hrc, hrs, hfr, hlo, hws, hcw⟩, hcode, hini, hy, hlen, hl, hstt⟩ := cw
  have hK : Back l R p e below s args y 3 8 (PreOf R mc ms Pc) (PostOf Qc mc ms free) := va_backW (hh := hh) (bytes := bytes) (maxL := maxL) (ret := ret) hM hp.1 hrc hrs hfr hlo hws hcw (fun a' U hW => word_at hW (Or.inl (by first | rfl | simp [Cond.onTables, Cond.keeps, Cond.steady])) hini)
  obtain ⟨hx, hb, hml, ho, -⟩ := S
  intro T hT X
  obtain ⟨v, vm₁, ⟨U', l2, c2, s2⟩, hW₁, X', ⟨g', mk, t, L, e1, e2, hq, h1, hL, h2, h3⟩, st⟩ := vx_callSW X hx (hh := hh) (bytes := bytes) (maxL := maxL) (ret := ret) ho hl hstt hini hcode hy hK hg (hsize.trans hml.symm) (argsL := As) (rest := rest) (fun sig h => hn.trans (hlen sig h)) hstack hW (by rw [hb]; exact hdg)
    (fun vm₁ hW₁ => ⟨hf.1, hf.2, hp.2 (T.setVm vm₁) hT hW₁⟩)
  dsimp only [Pt.U, Pt.locs, Pt.cells, Pt.slots] at X' e1 e2 h1 h2 h3 st
  subst h1; subst h2; subst h3
  exact ⟨v, (T.setVm vm₁).calling g' mk As.toArray, t, U', L, hT, X', hL, e1, e2, hq, st⟩
/-- not caught here, past rows that name other classes: it goes on to the caller -/
theorem vx_outP {p : Program} {l : Launch} {e : Env} {R : Room} {s : State} {m : MethodId} {args : Array Value} {below : List Frame} {meth : Method} {c : Code} {H : Heap} {locs : List Loc} {cells slots : Nat} {free : Addr → Prop} {ls : Array Slot} {rest : List Value} {Qc : Array Value → State → Outcome → State → Prop} {XC : String → State → State → Prop}
    {pc : Nat} {own E : String} {ce : Cell} {q : Addr} {mc ms : Nat} (hown : s.vm.findClass own = some m.cls) (hlocks : meth.locks = false)
    (hpass : ∀ z ∈ c.exceptionTable.toList, covers z pc = false ∨ (z.catchType ≠ 0 ∧ ∃ nm : String, (Cond.classLink own z.catchType nm).before args s = true ∧ va_Nc E nm s)) (hcell : H[q]? = some ce) (hv : ce.vm = .none) (hcl : s.vm.findClass E = some ce.cls)
    (hx : ∀ t : State, t.heap = H → s.vm.Alike t.vm → XC E s t) (hf : ∀ z ∈ locs, free z.base) (hc : cells ≤ mc) (hs : slots ≤ ms) :
    vx_W p l e R s m args below meth c H locs cells slots (vx_MQ below Qc XC args s mc ms free) (F0 m pc ls rest) q := by
  intro T hT X
  have hpl : e.platform.magicAccessors = ({} : Platform).magicAccessors := by rw [X.admits.platform]
  obtain ⟨vm', hW', X', st⟩ := X.outThrough hlocks q (g := F0 m pc ls rest) rfl rfl rfl (cell := ce) (by rw [hT]; exact hcell) (by rw [hv]; rfl)
    (by obtain ⟨k9, h9, -⟩ := Vm.findClass_spec hcl; exact ⟨k9, h9⟩) (fun z hz => by
      rcases hpass z hz with h | ⟨hz0, nm, hl1, hn1⟩
      · exact Or.inl h
      · obtain ⟨c6, hc6, hcl6⟩ := Cond.classLink_spec hown hl1 e.platform hpl
        obtain ⟨a8, b8, h1, h2, h3⟩ := hn1
        cases Option.some.inj (h1.symm.trans hcl)
        cases Option.some.inj (h2.symm.trans hc6)
        exact Or.inr ⟨hz0, _, hcl6, h3⟩)
  obtain ⟨g₀, hfr⟩ := X'.frames_eq
  have hcell9 : ((T.setVm vm').setFrames (.throwing q :: below)).heap[q]? = some ce := by
    show T.heap[q]? = some ce
    rw [hT]; exact hcell
  have hend : Ended ((T.setVm vm').setFrames (.throwing q :: below)) below (.threw q) := State.frames_setFrames _ (State.cur_lt_of_frames hfr)
  refine ⟨(T.setVm vm').setFrames (.throwing q :: below), ?_, .threw q, X'.here.running, hend, Or.inr ⟨q, rfl, E, ce, locs, hx _ hT (X'.ends _).1.alike, hcell9, hv, hcl, (X'.ends _).1, (X'.ends _).2.mono hc hs, hf⟩⟩
  rw [X.pushThrowing_eq]
  exact st
/-- a thing of a world lies in the heap -/
theorem vx_lt {D : va_G} {cl : List vw_C} {ws : va_W} {H1 : Heap} (h : va_P D cl ws H1) {k : Nat} {q : Nat × va_E} (hk : ws[k]? = some q) : q.1 < H1.size := (h k q hk).lt
end VXS
/-! ===== END ===== -/
/-! ===== BEGIN methods with a table of their own: called by a name, returning or throwing ===== -/
section VXH
/-! vx_backW, vx_callVX, vx_callSX, vx_callVW, vx_runVW, vx_runVX, vx_runSX, vx_ofWH follow the same proofs as their sisters above (Free/Laws.lean, Shelf42/LK1.lean); vx_outP calls Shelf42/NT130.lean (outThrough). -/
section
variable {l : Launch} {R : Room} {p : Program} {e : Env} {below : List Frame} {s : State} {sargs : Array Value} {y : MethodName} {len W9 : Nat}
theorem vx_backW {ws : List Cond} {rm : Room} {Pc : Array Value → State → Prop} {Qc : Array Value → State → Outcome → State → Prop} {XC : String → State → State → Prop} {mc ms : Nat} {free : Addr → Prop} {bytes : ByteArray} {maxL : Nat} {ret : Option FieldType} {hh : List (Nat × Nat × Nat × Nat)}
    (hM : vx_Met l y ws rm Pc Qc XC mc ms free) (hblind : FrameBlind Pc) (hrc : rm.cells = mc) (hrs : rm.slots = ms)
    (hframes : rm.frames + 1 ≤ R.frames) (hlocals : W9 + (maxL + 11) + rm.locals ≤ R.locals)
    (hws : ∀ w ∈ ws, ∀ a' U, s.WarmedH U.vm → w.before a' U = true) (hcode : Cond.codeWith y bytes maxL ret hh ∈ ws) (hinit : ∀ a' U, s.WarmedH U.vm → (Cond.initialized y.cls).before a' U = true) :
    vx_Back l R p e below s sargs y len W9 (PreOf R mc ms Pc) (PostOf Qc mc ms free) (vx_Post XC mc ms free) := by
  intro m meth c A g ig mk a X hg hsize hdg hW hn hp
  have h1 : (headSpec ws rm).pre.before a A.U = true := atoms_intro fun w hw => hws w hw _ _ X.warmed
  have h2 : (Cond.codeWith y bytes maxL ret hh).before a A.U = true := hws _ hcode _ _ X.warmed
  have h3 : (Cond.initialized y.cls).before a A.U = true := hinit _ _ X.warmed
  have h4 : A.cells + (headSpec ws rm).room.cells ≤ R.cells := by rw [show (headSpec ws rm).room.cells = mc from hrc]; exact hp.1
  have h5 : A.slots + (headSpec ws rm).room.slots ≤ R.slots := by rw [show (headSpec ws rm).room.slots = ms from hrs]; exact hp.2.1
  have hPc : Pc a (A.U.calling g mk a) := hblind _ _ _ _ hp.2.2
  obtain ⟨U, Ls, c0, s0⟩ := A
  dsimp only [Pt.U, Pt.locs, Pt.cells, Pt.slots] at h1 h2 h3 h4 h5 X hn hPc ⊢
  obtain ⟨m9, methY, cY, hn9, hmY, hcY, -, hlY, -⟩ := Cond.codeWith_spec h2
  cases Option.some.inj (hn9.symm.trans hn)
  obtain ⟨kY, hkY, -⟩ := className_of_methodNamed hn
  have hinitY : kY.init = .initialized := Cond.initialized_spec (findClass_of_methodNamed hn) hkY h3
  have h : At U g.method c below := by rw [hg]; exact X.here
  have hlocals9 : W9 + (maxL + 11) + (headSpec ws rm).room.locals ≤ R.locals := hlocals
  have happ : (headSpec ws rm).appliesLoose y e.platform (U.calling g mk a) = true :=
    Spec.appliesLoose_calling (g := g) h hdg hn hkY hinitY
      (X.room_calling (g := g) (R' := (headSpec ws rm).room) hsize hmY hcY hframes (by rw [hlY]; omega) h4 h5) h1
  obtain ⟨mid, hmid⟩ := h.above
  have hfr : (U.setTop g).frames = (.java g :: mid) ++ below := by rw [State.frames_setTop' g h.top, hmid]; rfl
  obtain ⟨o, s₂, hsteps, -, hend, hq⟩ := Steps.callFree hM p X.admits X.cas X.clock (acts := []) hfr happ hPc trivial
  have hq' : vx_Q Qc XC mc ms free a (U.calling g mk a) o s₂ := hq
  rw [State.frames_setTop' g h.top] at hend
  obtain ⟨g₀, hg0⟩ := Option.isSome_iff_exists.mp h.top
  obtain ⟨r, hr⟩ := State.topJava?_eq_some.mp hg0
  have hr' : (({ U with heap := s₂.heap, slotsUsed := s₂.slotsUsed } : State).setVm s₂.vm).frames = .java g₀ :: r := hr
  rcases hq' with ⟨hqc, L, hfe, hL⟩ | ⟨q, rfl, E, ce, L, hx, hce, hcv, hcl, hW₂, hsm, hL⟩
  · obtain ⟨⟨v, rfl⟩, hW₂, e2, q2, q3, q4, q5, q6⟩ := id hfe
    have e3 : s₂ = ({ (U.calling g mk a).setFrames s₂.frames with heap := s₂.heap, slotsUsed := s₂.slotsUsed } : State).setVm s₂.vm := by
      have : s₂ = ({ s₂ with vm := (U.calling g mk a).vm } : State).setVm s₂.vm := rfl
      rw [e2] at this
      exact this
    obtain ⟨c₂, i₂, len₂, hc₂, hd₂, hf₂⟩ := hend
    have hW' : U.WarmedH s₂.vm := hW₂
    have hcc : c₂ = c := by
      have h1 : s₂.code? g.method = U.code? g.method := by
        rw [State.code?_eq, State.code?_eq, hW'.alike.method?]
      exact Option.some.inj (hc₂.symm.trans (h1.trans h.code))
    subst hcc
    have hlen : len₂ = len := by rw [hdg] at hd₂; cases hd₂; rfl
    subst hlen
    have hs₂ : s₂ = (({ U with heap := s₂.heap, slotsUsed := s₂.slotsUsed } : State).setVm s₂.vm).setTop { g with pc := g.pc + len₂, stack := v.toList ++ g.stack } := by
      refine e3.trans ?_
      rw [hf₂, State.calling_eq h.top, State.setFrames_setFrames, State.setTop_of_frames _ hr', hr]
      rfl
    have hsame : U.sameButNew ({ U with heap := s₂.heap, slotsUsed := s₂.slotsUsed } : State) L mc ms := by
      refine ⟨?_, q2, q3, q4, q5, q6⟩
      obtain ⟨t, ht, -⟩ := State.frames_cons hr
      show ({ U with heap := s₂.heap, slotsUsed := s₂.slotsUsed } : State) = { U.setFrames U.frames with heap := s₂.heap, slotsUsed := s₂.slotsUsed }
      rw [State.setFrames_self ht]
    subst hg
    refine Or.inl ⟨v, ⟨(({ U with heap := s₂.heap, slotsUsed := s₂.slotsUsed } : State).setVm s₂.vm), Ls ++ L, c0 + mc, s0 + ms⟩,
      ⟨X.admits, X.cas, X.clock, X.frames, X.room, X.hears, X.method, X.code, (X.here.setHeapUsed s₂.heap s₂.slotsUsed).setVm hW'.alike, X.tail, State.WarmedH.trans X.warmed hW', X.limits, X.bytes, X.same.trans (hsame.setVm s.vm)⟩,
      ⟨g, mk, s₂, L, rfl, rfl, hqc, rfl, hL, rfl, rfl⟩, ?_⟩
    show Steps p.tables e below _ ((({ U with heap := s₂.heap, slotsUsed := s₂.slotsUsed } : State).setVm s₂.vm).setTop { g with pc := g.pc + len₂, stack := v.toList ++ g.stack })
    rw [← hs₂]
    exact hsteps
  · obtain ⟨e2, q2, q3, q4, q5, q6⟩ := id hsm
    have e3 : s₂ = ({ (U.calling g mk a).setFrames s₂.frames with heap := s₂.heap, slotsUsed := s₂.slotsUsed } : State).setVm s₂.vm := by
      have : s₂ = ({ s₂ with vm := (U.calling g mk a).vm } : State).setVm s₂.vm := rfl
      rw [e2] at this
      exact this
    have hf₂ : s₂.frames = .throwing q :: .java g :: U.frames.tail := hend
    have hW' : U.WarmedH s₂.vm := hW₂
    have hs₂ : s₂ = ((({ U with heap := s₂.heap, slotsUsed := s₂.slotsUsed } : State).setVm s₂.vm).setTop g).pushFrame (.throwing q) := by
      refine e3.trans ?_
      rw [hf₂, State.calling_eq h.top, State.setFrames_setFrames, State.pushFrame, State.frames_setTop _ hr', State.setTop_of_frames _ hr', State.setFrames_setFrames, hr]
      rfl
    have hsame : U.sameButNew ({ U with heap := s₂.heap, slotsUsed := s₂.slotsUsed } : State) L mc ms := by
      refine ⟨?_, q2, q3, q4, q5, q6⟩
      obtain ⟨t, ht, -⟩ := State.frames_cons hr
      show ({ U with heap := s₂.heap, slotsUsed := s₂.slotsUsed } : State) = { U.setFrames U.frames with heap := s₂.heap, slotsUsed := s₂.slotsUsed }
      rw [State.setFrames_self ht]
    subst hg
    refine Or.inr ⟨q, ⟨(({ U with heap := s₂.heap, slotsUsed := s₂.slotsUsed } : State).setVm s₂.vm), Ls ++ L, c0 + mc, s0 + ms⟩,
      ⟨X.admits, X.cas, X.clock, X.frames, X.room, X.hears, X.method, X.code, (X.here.setHeapUsed s₂.heap s₂.slotsUsed).setVm hW'.alike, X.tail, State.WarmedH.trans X.warmed hW', X.limits, X.bytes, X.same.trans (hsame.setVm s.vm)⟩,
      ⟨g, mk, s₂, L, E, ce, rfl, rfl, hx, hce, hcv, hcl, rfl, hL, rfl, rfl⟩, ?_⟩
    show Steps p.tables e below _ (((({ U with heap := s₂.heap, slotsUsed := s₂.slotsUsed } : State).setVm s₂.vm).setTop g).pushFrame (.throwing q))
    rw [← hs₂]
    exact hsteps
end
variable {p : Program} {l : Launch} {e : Env} {R : Room} {s : State} {m : MethodId} {args : Array Value} {below : List Frame} {meth : Method} {c : Code} {T : State} {H : Heap} {locs : List Loc} {cells slots : Nat}
theorem vx_callVX (X : Stand p l e R s m args below meth c T locs cells slots) (hexec : p.tables.exec = Jvm.exec) {own C : String} {index : Nat} {y : MethodName} {bytes : ByteArray} {maxL : Nat} {ret : Option FieldType} {hh : List (Nat × Nat × Nat × Nat)}
    (hown : s.vm.findClass own = some m.cls) (hlink : (Cond.methodLink own index y).before args s = true) (hinst : (Cond.instanceMethod y).before args s = true) (hsel : (Cond.selects C y y).before args s = true)
    (hcode : (Cond.codeWith y bytes maxL ret hh).before args s = true) (hy : y.cls ≠ "java/lang/invoke/MethodHandle" ∧ y.cls ≠ "java/lang/invoke/VarHandle")
    {W9 : Nat} {Pre : Pt → Array Value → Prop} {Post : Pt → Array Value → Option Value → Pt → Prop} {PostX : Pt → Array Value → Addr → Pt → Prop} (hK : vx_Back l R p e below s args y 3 W9 Pre Post PostX)
    {b : Addr} {cellB : Cell} (hcell : T.heap[b]? = some cellB) (hobj : cellB.vm.isStatics = false) (hcls : s.vm.findClass C = some cellB.cls)
    {g : JFrame} (hg : g.method = m) (hsize : g.locals.size = c.maxLocals) {argsL rest : List Value} (hlen : ∀ sig, parseMethodDescriptor y.desc = some sig → argsL.length = sig.parameters.length)
    (hstack : g.stack = argsL.reverse ++ .ref b :: rest) (hW : 2 * g.monitorRoom + (rest.map fun v => v.category).sum ≤ W9) (hdg : decode c.code g.pc = .ok (.invokevirtual index, 3))
    (hpre : ∀ vm₁, s.WarmedH vm₁ → Pre ⟨T.setVm vm₁, locs, cells, slots⟩ (Value.ref b :: argsL).toArray) :
    (∃ (v : Option Value) (vm₁ : Vm) (B : Pt), s.WarmedH vm₁ ∧ Stand p l e R s m args below meth c B.U B.locs B.cells B.slots ∧ Post ⟨T.setVm vm₁, locs, cells, slots⟩ (Value.ref b :: argsL).toArray v B ∧
      ∀ target, Steps p.tables e below (B.U.setTop { g with pc := g.pc + 3, stack := v.toList ++ rest }) target → Steps p.tables e below (T.setTop g) target) ∨
    (∃ (q : Addr) (vm₁ : Vm) (B : Pt), s.WarmedH vm₁ ∧ Stand p l e R s m args below meth c B.U B.locs B.cells B.slots ∧ PostX ⟨T.setVm vm₁, locs, cells, slots⟩ (Value.ref b :: argsL).toArray q B ∧
      Steps p.tables e below (T.setTop g) ((B.U.setTop { g with stack := rest }).pushFrame (.throwing q))) := by
  obtain ⟨mk, methM, hnamed, hmethM, hstM, habM⟩ := Cond.instanceMethod_spec hinst
  obtain ⟨m8, methM', cM, hn8, hmethM', -, -, -, -, -, -, hsigM⟩ := Cond.codeWith_spec hcode
  cases Option.some.inj (hn8.symm.trans hnamed)
  cases hmethM.symm.trans hmethM'
  obtain ⟨c2, r2, m2, q1, q2, q3, q4, kP, hkP, hkPi⟩ := Cond.selects_spec hsel
  cases hcls.symm.trans q1
  cases (State.methodFound?_of_named hnamed hy).symm.trans q2
  cases hnamed.symm.trans q3
  have hselP : selectMethod e.platform s.vm cellB.cls mk = .method mk := by rw [Launch.admits_selectMethod X.admits]; exact q4
  obtain ⟨vm₁, X₁, hstep₁⟩ := X.invokevirtual hexec hown hlink hnamed hmethM hstM hkP hkPi hy (a := b) (cell := cellB) hcell
    (fun z h => by rw [h] at hobj; cases hobj) hselP hmethM habM hkP hkPi (g := g) hg (argsL := argsL) (rest := rest) (hlen _ hsigM) hstack hdg
  rcases hK m meth c ⟨T.setVm vm₁, locs, cells, slots⟩ { g with stack := rest } (.invokevirtual index) mk (Value.ref b :: argsL).toArray X₁ hg hsize hdg hW (X₁.named hnamed) (hpre vm₁ X₁.warmed) with ⟨v, B, X', hpost, hsteps⟩ | ⟨q, B, X', hpost, hsteps⟩
  · exact Or.inl ⟨v, vm₁, B, X₁.warmed, X', hpost, fun target h => hstep₁ _ fun acts => by rw [doInvoke_state]; exact hsteps.trans h⟩
  · exact Or.inr ⟨q, vm₁, B, X₁.warmed, X', hpost, hstep₁ _ fun acts => by rw [doInvoke_state]; exact hsteps⟩
theorem vx_callSX (X : Stand p l e R s m args below meth c T locs cells slots) (hexec : p.tables.exec = Jvm.exec) {own : String} {index : Nat} {y : MethodName} {bytes : ByteArray} {maxL : Nat} {ret : Option FieldType} {hh : List (Nat × Nat × Nat × Nat)}
    (hown : s.vm.findClass own = some m.cls) (hlink : (Cond.methodLink own index y).before args s = true) (hstat : (Cond.static y).before args s = true) (hinit : (Cond.initialized y.cls).before args s = true)
    (hcode : (Cond.codeWith y bytes maxL ret hh).before args s = true) (hy : y.cls ≠ "java/lang/invoke/MethodHandle" ∧ y.cls ≠ "java/lang/invoke/VarHandle")
    {W9 : Nat} {Pre : Pt → Array Value → Prop} {Post : Pt → Array Value → Option Value → Pt → Prop} {PostX : Pt → Array Value → Addr → Pt → Prop} (hK : vx_Back l R p e below s args y 3 W9 Pre Post PostX)
    {g : JFrame} (hg : g.method = m) (hsize : g.locals.size = c.maxLocals) {argsL rest : List Value} (hlen : ∀ sig, parseMethodDescriptor y.desc = some sig → argsL.length = sig.parameters.length)
    (hstack : g.stack = argsL.reverse ++ rest) (hW : 2 * g.monitorRoom + (rest.map fun v => v.category).sum ≤ W9) (hdg : decode c.code g.pc = .ok (.invokestatic index, 3))
    (hpre : ∀ vm₁, s.WarmedH vm₁ → Pre ⟨T.setVm vm₁, locs, cells, slots⟩ argsL.toArray) :
    (∃ (v : Option Value) (vm₁ : Vm) (B : Pt), s.WarmedH vm₁ ∧ Stand p l e R s m args below meth c B.U B.locs B.cells B.slots ∧ Post ⟨T.setVm vm₁, locs, cells, slots⟩ argsL.toArray v B ∧
      ∀ target, Steps p.tables e below (B.U.setTop { g with pc := g.pc + 3, stack := v.toList ++ rest }) target → Steps p.tables e below (T.setTop g) target) ∨
    (∃ (q : Addr) (vm₁ : Vm) (B : Pt), s.WarmedH vm₁ ∧ Stand p l e R s m args below meth c B.U B.locs B.cells B.slots ∧ PostX ⟨T.setVm vm₁, locs, cells, slots⟩ argsL.toArray q B ∧
      Steps p.tables e below (T.setTop g) ((B.U.setTop { g with stack := rest }).pushFrame (.throwing q))) := by
  obtain ⟨mk, methM, cM, hnamed, hmethM, -, -, -, -, -, -, hsigM⟩ := Cond.codeWith_spec hcode
  have hstatic : methM.isStatic = true := Cond.static_spec hnamed hmethM hstat
  obtain ⟨kP, hkP, -⟩ := className_of_methodNamed hnamed
  have hinitP : kP.init = .initialized := Cond.initialized_spec (findClass_of_methodNamed hnamed) hkP hinit
  obtain ⟨vm₁, X₁, hstep₁⟩ := X.invokestatic hexec hown hlink hnamed hmethM hstatic hkP hinitP hy (g := g) hg (argsL := argsL) (rest := rest) (hlen _ hsigM) hstack hdg
  rcases hK m meth c ⟨T.setVm vm₁, locs, cells, slots⟩ { g with stack := rest } (.invokestatic index) mk argsL.toArray X₁ hg hsize hdg hW (X₁.named hnamed) (hpre vm₁ X₁.warmed) with ⟨v, B, X', hpost, hsteps⟩ | ⟨q, B, X', hpost, hsteps⟩
  · exact Or.inl ⟨v, vm₁, B, X₁.warmed, X', hpost, fun target h => hstep₁ _ fun acts => by rw [doInvoke_state]; exact hsteps.trans h⟩
  · exact Or.inr ⟨q, vm₁, B, X₁.warmed, X', hpost, hstep₁ _ fun acts => by rw [doInvoke_state]; exact hsteps⟩
theorem vx_callVW (X : Stand p l e R s m args below meth c T locs cells slots) (hexec : p.tables.exec = Jvm.exec) {own C : String} {index : Nat} {y : MethodName} {bytes : ByteArray} {maxL : Nat} {ret : Option FieldType} {hh : List (Nat × Nat × Nat × Nat)}
    (hown : s.vm.findClass own = some m.cls) (hlink : (Cond.methodLink own index y).before args s = true) (hinst : (Cond.instanceMethod y).before args s = true) (hsel : (Cond.selects C y y).before args s = true)
    (hcode : (Cond.codeWith y bytes maxL ret hh).before args s = true) (hy : y.cls ≠ "java/lang/invoke/MethodHandle" ∧ y.cls ≠ "java/lang/invoke/VarHandle")
    {W9 : Nat} {Pre : Pt → Array Value → Prop} {Post : Pt → Array Value → Option Value → Pt → Prop} (hK : Back l R p e below s args y 3 W9 Pre Post)
    {b : Addr} {cellB : Cell} (hcell : T.heap[b]? = some cellB) (hobj : cellB.vm.isStatics = false) (hcls : s.vm.findClass C = some cellB.cls)
    {g : JFrame} (hg : g.method = m) (hsize : g.locals.size = c.maxLocals) {argsL rest : List Value} (hlen : ∀ sig, parseMethodDescriptor y.desc = some sig → argsL.length = sig.parameters.length)
    (hstack : g.stack = argsL.reverse ++ .ref b :: rest) (hW : 2 * g.monitorRoom + (rest.map fun v => v.category).sum ≤ W9) (hdg : decode c.code g.pc = .ok (.invokevirtual index, 3))
    (hpre : ∀ vm₁, s.WarmedH vm₁ → Pre ⟨T.setVm vm₁, locs, cells, slots⟩ (Value.ref b :: argsL).toArray) :
    ∃ (v : Option Value) (vm₁ : Vm) (B : Pt), s.WarmedH vm₁ ∧ Stand p l e R s m args below meth c B.U B.locs B.cells B.slots ∧ Post ⟨T.setVm vm₁, locs, cells, slots⟩ (Value.ref b :: argsL).toArray v B ∧
      ∀ target, Steps p.tables e below (B.U.setTop { g with pc := g.pc + 3, stack := v.toList ++ rest }) target → Steps p.tables e below (T.setTop g) target := by
  obtain ⟨mk, methM, hnamed, hmethM, hstM, habM⟩ := Cond.instanceMethod_spec hinst
  obtain ⟨m8, methM', cM, hn8, hmethM', -, -, -, -, -, -, hsigM⟩ := Cond.codeWith_spec hcode
  cases Option.some.inj (hn8.symm.trans hnamed)
  cases hmethM.symm.trans hmethM'
  obtain ⟨c2, r2, m2, q1, q2, q3, q4, kP, hkP, hkPi⟩ := Cond.selects_spec hsel
  cases hcls.symm.trans q1
  cases (State.methodFound?_of_named hnamed hy).symm.trans q2
  cases hnamed.symm.trans q3
  have hselP : selectMethod e.platform s.vm cellB.cls mk = .method mk := by rw [Launch.admits_selectMethod X.admits]; exact q4
  obtain ⟨vm₁, X₁, hstep₁⟩ := X.invokevirtual hexec hown hlink hnamed hmethM hstM hkP hkPi hy (a := b) (cell := cellB) hcell
    (fun z h => by rw [h] at hobj; cases hobj) hselP hmethM habM hkP hkPi (g := g) hg (argsL := argsL) (rest := rest) (hlen _ hsigM) hstack hdg
  obtain ⟨v, B, X', hpost, hsteps⟩ := hK m meth c ⟨T.setVm vm₁, locs, cells, slots⟩ { g with stack := rest } (.invokevirtual index) mk (Value.ref b :: argsL).toArray X₁ hg hsize hdg hW (X₁.named hnamed) (hpre vm₁ X₁.warmed)
  exact ⟨v, vm₁, B, X₁.warmed, X', hpost, fun target h => hstep₁ _ fun acts => by rw [doInvoke_state]; exact hsteps.trans h⟩
abbrev vx_CVW (R : Room) (s : State) (args : Array Value) (own C : String) (index : Nat) (y : MethodName) (bytes : ByteArray) (maxL : Nat) (ret : Option FieldType) (hh : List (Nat × Nat × Nat × Nat)) (ws : List Cond) (rm : Room) (mc ms n : Nat) : Prop :=
  (rm.cells = mc ∧ rm.slots = ms ∧ rm.frames + 1 ≤ R.frames ∧ 8 + (maxL + 11) + rm.locals ≤ R.locals ∧ (∀ w ∈ ws, ∀ (a' : Array Value) (U : State), s.WarmedH U.vm → w.before a' U = true) ∧ Cond.codeWith y bytes maxL ret hh ∈ ws) ∧
  (Cond.codeWith y bytes maxL ret hh).before args s = true ∧ (Cond.initialized y.cls).before args s = true ∧ (y.cls ≠ "java/lang/invoke/MethodHandle" ∧ y.cls ≠ "java/lang/invoke/VarHandle") ∧
  (∀ sig, parseMethodDescriptor y.desc = some sig → n = sig.parameters.length) ∧ (Cond.methodLink own index y).before args s = true ∧ (Cond.instanceMethod y).before args s = true ∧ (Cond.selects C y y).before args s = true
theorem vx_cwVW {own C : String} {index maxL mc ms : Nat} {y : MethodName} {bytes : ByteArray} {ret : Option FieldType} {hh : List (Nat × Nat × Nat × Nat)} {Ts ws ws' : List Cond} {rm : Room} (n : Nat) (ht : ∀ w ∈ Ts, w.before args s = true) (hT : GoodIn Ts (wsV own index C y ws)) (hw : ws = Cond.codeWith y bytes maxL ret hh :: ws') (hrc : rm.cells = mc) (hrs : rm.slots = ms)
    (hd : y.cls = C ∧ y.cls ≠ "java/lang/invoke/MethodHandle" ∧ y.cls ≠ "java/lang/invoke/VarHandle" ∧ (parseMethodDescriptor y.desc).map (fun d => d.parameters.length) = some n) (hR : rm.frames + 1 ≤ R.frames ∧ 8 + (maxL + 11) + rm.locals ≤ R.locals) :
    vx_CVW R s args own C index y bytes maxL ret hh ws rm mc ms n := by
  obtain ⟨hC, hd⟩ := hd
  subst hC
  have ok : ∀ w ∈ wsV own index y.cls y ws, w.before args s = true := fun w h => ht w (hT w h).1
  have hG : GoodIn Ts ws := fun w h => hT w (by unfold wsV; exact List.mem_append_right _ h)
  have hc : Cond.codeWith y bytes maxL ret hh ∈ ws := by rw [hw]; exact List.mem_cons_self
  refine ⟨⟨hrc, hrs, hR.1, hR.2, pay_in ht hG, hc⟩, ht _ (hG _ hc).1, ok _ (by simp [wsV]), ⟨hd.1, hd.2.1⟩, fun sig h => ?_, ok _ (by simp [wsV]), ok _ (by simp [wsV]), ok _ (by simp [wsV])⟩
  have h2 := hd.2.2
  rw [h] at h2
  exact (Option.some.inj h2).symm
theorem vx_runVW {y : MethodName} {bytes cc : ByteArray} {maxL nL mc ms n index : Nat} {ret : Option FieldType} {hh : List (Nat × Nat × Nat × Nat)} {ws : List Cond} {rm : Room} {Pc : Array Value → State → Prop} {Qc : Array Value → State → Outcome → State → Prop} {free : Addr → Prop} {Ts : List Cond} {own C : String} {b : Addr} {As rest : List Value} {g : JFrame}
    (S : CallFix p m c cc nL s args Ts own) (hM : Met l y ws rm Pc Qc mc ms free) (cw : vx_CVW R s args own C index y bytes maxL ret hh ws rm mc ms n) (hp : PreV s H C b Pc As)
    (hg : g.method = m) (hn : As.length = n) (hsize : g.locals.size = nL) (hstack : g.stack = As.reverse ++ .ref b :: rest) (hW : 2 * g.monitorRoom + (rest.map fun v => v.category).sum ≤ 8) (hdg : decode cc g.pc = .ok (.invokevirtual index, 3)) (hf : cells + mc ≤ R.cells ∧ slots + ms ≤ R.slots) :
    va_Run p l e R s m args below meth c H locs cells slots mc ms g rest (Qc (Value.ref b :: As).toArray) free := by
  obtain ⟨⟨hrc, hrs, hfr, hlo, hws, hcw⟩, hcode, hini, hy, hlen, hl, hin, hse⟩ := cw
  have hK : Back l R p e below s args y 3 8 (PreOf R mc ms Pc) (PostOf Qc mc ms free) := va_backW (hh := hh) (bytes := bytes) (maxL := maxL) (ret := ret) hM hp.1 hrc hrs hfr hlo hws hcw (fun a' U hW => word_at hW (Or.inl (by first | rfl | simp [Cond.onTables, Cond.keeps, Cond.steady])) hini)
  obtain ⟨hx, hb, hml, ho, -⟩ := S
  obtain ⟨-, ⟨cellB, hcB, hoB, hclB⟩, hPc⟩ := hp
  intro T hT X
  obtain ⟨v, vm₁, ⟨U', l2, c2, s2⟩, hW₁, X', ⟨g', mk, t, L, e1, e2, hq, h1, hL, h2, h3⟩, st⟩ := vx_callVW X hx (C := C) (hh := hh) (bytes := bytes) (maxL := maxL) (ret := ret) ho hl hin hse hcode hy hK (by rw [hT]; exact hcB) hoB hclB hg (hsize.trans hml.symm) (argsL := As) (rest := rest) (fun sig h => hn.trans (hlen sig h)) hstack hW (by rw [hb]; exact hdg)
    (fun vm₁ hW₁ => ⟨hf.1, hf.2, hPc (T.setVm vm₁) hT hW₁⟩)
  dsimp only [Pt.U, Pt.locs, Pt.cells, Pt.slots] at X' e1 e2 h1 h2 h3 st
  subst h1; subst h2; subst h3
  exact ⟨v, (T.setVm vm₁).calling g' mk (Value.ref b :: As).toArray, t, U', L, hT, X', hL, e1, e2, hq, st⟩
section
variable {y : MethodName} {bytes cc : ByteArray} {maxL nL mc ms n index : Nat} {ret : Option FieldType} {ws : List Cond} {rm : Room} {Pc : Array Value → State → Prop} {Qc : Array Value → State → Outcome → State → Prop} {XC : String → State → State → Prop} {free : Addr → Prop} {Ts : List Cond} {own C : String} {b : Addr} {As rest : List Value} {g : JFrame}
theorem vx_runVX {hh : List (Nat × Nat × Nat × Nat)} (S : CallFix p m c cc nL s args Ts own) (hM : vx_Met l y ws rm Pc Qc XC mc ms free) (cw : vx_CVW R s args own C index y bytes maxL ret hh ws rm mc ms n) (hp : PreV s H C b Pc As)
    (hg : g.method = m) (hn : As.length = n) (hsize : g.locals.size = nL) (hstack : g.stack = As.reverse ++ .ref b :: rest) (hW : 2 * g.monitorRoom + (rest.map fun v => v.category).sum ≤ 8) (hdg : decode cc g.pc = .ok (.invokevirtual index, 3)) (hf : cells + mc ≤ R.cells ∧ slots + ms ≤ R.slots) :
    vx_Run p l e R s m args below meth c H locs cells slots mc ms g rest (Qc (Value.ref b :: As).toArray) XC free := by
  obtain ⟨⟨hrc, hrs, hfr, hlo, hws, hcw⟩, hcode, hini, hy, hlen, hl, hin, hse⟩ := cw
  have hK : vx_Back l R p e below s args y 3 8 (PreOf R mc ms Pc) (PostOf Qc mc ms free) (vx_Post XC mc ms free) := vx_backW (hh := hh) (bytes := bytes) (maxL := maxL) (ret := ret) hM hp.1 hrc hrs hfr hlo hws hcw (fun a' U hW => word_at hW (Or.inl (by first | rfl | simp [Cond.onTables, Cond.keeps, Cond.steady])) hini)
  obtain ⟨hx, hb, hml, ho, -⟩ := S
  obtain ⟨-, ⟨cellB, hcB, hoB, hclB⟩, hPc⟩ := hp
  intro T hT X
  rcases vx_callVX X hx (C := C) (hh := hh) (bytes := bytes) (maxL := maxL) (ret := ret) ho hl hin hse hcode hy hK (by rw [hT]; exact hcB) hoB hclB hg (hsize.trans hml.symm) (argsL := As) (rest := rest) (fun sig h => hn.trans (hlen sig h)) hstack hW (by rw [hb]; exact hdg)
    (fun vm₁ hW₁ => ⟨hf.1, hf.2, hPc (T.setVm vm₁) hT hW₁⟩) with ⟨v, vm₁, ⟨U', l2, c2, s2⟩, hW₁, X', ⟨g', mk, t, L, e1, e2, hq, h1, hL, h2, h3⟩, st⟩ | ⟨q, vm₁, ⟨U', l2, c2, s2⟩, hW₁, X', ⟨g', mk, t, L, E, ce, e1, e2, hq, hce, hcv, hcl, h1, hL, h2, h3⟩, st⟩
  · dsimp only [Pt.U, Pt.locs, Pt.cells, Pt.slots] at X' e1 e2 h1 h2 h3 st
    subst h1; subst h2; subst h3
    exact Or.inl ⟨v, (T.setVm vm₁).calling g' mk (Value.ref b :: As).toArray, t, U', L, hT, X', hL, e1, e2, hq, st⟩
  · dsimp only [Pt.U, Pt.locs, Pt.cells, Pt.slots] at X' e1 e2 h1 h2 h3 st hcl
    subst h1; subst h2; subst h3
    exact Or.inr ⟨q, (T.setVm vm₁).calling g' mk (Value.ref b :: As).toArray, t, U', L, E, ce, hT, X', hL, e1, e2, hq, hce, hcv, vx_cls hW₁ hcl, st⟩
theorem vx_runSX {hh : List (Nat × Nat × Nat × Nat)} (S : CallFix p m c cc nL s args Ts own) (hM : vx_Met l y ws rm Pc Qc XC mc ms free) (cw : vx_CSW R s args own index y bytes maxL ret hh ws rm mc ms n) (hp : PreS s H Pc As)
    (hg : g.method = m) (hn : As.length = n) (hsize : g.locals.size = nL) (hstack : g.stack = As.reverse ++ rest) (hW : 2 * g.monitorRoom + (rest.map fun v => v.category).sum ≤ 8) (hdg : decode cc g.pc = .ok (.invokestatic index, 3)) (hf : cells + mc ≤ R.cells ∧ slots + ms ≤ R.slots) :
    vx_Run p l e R s m args below meth c H locs cells slots mc ms g rest (Qc As.toArray) XC free := by
  obtain ⟨⟨hrc, hrs, hfr, hlo, hws, hcw⟩, hcode, hini, hy, hlen, hl, hstt⟩ := cw
  have hK : vx_Back l R p e below s args y 3 8 (PreOf R mc ms Pc) (PostOf Qc mc ms free) (vx_Post XC mc ms free) := vx_backW (hh := hh) (bytes := bytes) (maxL := maxL) (ret := ret) hM hp.1 hrc hrs hfr hlo hws hcw (fun a' U hW => word_at hW (Or.inl (by first | rfl | simp [Cond.onTables, Cond.keeps, Cond.steady])) hini)
  obtain ⟨hx, hb, hml, ho, -⟩ := S
  intro T hT X
  rcases vx_callSX X hx (hh := hh) (bytes := bytes) (maxL := maxL) (ret := ret) ho hl hstt hini hcode hy hK hg (hsize.trans hml.symm) (argsL := As) (rest := rest) (fun sig h => hn.trans (hlen sig h)) hstack hW (by rw [hb]; exact hdg)
    (fun vm₁ hW₁ => ⟨hf.1, hf.2, hp.2 (T.setVm vm₁) hT hW₁⟩) with ⟨v, vm₁, ⟨U', l2, c2, s2⟩, hW₁, X', ⟨g', mk, t, L, e1, e2, hq, h1, hL, h2, h3⟩, st⟩ | ⟨q, vm₁, ⟨U', l2, c2, s2⟩, hW₁, X', ⟨g', mk, t, L, E, ce, e1, e2, hq, hce, hcv, hcl, h1, hL, h2, h3⟩, st⟩
  · dsimp only [Pt.U, Pt.locs, Pt.cells, Pt.slots] at X' e1 e2 h1 h2 h3 st
    subst h1; subst h2; subst h3
    exact Or.inl ⟨v, (T.setVm vm₁).calling g' mk As.toArray, t, U', L, hT, X', hL, e1, e2, hq, st⟩
  · dsimp only [Pt.U, Pt.locs, Pt.cells, Pt.slots] at X' e1 e2 h1 h2 h3 st hcl
    subst h1; subst h2; subst h3
    exact Or.inr ⟨q, (T.setVm vm₁).calling g' mk As.toArray, t, U', L, E, ce, hT, X', hL, e1, e2, hq, hce, hcv, vx_cls hW₁ hcl, st⟩
end
end VXH
theorem vx_ofWH {l : Launch} {y : MethodName} {ws ws' : List Cond} {rm : Room} {Pc : Array Value → State → Prop} {Qc : Array Value → State → Outcome → State → Prop} {XC : String → State → State → Prop} {mc ms : Nat} {free : Addr → Prop} {cc : ByteArray} {maxL : Nat} {ret : Option FieldType} {hh : List (Nat × Nat × Nat × Nat)}
    (hy : plainName y.cls = true) (hw : ws = Cond.codeWith y cc maxL ret hh :: ws')
    (body : ∀ p e s m args below meth c s₁, BodyLoose p l y (headSpec ws rm) cc maxL ret e s m args below meth c s₁ → c.maxLocals = maxL → Pc args s →
      W p l e (headSpec ws rm).room s m args below meth c s.heap [] 0 0 (vx_MQ below Qc XC args s mc ms free) (entryFrame m args maxL)) : vx_Met l y ws rm Pc Qc XC mc ms free := by
  refine MetFree.of_bodyS (code := cc) (maxLocals := maxL) (ret := ret) hy ?_ ?_
  · intro args s m h hn
    obtain ⟨m9, meth, c, hn9, h1, h2, h3, h4, -, h5, h6, -⟩ := Cond.codeWith_spec (atoms_spec (ws := ws) h _ (by rw [hw]; exact List.mem_cons_self))
    cases hn.symm.trans hn9
    exact ⟨meth, c, h1, h2, h3, h4, h5, h6⟩
  · intro p e s m args below meth c s₁ B hml hP _
    have hh0 : s₁.heap = s.heap := by rw [B.state]; rfl
    obtain ⟨t, a1, o, b1, b2, b3⟩ := body p e s m args below meth c s₁ B hml hP s₁ hh0 (Stand.of_body B)
    exact ⟨t, o, a1, b1, b2, b3⟩
/-! ===== END ===== -/
end
section
def RX0 : String := "StripeTrees$State"
def TX0 : u_T := fun k => match k with
  | _ => ("StripeTrees$State", "cells", "[I", true)
def tyX0 : Nat → FieldType := fun k => match k with
  | _ => .array .int
abbrev wsX00 : List Cond := u_ws RX0 TX0 1
theorem nmX0 : ∀ a, a < 1 → ∀ b, b < 1 → a ≠ b → (TX0 a).2.1 ≠ (TX0 b).2.1 := by decide +kernel
theorem tyX0_ok : ∀ k, k < 1 → parseFieldDescriptor (TX0 k).2.2.1 = some (tyX0 k) := by decide +kernel
abbrev cX0_init : ByteArray := prog_2_method_1_code
def yX0_init : MethodName := ⟨RX0, "<init>", "()V"⟩
abbrev cX0_value : ByteArray := prog_2_method_2_code
def yX0_value : MethodName := ⟨RX0, "value", "(II)I"⟩
abbrev cX0_setValue : ByteArray := prog_2_method_3_code
def yX0_setValue : MethodName := ⟨RX0, "setValue", "(III)V"⟩
abbrev cX0_addToValue : ByteArray := prog_2_method_4_code
def yX0_addToValue : MethodName := ⟨RX0, "addToValue", "(III)V"⟩
abbrev cX0_parentOf : ByteArray := prog_2_method_5_code
def yX0_parentOf : MethodName := ⟨RX0, "parentOf", "(II)I"⟩
abbrev cX0_moveTo : ByteArray := prog_2_method_6_code
def yX0_moveTo : MethodName := ⟨RX0, "moveTo", "(III)V"⟩
abbrev cX0_addChildren : ByteArray := prog_2_method_7_code
def yX0_addChildren : MethodName := ⟨RX0, "addChildren", "(III)V"⟩
abbrev cX0_figure : ByteArray := prog_2_method_8_code
def yX0_figure : MethodName := ⟨RX0, "figure", "(I)I"⟩
abbrev cX0_setFigure : ByteArray := prog_2_method_9_code
def yX0_setFigure : MethodName := ⟨RX0, "setFigure", "(II)V"⟩
abbrev cX0_addToFigure : ByteArray := prog_2_method_10_code
def yX0_addToFigure : MethodName := ⟨RX0, "addToFigure", "(II)V"⟩
abbrev cX0_copyTo : ByteArray := prog_2_method_11_code
def yX0_copyTo : MethodName := ⟨RX0, "copyTo", "([II)V"⟩
abbrev cX0_copyFrom : ByteArray := prog_2_method_12_code
def yX0_copyFrom : MethodName := ⟨RX0, "copyFrom", "([II)V"⟩
def RX1 : String := "StripeTrees$Trees"
def TX1 : u_T := fun k => match k with
  | _ => ("StripeTrees$Trees", "state", "LStripeTrees$State;", true)
def tyX1 : Nat → FieldType := fun k => match k with
  | _ => .object "StripeTrees$State"
abbrev wsX10 : List Cond := u_ws RX1 TX1 1
theorem nmX1 : ∀ a, a < 1 → ∀ b, b < 1 → a ≠ b → (TX1 a).2.1 ≠ (TX1 b).2.1 := by decide +kernel
theorem tyX1_ok : ∀ k, k < 1 → parseFieldDescriptor (TX1 k).2.2.1 = some (tyX1 k) := by decide +kernel
abbrev cX1_init : ByteArray := prog_3_method_1_code
def yX1_init : MethodName := ⟨RX1, "<init>", "()V"⟩
abbrev cX1_depthOf : ByteArray := prog_3_method_2_code
def yX1_depthOf : MethodName := ⟨RX1, "depthOf", "(II)I"⟩
abbrev cX1_isUnder : ByteArray := prog_3_method_3_code
def yX1_isUnder : MethodName := ⟨RX1, "isUnder", "(III)Z"⟩
abbrev cX1_getsPiece : ByteArray := prog_3_method_4_code
def yX1_getsPiece : MethodName := ⟨RX1, "getsPiece", "(II)Z"⟩
abbrev cX1_piecesOf : ByteArray := prog_3_method_5_code
def yX1_piecesOf : MethodName := ⟨RX1, "piecesOf", "(I)I"⟩
abbrev cX1_childrenAt : ByteArray := prog_3_method_6_code
def yX1_childrenAt : MethodName := ⟨RX1, "childrenAt", "(II)I"⟩
abbrev cX1_childAt : ByteArray := prog_3_method_7_code
def yX1_childAt : MethodName := ⟨RX1, "childAt", "(III)I"⟩
abbrev cX1_subtreeSize : ByteArray := prog_3_method_8_code
def yX1_subtreeSize : MethodName := ⟨RX1, "subtreeSize", "(II)I"⟩
abbrev cX1_canBeInner : ByteArray := prog_3_method_9_code
def yX1_canBeInner : MethodName := ⟨RX1, "canBeInner", "(II)Z"⟩
abbrev cX1_isRoomAt : ByteArray := prog_3_method_10_code
def yX1_isRoomAt : MethodName := ⟨RX1, "isRoomAt", "(II)Z"⟩
abbrev cX1_isBefore : ByteArray := prog_3_method_11_code
def yX1_isBefore : MethodName := ⟨RX1, "isBefore", "(III)Z"⟩
abbrev cX1_lastChild : ByteArray := prog_3_method_12_code
def yX1_lastChild : MethodName := ⟨RX1, "lastChild", "(II)I"⟩
abbrev cX1_firstInnerChild : ByteArray := prog_3_method_13_code
def yX1_firstInnerChild : MethodName := ⟨RX1, "firstInnerChild", "(II)I"⟩
abbrev cX1_spareMember : ByteArray := prog_3_method_14_code
def yX1_spareMember : MethodName := ⟨RX1, "spareMember", "(I)I"⟩
abbrev cX1_attach : ByteArray := prog_3_method_15_code
def yX1_attach : MethodName := ⟨RX1, "attach", "(II)V"⟩
abbrev cX1_takePlace : ByteArray := prog_3_method_16_code
def yX1_takePlace : MethodName := ⟨RX1, "takePlace", "(III)V"⟩
abbrev cX1_attachToSpare : ByteArray := prog_3_method_17_code
def yX1_attachToSpare : MethodName := ⟨RX1, "attachToSpare", "(III)V"⟩
abbrev cX1_isOrphan : ByteArray := prog_3_method_18_code
def yX1_isOrphan : MethodName := ⟨RX1, "isOrphan", "(II)Z"⟩
abbrev cX1_attachOrphans : ByteArray := prog_3_method_19_code
def yX1_attachOrphans : MethodName := ⟨RX1, "attachOrphans", "()V"⟩
abbrev cX1_cutChildren : ByteArray := prog_3_method_20_code
def yX1_cutChildren : MethodName := ⟨RX1, "cutChildren", "(III)V"⟩
abbrev cX1_takeIn : ByteArray := prog_3_method_21_code
def yX1_takeIn : MethodName := ⟨RX1, "takeIn", "(III)V"⟩
abbrev cX1_takeOut : ByteArray := prog_3_method_22_code
def yX1_takeOut : MethodName := ⟨RX1, "takeOut", "(I)V"⟩
abbrev cX1_connected : ByteArray := prog_3_method_23_code
def yX1_connected : MethodName := ⟨RX1, "connected", "(I)I"⟩
abbrev cX1_orphans : ByteArray := prog_3_method_24_code
def yX1_orphans : MethodName := ⟨RX1, "orphans", "(I)I"⟩
abbrev cX1_greatestDepth : ByteArray := prog_3_method_25_code
def yX1_greatestDepth : MethodName := ⟨RX1, "greatestDepth", "(I)I"⟩
abbrev cX1_withRoom : ByteArray := prog_3_method_26_code
def yX1_withRoom : MethodName := ⟨RX1, "withRoom", "(I)I"⟩
abbrev cX1_withChildren : ByteArray := prog_3_method_27_code
def yX1_withChildren : MethodName := ⟨RX1, "withChildren", "(I)I"⟩
def RX2 : String := "StripeTrees$UndoStack"
def TX2 : u_T := fun k => match k with
  | 0 => ("StripeTrees$UndoStack", "rows", "[I", true)
  | 1 => ("StripeTrees$UndoStack", "saved", "I", false)
  | _ => ("StripeTrees$UndoStack", "next", "I", false)
def tyX2 : Nat → FieldType := fun k => match k with
  | 0 => .array .int
  | 1 => .int
  | _ => .int
abbrev wsX20 : List Cond := u_ws RX2 TX2 3
theorem nmX2 : ∀ a, a < 3 → ∀ b, b < 3 → a ≠ b → (TX2 a).2.1 ≠ (TX2 b).2.1 := by decide +kernel
theorem tyX2_ok : ∀ k, k < 3 → parseFieldDescriptor (TX2 k).2.2.1 = some (tyX2 k) := by decide +kernel
abbrev cX2_init : ByteArray := prog_4_method_1_code
def yX2_init : MethodName := ⟨RX2, "<init>", "()V"⟩
abbrev cX2_size : ByteArray := prog_4_method_2_code
def yX2_size : MethodName := ⟨RX2, "size", "()I"⟩
abbrev cX2_push : ByteArray := prog_4_method_3_code
def yX2_push : MethodName := ⟨RX2, "push", "(LStripeTrees$State;)V"⟩
abbrev cX2_popInto : ByteArray := prog_4_method_4_code
def yX2_popInto : MethodName := ⟨RX2, "popInto", "(LStripeTrees$State;)V"⟩
def RX3 : String := "StripeTrees"
def TX3 : u_T := fun k => match k with
  | 0 => ("StripeTrees", "trees", "LStripeTrees$Trees;", true)
  | 1 => ("StripeTrees", "state", "LStripeTrees$State;", true)
  | _ => ("StripeTrees", "undoStack", "LStripeTrees$UndoStack;", true)
def tyX3 : Nat → FieldType := fun k => match k with
  | 0 => .object "StripeTrees$Trees"
  | 1 => .object "StripeTrees$State"
  | _ => .object "StripeTrees$UndoStack"
abbrev wsX30 : List Cond := u_ws RX3 TX3 3
theorem nmX3 : ∀ a, a < 3 → ∀ b, b < 3 → a ≠ b → (TX3 a).2.1 ≠ (TX3 b).2.1 := by decide +kernel
theorem tyX3_ok : ∀ k, k < 3 → parseFieldDescriptor (TX3 k).2.2.1 = some (tyX3 k) := by decide +kernel
abbrev cX3_init : ByteArray := prog_1_method_1_code
def yX3_init : MethodName := ⟨RX3, "<init>", "()V"⟩
abbrev cX3_join : ByteArray := prog_1_method_2_code
def yX3_join : MethodName := ⟨RX3, "join", "(III)I"⟩
abbrev cX3_leave : ByteArray := prog_1_method_3_code
def yX3_leave : MethodName := ⟨RX3, "leave", "(I)I"⟩
abbrev cX3_fail : ByteArray := prog_1_method_4_code
def yX3_fail : MethodName := ⟨RX3, "fail", "(I)I"⟩
abbrev cX3_setBound : ByteArray := prog_1_method_5_code
def yX3_setBound : MethodName := ⟨RX3, "setBound", "(II)I"⟩
abbrev cX3_setSource : ByteArray := prog_1_method_6_code
def yX3_setSource : MethodName := ⟨RX3, "setSource", "(I)I"⟩
abbrev cX3_setDelay : ByteArray := prog_1_method_7_code
def yX3_setDelay : MethodName := ⟨RX3, "setDelay", "(I)I"⟩
abbrev cX3_repair : ByteArray := prog_1_method_8_code
def yX3_repair : MethodName := ⟨RX3, "repair", "()I"⟩
abbrev cX3_rejoin : ByteArray := prog_1_method_9_code
def yX3_rejoin : MethodName := ⟨RX3, "rejoin", "(II)I"⟩
abbrev cX3_tick : ByteArray := prog_1_method_10_code
def yX3_tick : MethodName := ⟨RX3, "tick", "(I)I"⟩
abbrev cX3_time : ByteArray := prog_1_method_11_code
def yX3_time : MethodName := ⟨RX3, "time", "()I"⟩
abbrev cX3_member : ByteArray := prog_1_method_12_code
def yX3_member : MethodName := ⟨RX3, "member", "(II)I"⟩
abbrev cX3_parent : ByteArray := prog_1_method_13_code
def yX3_parent : MethodName := ⟨RX3, "parent", "(II)I"⟩
abbrev cX3_depth : ByteArray := prog_1_method_14_code
def yX3_depth : MethodName := ⟨RX3, "depth", "(II)I"⟩
abbrev cX3_child : ByteArray := prog_1_method_15_code
def yX3_child : MethodName := ⟨RX3, "child", "(III)I"⟩
abbrev cX3_subtree : ByteArray := prog_1_method_16_code
def yX3_subtree : MethodName := ⟨RX3, "subtree", "(II)I"⟩
abbrev cX3_hasRoom : ByteArray := prog_1_method_17_code
def yX3_hasRoom : MethodName := ⟨RX3, "hasRoom", "(II)Z"⟩
abbrev cX3_ranksBefore : ByteArray := prog_1_method_18_code
def yX3_ranksBefore : MethodName := ⟨RX3, "ranksBefore", "(III)Z"⟩
abbrev cX3_harm : ByteArray := prog_1_method_19_code
def yX3_harm : MethodName := ⟨RX3, "harm", "(I)I"⟩
abbrev cX3_pieces : ByteArray := prog_1_method_20_code
def yX3_pieces : MethodName := ⟨RX3, "pieces", "(I)I"⟩
abbrev cX3_stripe : ByteArray := prog_1_method_21_code
def yX3_stripe : MethodName := ⟨RX3, "stripe", "(II)I"⟩
abbrev cX3_count : ByteArray := prog_1_method_22_code
def yX3_count : MethodName := ⟨RX3, "count", "(I)I"⟩
abbrev cX3_undo : ByteArray := prog_1_method_23_code
def yX3_undo : MethodName := ⟨RX3, "undo", "()I"⟩
abbrev cX3_digest : ByteArray := prog_1_method_24_code
def yX3_digest : MethodName := ⟨RX3, "digest", "()J"⟩
abbrev cX3_mixedWithMember : ByteArray := prog_1_method_25_code
def yX3_mixedWithMember : MethodName := ⟨RX3, "mixedWithMember", "(JI)J"⟩
abbrev cX3_mixed : ByteArray := prog_1_method_26_code
def yX3_mixed : MethodName := ⟨RX3, "mixed", "(JJ)J"⟩
abbrev cX3_isJoined : ByteArray := prog_1_method_27_code
def yX3_isJoined : MethodName := ⟨RX3, "isJoined", "(I)Z"⟩
abbrev cX3_hasFailed : ByteArray := prog_1_method_28_code
def yX3_hasFailed : MethodName := ⟨RX3, "hasFailed", "(I)Z"⟩
abbrev cX3_connectedStripes : ByteArray := prog_1_method_29_code
def yX3_connectedStripes : MethodName := ⟨RX3, "connectedStripes", "(I)I"⟩
abbrev cX3_noticeFailures : ByteArray := prog_1_method_30_code
def yX3_noticeFailures : MethodName := ⟨RX3, "noticeFailures", "()V"⟩
abbrev cX3_quietTicks : ByteArray := prog_1_method_31_code
def yX3_quietTicks : MethodName := ⟨RX3, "quietTicks", "()I"⟩
abbrev cX3_sendBlocks : ByteArray := prog_1_method_32_code
def yX3_sendBlocks : MethodName := ⟨RX3, "sendBlocks", "(I)I"⟩
abbrev cX3_receiveBlocks : ByteArray := prog_1_method_33_code
def yX3_receiveBlocks : MethodName := ⟨RX3, "receiveBlocks", "(II)I"⟩
abbrev cX3_requireMember : ByteArray := prog_1_method_34_code
def yX3_requireMember : MethodName := ⟨RX3, "requireMember", "(I)V"⟩
abbrev cX3_requirePlace : ByteArray := prog_1_method_35_code
def yX3_requirePlace : MethodName := ⟨RX3, "requirePlace", "(I)V"⟩
abbrev cX3_requireStripe : ByteArray := prog_1_method_36_code
def yX3_requireStripe : MethodName := ⟨RX3, "requireStripe", "(I)V"⟩
abbrev cX3_requireRange : ByteArray := prog_1_method_37_code
def yX3_requireRange : MethodName := ⟨RX3, "requireRange", "(III)V"⟩
abbrev cX3_requireJoined : ByteArray := prog_1_method_38_code
def yX3_requireJoined : MethodName := ⟨RX3, "requireJoined", "(I)V"⟩
abbrev cX3_requireJoinedPlace : ByteArray := prog_1_method_39_code
def yX3_requireJoinedPlace : MethodName := ⟨RX3, "requireJoinedPlace", "(I)V"⟩
def RX4 : String := "StripeTreesModel"
def TX4 : u_T := fun k => match k with
  | 0 => ("StripeTreesModel", "m", "[I", true)
  | 1 => ("StripeTreesModel", "saved", "[I", true)
  | 2 => ("StripeTreesModel", "savedCount", "I", false)
  | 3 => ("StripeTreesModel", "code", "I", false)
  | _ => ("StripeTreesModel", "hash", "J", false)
def tyX4 : Nat → FieldType := fun k => match k with
  | 0 => .array .int
  | 1 => .array .int
  | 2 => .int
  | 3 => .int
  | _ => .long
abbrev wsX40 : List Cond := u_ws RX4 TX4 5
theorem nmX4 : ∀ a, a < 5 → ∀ b, b < 5 → a ≠ b → (TX4 a).2.1 ≠ (TX4 b).2.1 := by decide +kernel
theorem tyX4_ok : ∀ k, k < 5 → parseFieldDescriptor (TX4 k).2.2.1 = some (tyX4 k) := by decide +kernel
abbrev cX4_init : ByteArray := prog_6_method_1_code
def yX4_init : MethodName := ⟨RX4, "<init>", "()V"⟩
abbrev cX4_thrown : ByteArray := prog_6_method_2_code
def yX4_thrown : MethodName := ⟨RX4, "thrown", "()I"⟩
abbrev cX4_in : ByteArray := prog_6_method_3_code
def yX4_in : MethodName := ⟨RX4, "in", "(III)Z"⟩
abbrev cX4_keep : ByteArray := prog_6_method_4_code
def yX4_keep : MethodName := ⟨RX4, "keep", "()V"⟩
abbrev cX4_isMember : ByteArray := prog_6_method_5_code
def yX4_isMember : MethodName := ⟨RX4, "isMember", "(I)Z"⟩
abbrev cX4_isStripe : ByteArray := prog_6_method_6_code
def yX4_isStripe : MethodName := ⟨RX4, "isStripe", "(I)Z"⟩
abbrev cX4_of : ByteArray := prog_6_method_7_code
def yX4_of : MethodName := ⟨RX4, "of", "(II)I"⟩
abbrev cX4_put : ByteArray := prog_6_method_8_code
def yX4_put : MethodName := ⟨RX4, "put", "(III)V"⟩
abbrev cX4_isJoined : ByteArray := prog_6_method_9_code
def yX4_isJoined : MethodName := ⟨RX4, "isJoined", "(I)Z"⟩
abbrev cX4_isChild : ByteArray := prog_6_method_10_code
def yX4_isChild : MethodName := ⟨RX4, "isChild", "(III)Z"⟩
abbrev cX4_childrenIn : ByteArray := prog_6_method_11_code
def yX4_childrenIn : MethodName := ⟨RX4, "childrenIn", "(II)I"⟩
abbrev cX4_childrenOf : ByteArray := prog_6_method_12_code
def yX4_childrenOf : MethodName := ⟨RX4, "childrenOf", "(I)I"⟩
abbrev cX4_depthOf : ByteArray := prog_6_method_13_code
def yX4_depthOf : MethodName := ⟨RX4, "depthOf", "(II)I"⟩
abbrev cX4_isUnder : ByteArray := prog_6_method_14_code
def yX4_isUnder : MethodName := ⟨RX4, "isUnder", "(III)Z"⟩
abbrev cX4_isInnerElsewhere : ByteArray := prog_6_method_15_code
def yX4_isInnerElsewhere : MethodName := ⟨RX4, "isInnerElsewhere", "(II)Z"⟩
abbrev cX4_canBeInner : ByteArray := prog_6_method_16_code
def yX4_canBeInner : MethodName := ⟨RX4, "canBeInner", "(II)Z"⟩
abbrev cX4_isRoomy : ByteArray := prog_6_method_17_code
def yX4_isRoomy : MethodName := ⟨RX4, "isRoomy", "(II)Z"⟩
abbrev cX4_isAhead : ByteArray := prog_6_method_18_code
def yX4_isAhead : MethodName := ⟨RX4, "isAhead", "(III)Z"⟩
abbrev cX4_lastChild : ByteArray := prog_6_method_19_code
def yX4_lastChild : MethodName := ⟨RX4, "lastChild", "(II)I"⟩
abbrev cX4_firstInner : ByteArray := prog_6_method_20_code
def yX4_firstInner : MethodName := ⟨RX4, "firstInner", "(II)I"⟩
abbrev cX4_nearestRoom : ByteArray := prog_6_method_21_code
def yX4_nearestRoom : MethodName := ⟨RX4, "nearestRoom", "(II)I"⟩
abbrev cX4_attach : ByteArray := prog_6_method_22_code
def yX4_attach : MethodName := ⟨RX4, "attach", "(II)V"⟩
abbrev cX4_attachAll : ByteArray := prog_6_method_23_code
def yX4_attachAll : MethodName := ⟨RX4, "attachAll", "()V"⟩
abbrev cX4_orphans : ByteArray := prog_6_method_24_code
def yX4_orphans : MethodName := ⟨RX4, "orphans", "(I)I"⟩
abbrev cX4_join : ByteArray := prog_6_method_25_code
def yX4_join : MethodName := ⟨RX4, "join", "(III)I"⟩
abbrev cX4_goes : ByteArray := prog_6_method_26_code
def yX4_goes : MethodName := ⟨RX4, "goes", "(I)V"⟩
abbrev cX4_leave : ByteArray := prog_6_method_27_code
def yX4_leave : MethodName := ⟨RX4, "leave", "(I)I"⟩
abbrev cX4_fail : ByteArray := prog_6_method_28_code
def yX4_fail : MethodName := ⟨RX4, "fail", "(I)I"⟩
abbrev cX4_cut : ByteArray := prog_6_method_29_code
def yX4_cut : MethodName := ⟨RX4, "cut", "(III)V"⟩
abbrev cX4_setBound : ByteArray := prog_6_method_30_code
def yX4_setBound : MethodName := ⟨RX4, "setBound", "(II)I"⟩
abbrev cX4_setSource : ByteArray := prog_6_method_31_code
def yX4_setSource : MethodName := ⟨RX4, "setSource", "(I)I"⟩
abbrev cX4_setDelay : ByteArray := prog_6_method_32_code
def yX4_setDelay : MethodName := ⟨RX4, "setDelay", "(I)I"⟩
abbrev cX4_repair : ByteArray := prog_6_method_33_code
def yX4_repair : MethodName := ⟨RX4, "repair", "()I"⟩
abbrev cX4_rejoin : ByteArray := prog_6_method_34_code
def yX4_rejoin : MethodName := ⟨RX4, "rejoin", "(II)I"⟩
abbrev cX4_gets : ByteArray := prog_6_method_35_code
def yX4_gets : MethodName := ⟨RX4, "gets", "(III)Z"⟩
abbrev cX4_piecesOf : ByteArray := prog_6_method_36_code
def yX4_piecesOf : MethodName := ⟨RX4, "piecesOf", "(II)I"⟩
abbrev cX4_sendTo : ByteArray := prog_6_method_37_code
def yX4_sendTo : MethodName := ⟨RX4, "sendTo", "(I)V"⟩
abbrev cX4_tickOne : ByteArray := prog_6_method_38_code
def yX4_tickOne : MethodName := ⟨RX4, "tickOne", "()V"⟩
abbrev cX4_tick : ByteArray := prog_6_method_39_code
def yX4_tick : MethodName := ⟨RX4, "tick", "(I)I"⟩
abbrev cX4_time : ByteArray := prog_6_method_40_code
def yX4_time : MethodName := ⟨RX4, "time", "()I"⟩
abbrev cX4_innerStripe : ByteArray := prog_6_method_41_code
def yX4_innerStripe : MethodName := ⟨RX4, "innerStripe", "(I)I"⟩
abbrev cX4_memberOf : ByteArray := prog_6_method_42_code
def yX4_memberOf : MethodName := ⟨RX4, "memberOf", "(II)I"⟩
abbrev cX4_member : ByteArray := prog_6_method_43_code
def yX4_member : MethodName := ⟨RX4, "member", "(II)I"⟩
abbrev cX4_misses : ByteArray := prog_6_method_44_code
def yX4_misses : MethodName := ⟨RX4, "misses", "(ZZ)I"⟩
abbrev cX4_parent : ByteArray := prog_6_method_45_code
def yX4_parent : MethodName := ⟨RX4, "parent", "(II)I"⟩
abbrev cX4_depth : ByteArray := prog_6_method_46_code
def yX4_depth : MethodName := ⟨RX4, "depth", "(II)I"⟩
abbrev cX4_child : ByteArray := prog_6_method_47_code
def yX4_child : MethodName := ⟨RX4, "child", "(III)I"⟩
abbrev cX4_subtreeOf : ByteArray := prog_6_method_48_code
def yX4_subtreeOf : MethodName := ⟨RX4, "subtreeOf", "(II)I"⟩
abbrev cX4_subtree : ByteArray := prog_6_method_49_code
def yX4_subtree : MethodName := ⟨RX4, "subtree", "(II)I"⟩
abbrev cX4_hasRoom : ByteArray := prog_6_method_50_code
def yX4_hasRoom : MethodName := ⟨RX4, "hasRoom", "(II)Z"⟩
abbrev cX4_ranksBefore : ByteArray := prog_6_method_51_code
def yX4_ranksBefore : MethodName := ⟨RX4, "ranksBefore", "(III)Z"⟩
abbrev cX4_harmOf : ByteArray := prog_6_method_52_code
def yX4_harmOf : MethodName := ⟨RX4, "harmOf", "(I)I"⟩
abbrev cX4_harm : ByteArray := prog_6_method_53_code
def yX4_harm : MethodName := ⟨RX4, "harm", "(I)I"⟩
abbrev cX4_pieces : ByteArray := prog_6_method_54_code
def yX4_pieces : MethodName := ⟨RX4, "pieces", "(I)I"⟩
abbrev cX4_stripeOf : ByteArray := prog_6_method_55_code
def yX4_stripeOf : MethodName := ⟨RX4, "stripeOf", "(II)I"⟩
abbrev cX4_stripe : ByteArray := prog_6_method_56_code
def yX4_stripe : MethodName := ⟨RX4, "stripe", "(II)I"⟩
abbrev cX4_countOf : ByteArray := prog_6_method_57_code
def yX4_countOf : MethodName := ⟨RX4, "countOf", "(I)I"⟩
abbrev cX4_count : ByteArray := prog_6_method_58_code
def yX4_count : MethodName := ⟨RX4, "count", "(I)I"⟩
abbrev cX4_undo : ByteArray := prog_6_method_59_code
def yX4_undo : MethodName := ⟨RX4, "undo", "()I"⟩
abbrev cX4_mix : ByteArray := prog_6_method_60_code
def yX4_mix : MethodName := ⟨RX4, "mix", "(J)V"⟩
abbrev cX4_mixMember : ByteArray := prog_6_method_61_code
def yX4_mixMember : MethodName := ⟨RX4, "mixMember", "(I)V"⟩
abbrev cX4_digest : ByteArray := prog_6_method_62_code
def yX4_digest : MethodName := ⟨RX4, "digest", "()J"⟩
def RJ9 : String := "java/lang/Math"
def TJ9 : u_T := fun k => match k with
  | _ => ("", "", "", false)
def tyJ9 : Nat → FieldType := fun k => match k with
  | _ => .int
abbrev wsJ90 : List Cond := u_ws RJ9 TJ9 0
theorem nmJ9 : ∀ a, a < 0 → ∀ b, b < 0 → a ≠ b → (TJ9 a).2.1 ≠ (TJ9 b).2.1 := by decide +kernel
theorem tyJ9_ok : ∀ k, k < 0 → parseFieldDescriptor (TJ9 k).2.2.1 = some (tyJ9 k) := by decide +kernel
abbrev cJ9_floorMod_7cf53 : ByteArray := prog_11_method_50_code
def yJ9_floorMod_7cf53 : MethodName := ⟨RJ9, "floorMod", "(II)I"⟩
abbrev cJ9_max_7cf53 : ByteArray := prog_11_method_65_code
def yJ9_max_7cf53 : MethodName := ⟨RJ9, "max", "(II)I"⟩
abbrev cJ9_min_7cf53 : ByteArray := prog_11_method_69_code
def yJ9_min_7cf53 : MethodName := ⟨RJ9, "min", "(II)I"⟩
def RJ0 : String := "java/lang/String"
def TJ0 : u_T := fun k => match k with
  | _ => ("", "", "", false)
def tyJ0 : Nat → FieldType := fun k => match k with
  | _ => .int
abbrev wsJ00 : List Cond := u_ws RJ0 TJ0 0
theorem nmJ0 : ∀ a, a < 0 → ∀ b, b < 0 → a ≠ b → (TJ0 a).2.1 ≠ (TJ0 b).2.1 := by decide +kernel
theorem tyJ0_ok : ∀ k, k < 0 → parseFieldDescriptor (TJ0 k).2.2.1 = some (tyJ0 k) := by decide +kernel
def RJ10 : String := "java/lang/System"
def TJ10 : u_T := fun k => match k with
  | _ => ("", "", "", false)
def tyJ10 : Nat → FieldType := fun k => match k with
  | _ => .int
abbrev wsJ100 : List Cond := u_ws RJ10 TJ10 0
theorem nmJ10 : ∀ a, a < 0 → ∀ b, b < 0 → a ≠ b → (TJ10 a).2.1 ≠ (TJ10 b).2.1 := by decide +kernel
theorem tyJ10_ok : ∀ k, k < 0 → parseFieldDescriptor (TJ10 k).2.2.1 = some (tyJ10 k) := by decide +kernel
def RL : String := "StripeTreesLaw"
abbrev cL_join : ByteArray := method_3_code
def yL_join : MethodName := ⟨RL, "join", "(LStripeTrees;III[J)I"⟩
abbrev cL_leave : ByteArray := method_4_code
def yL_leave : MethodName := ⟨RL, "leave", "(LStripeTrees;I[J)I"⟩
abbrev cL_fail : ByteArray := method_5_code
def yL_fail : MethodName := ⟨RL, "fail", "(LStripeTrees;I[J)I"⟩
abbrev cL_setBound : ByteArray := method_6_code
def yL_setBound : MethodName := ⟨RL, "setBound", "(LStripeTrees;II[J)I"⟩
abbrev cL_setSource : ByteArray := method_7_code
def yL_setSource : MethodName := ⟨RL, "setSource", "(LStripeTrees;I[J)I"⟩
abbrev cL_setDelay : ByteArray := method_8_code
def yL_setDelay : MethodName := ⟨RL, "setDelay", "(LStripeTrees;I[J)I"⟩
abbrev cL_rejoin : ByteArray := method_9_code
def yL_rejoin : MethodName := ⟨RL, "rejoin", "(LStripeTrees;II[J)I"⟩
abbrev cL_tick : ByteArray := method_10_code
def yL_tick : MethodName := ⟨RL, "tick", "(LStripeTrees;I[J)I"⟩
abbrev cL_member : ByteArray := method_11_code
def yL_member : MethodName := ⟨RL, "member", "(LStripeTrees;II[J)I"⟩
abbrev cL_parent : ByteArray := method_12_code
def yL_parent : MethodName := ⟨RL, "parent", "(LStripeTrees;II[J)I"⟩
abbrev cL_depth : ByteArray := method_13_code
def yL_depth : MethodName := ⟨RL, "depth", "(LStripeTrees;II[J)I"⟩
abbrev cL_child : ByteArray := method_14_code
def yL_child : MethodName := ⟨RL, "child", "(LStripeTrees;III[J)I"⟩
abbrev cL_subtree : ByteArray := method_15_code
def yL_subtree : MethodName := ⟨RL, "subtree", "(LStripeTrees;II[J)I"⟩
abbrev cL_hasRoom : ByteArray := method_16_code
def yL_hasRoom : MethodName := ⟨RL, "hasRoom", "(LStripeTrees;II[J)I"⟩
abbrev cL_ranksBefore : ByteArray := method_17_code
def yL_ranksBefore : MethodName := ⟨RL, "ranksBefore", "(LStripeTrees;III[J)I"⟩
abbrev cL_harm : ByteArray := method_18_code
def yL_harm : MethodName := ⟨RL, "harm", "(LStripeTrees;I[J)I"⟩
abbrev cL_pieces : ByteArray := method_19_code
def yL_pieces : MethodName := ⟨RL, "pieces", "(LStripeTrees;I[J)I"⟩
abbrev cL_stripe : ByteArray := method_20_code
def yL_stripe : MethodName := ⟨RL, "stripe", "(LStripeTrees;II[J)I"⟩
abbrev cL_count : ByteArray := method_21_code
def yL_count : MethodName := ⟨RL, "count", "(LStripeTrees;I[J)I"⟩
abbrev cL_undo : ByteArray := method_22_code
def yL_undo : MethodName := ⟨RL, "undo", "(LStripeTrees;[J)I"⟩
abbrev cL_law : ByteArray := code
def yL_law : MethodName := ⟨RL, "law", "([I)Z"⟩
abbrev vwCl : List vw_C := [(RX0, TX0, 1), (RX1, TX1, 1), (RX2, TX2, 3), (RX3, TX3, 3), (RX4, TX4, 5)]
end
section
theorem dX0_init_0 : decode cX0_init 0 = .ok (.aload_n 0, 1) := by decide +kernel
theorem dX0_init_1 : decode cX0_init 1 = .ok (.invokespecial 5, 3) := by decide +kernel
theorem dX0_init_4 : decode cX0_init 4 = .ok (.aload_n 0, 1) := by decide +kernel
theorem dX0_init_5 : decode cX0_init 5 = .ok (.sipush 459, 3) := by decide +kernel
theorem dX0_init_8 : decode cX0_init 8 = .ok (.newarray .int, 2) := by decide +kernel
theorem dX0_init_10 : decode cX0_init 10 = .ok (.putfield 11, 3) := by decide +kernel
theorem dX0_init_13 : decode cX0_init 13 = .ok (.sipush 320, 3) := by decide +kernel
theorem dX0_init_16 : decode cX0_init 16 = .ok (.istore_n 1, 1) := by decide +kernel
theorem dX0_init_17 : decode cX0_init 17 = .ok (.iload_n 1, 1) := by decide +kernel
theorem dX0_init_18 : decode cX0_init 18 = .ok (.sipush 448, 3) := by decide +kernel
theorem dX0_init_21 : decode cX0_init 21 = .ok (.if_icmp .ge 16, 3) := by decide +kernel
theorem dX0_init_24 : decode cX0_init 24 = .ok (.aload_n 0, 1) := by decide +kernel
theorem dX0_init_25 : decode cX0_init 25 = .ok (.getfield 11, 3) := by decide +kernel
theorem dX0_init_28 : decode cX0_init 28 = .ok (.iload_n 1, 1) := by decide +kernel
theorem dX0_init_29 : decode cX0_init 29 = .ok (.iconst (-1), 1) := by decide +kernel
theorem dX0_init_30 : decode cX0_init 30 = .ok (.iastore, 1) := by decide +kernel
theorem dX0_init_31 : decode cX0_init 31 = .ok (.iinc 1 1, 3) := by decide +kernel
theorem dX0_init_34 : decode cX0_init 34 = .ok (.goto (-17), 3) := by decide +kernel
theorem dX0_init_37 : decode cX0_init 37 = .ok (.aload_n 0, 1) := by decide +kernel
theorem dX0_init_38 : decode cX0_init 38 = .ok (.getfield 11, 3) := by decide +kernel
theorem dX0_init_41 : decode cX0_init 41 = .ok (.sipush 457, 3) := by decide +kernel
theorem dX0_init_44 : decode cX0_init 44 = .ok (.iconst 2, 1) := by decide +kernel
theorem dX0_init_45 : decode cX0_init 45 = .ok (.iastore, 1) := by decide +kernel
theorem dX0_init_46 : decode cX0_init 46 = .ok (.aload_n 0, 1) := by decide +kernel
theorem dX0_init_47 : decode cX0_init 47 = .ok (.getfield 11, 3) := by decide +kernel
theorem dX0_init_50 : decode cX0_init 50 = .ok (.sipush 458, 3) := by decide +kernel
theorem dX0_init_53 : decode cX0_init 53 = .ok (.iconst 3, 1) := by decide +kernel
theorem dX0_init_54 : decode cX0_init 54 = .ok (.iastore, 1) := by decide +kernel
theorem dX0_init_55 : decode cX0_init 55 = .ok (.return_, 1) := by decide +kernel
theorem dX0_value_0 : decode cX0_value 0 = .ok (.iload_n 1, 1) := by decide +kernel
theorem dX0_value_1 : decode cX0_value 1 = .ok (.ifCond .lt 19, 3) := by decide +kernel
theorem dX0_value_4 : decode cX0_value 4 = .ok (.iload_n 1, 1) := by decide +kernel
theorem dX0_value_5 : decode cX0_value 5 = .ok (.bipush 32, 2) := by decide +kernel
theorem dX0_value_7 : decode cX0_value 7 = .ok (.if_icmp .ge 13, 3) := by decide +kernel
theorem dX0_value_10 : decode cX0_value 10 = .ok (.iload_n 2, 1) := by decide +kernel
theorem dX0_value_11 : decode cX0_value 11 = .ok (.ifCond .lt 9, 3) := by decide +kernel
theorem dX0_value_14 : decode cX0_value 14 = .ok (.iload_n 2, 1) := by decide +kernel
theorem dX0_value_15 : decode cX0_value 15 = .ok (.bipush 10, 2) := by decide +kernel
theorem dX0_value_17 : decode cX0_value 17 = .ok (.if_icmp .lt 5, 3) := by decide +kernel
theorem dX0_value_20 : decode cX0_value 20 = .ok (.iconst 0, 1) := by decide +kernel
theorem dX0_value_21 : decode cX0_value 21 = .ok (.ireturn, 1) := by decide +kernel
theorem dX0_value_22 : decode cX0_value 22 = .ok (.aload_n 0, 1) := by decide +kernel
theorem dX0_value_23 : decode cX0_value 23 = .ok (.getfield 11, 3) := by decide +kernel
theorem dX0_value_26 : decode cX0_value 26 = .ok (.iload_n 2, 1) := by decide +kernel
theorem dX0_value_27 : decode cX0_value 27 = .ok (.bipush 32, 2) := by decide +kernel
theorem dX0_value_29 : decode cX0_value 29 = .ok (.imul, 1) := by decide +kernel
theorem dX0_value_30 : decode cX0_value 30 = .ok (.iload_n 1, 1) := by decide +kernel
theorem dX0_value_31 : decode cX0_value 31 = .ok (.iadd, 1) := by decide +kernel
theorem dX0_value_32 : decode cX0_value 32 = .ok (.iaload, 1) := by decide +kernel
theorem dX0_value_33 : decode cX0_value 33 = .ok (.ireturn, 1) := by decide +kernel
theorem dX0_setValue_0 : decode cX0_setValue 0 = .ok (.iload_n 1, 1) := by decide +kernel
theorem dX0_setValue_1 : decode cX0_setValue 1 = .ok (.ifCond .lt 19, 3) := by decide +kernel
theorem dX0_setValue_4 : decode cX0_setValue 4 = .ok (.iload_n 1, 1) := by decide +kernel
theorem dX0_setValue_5 : decode cX0_setValue 5 = .ok (.bipush 32, 2) := by decide +kernel
theorem dX0_setValue_7 : decode cX0_setValue 7 = .ok (.if_icmp .ge 13, 3) := by decide +kernel
theorem dX0_setValue_10 : decode cX0_setValue 10 = .ok (.iload_n 2, 1) := by decide +kernel
theorem dX0_setValue_11 : decode cX0_setValue 11 = .ok (.ifCond .lt 9, 3) := by decide +kernel
theorem dX0_setValue_14 : decode cX0_setValue 14 = .ok (.iload_n 2, 1) := by decide +kernel
theorem dX0_setValue_15 : decode cX0_setValue 15 = .ok (.bipush 10, 2) := by decide +kernel
theorem dX0_setValue_17 : decode cX0_setValue 17 = .ok (.if_icmp .lt 4, 3) := by decide +kernel
theorem dX0_setValue_20 : decode cX0_setValue 20 = .ok (.return_, 1) := by decide +kernel
theorem dX0_setValue_21 : decode cX0_setValue 21 = .ok (.aload_n 0, 1) := by decide +kernel
theorem dX0_setValue_22 : decode cX0_setValue 22 = .ok (.getfield 11, 3) := by decide +kernel
theorem dX0_setValue_25 : decode cX0_setValue 25 = .ok (.iload_n 2, 1) := by decide +kernel
theorem dX0_setValue_26 : decode cX0_setValue 26 = .ok (.bipush 32, 2) := by decide +kernel
theorem dX0_setValue_28 : decode cX0_setValue 28 = .ok (.imul, 1) := by decide +kernel
theorem dX0_setValue_29 : decode cX0_setValue 29 = .ok (.iload_n 1, 1) := by decide +kernel
theorem dX0_setValue_30 : decode cX0_setValue 30 = .ok (.iadd, 1) := by decide +kernel
theorem dX0_setValue_31 : decode cX0_setValue 31 = .ok (.iload_n 3, 1) := by decide +kernel
theorem dX0_setValue_32 : decode cX0_setValue 32 = .ok (.iastore, 1) := by decide +kernel
theorem dX0_setValue_33 : decode cX0_setValue 33 = .ok (.return_, 1) := by decide +kernel
theorem dX0_addToValue_0 : decode cX0_addToValue 0 = .ok (.aload_n 0, 1) := by decide +kernel
theorem dX0_addToValue_1 : decode cX0_addToValue 1 = .ok (.iload_n 1, 1) := by decide +kernel
theorem dX0_addToValue_2 : decode cX0_addToValue 2 = .ok (.iload_n 2, 1) := by decide +kernel
theorem dX0_addToValue_3 : decode cX0_addToValue 3 = .ok (.aload_n 0, 1) := by decide +kernel
theorem dX0_addToValue_4 : decode cX0_addToValue 4 = .ok (.iload_n 1, 1) := by decide +kernel
theorem dX0_addToValue_5 : decode cX0_addToValue 5 = .ok (.iload_n 2, 1) := by decide +kernel
theorem dX0_addToValue_6 : decode cX0_addToValue 6 = .ok (.invokevirtual 15, 3) := by decide +kernel
theorem dX0_addToValue_9 : decode cX0_addToValue 9 = .ok (.iload_n 3, 1) := by decide +kernel
theorem dX0_addToValue_10 : decode cX0_addToValue 10 = .ok (.iadd, 1) := by decide +kernel
theorem dX0_addToValue_11 : decode cX0_addToValue 11 = .ok (.invokevirtual 19, 3) := by decide +kernel
theorem dX0_addToValue_14 : decode cX0_addToValue 14 = .ok (.return_, 1) := by decide +kernel
theorem dX0_parentOf_0 : decode cX0_parentOf 0 = .ok (.iload_n 1, 1) := by decide +kernel
theorem dX0_parentOf_1 : decode cX0_parentOf 1 = .ok (.ifCond .lt 18, 3) := by decide +kernel
theorem dX0_parentOf_4 : decode cX0_parentOf 4 = .ok (.iload_n 1, 1) := by decide +kernel
theorem dX0_parentOf_5 : decode cX0_parentOf 5 = .ok (.bipush 32, 2) := by decide +kernel
theorem dX0_parentOf_7 : decode cX0_parentOf 7 = .ok (.if_icmp .ge 12, 3) := by decide +kernel
theorem dX0_parentOf_10 : decode cX0_parentOf 10 = .ok (.iload_n 2, 1) := by decide +kernel
theorem dX0_parentOf_11 : decode cX0_parentOf 11 = .ok (.ifCond .lt 8, 3) := by decide +kernel
theorem dX0_parentOf_14 : decode cX0_parentOf 14 = .ok (.iload_n 2, 1) := by decide +kernel
theorem dX0_parentOf_15 : decode cX0_parentOf 15 = .ok (.iconst 4, 1) := by decide +kernel
theorem dX0_parentOf_16 : decode cX0_parentOf 16 = .ok (.if_icmp .lt 5, 3) := by decide +kernel
theorem dX0_parentOf_19 : decode cX0_parentOf 19 = .ok (.iconst (-1), 1) := by decide +kernel
theorem dX0_parentOf_20 : decode cX0_parentOf 20 = .ok (.ireturn, 1) := by decide +kernel
theorem dX0_parentOf_21 : decode cX0_parentOf 21 = .ok (.aload_n 0, 1) := by decide +kernel
theorem dX0_parentOf_22 : decode cX0_parentOf 22 = .ok (.getfield 11, 3) := by decide +kernel
theorem dX0_parentOf_25 : decode cX0_parentOf 25 = .ok (.sipush 320, 3) := by decide +kernel
theorem dX0_parentOf_28 : decode cX0_parentOf 28 = .ok (.iload_n 2, 1) := by decide +kernel
theorem dX0_parentOf_29 : decode cX0_parentOf 29 = .ok (.bipush 32, 2) := by decide +kernel
theorem dX0_parentOf_31 : decode cX0_parentOf 31 = .ok (.imul, 1) := by decide +kernel
theorem dX0_parentOf_32 : decode cX0_parentOf 32 = .ok (.iadd, 1) := by decide +kernel
theorem dX0_parentOf_33 : decode cX0_parentOf 33 = .ok (.iload_n 1, 1) := by decide +kernel
theorem dX0_parentOf_34 : decode cX0_parentOf 34 = .ok (.iadd, 1) := by decide +kernel
theorem dX0_parentOf_35 : decode cX0_parentOf 35 = .ok (.iaload, 1) := by decide +kernel
theorem dX0_parentOf_36 : decode cX0_parentOf 36 = .ok (.ireturn, 1) := by decide +kernel
theorem dX0_moveTo_0 : decode cX0_moveTo 0 = .ok (.iload_n 1, 1) := by decide +kernel
theorem dX0_moveTo_1 : decode cX0_moveTo 1 = .ok (.ifCond .lt 18, 3) := by decide +kernel
theorem dX0_moveTo_4 : decode cX0_moveTo 4 = .ok (.iload_n 1, 1) := by decide +kernel
theorem dX0_moveTo_5 : decode cX0_moveTo 5 = .ok (.bipush 32, 2) := by decide +kernel
theorem dX0_moveTo_7 : decode cX0_moveTo 7 = .ok (.if_icmp .ge 12, 3) := by decide +kernel
theorem dX0_moveTo_10 : decode cX0_moveTo 10 = .ok (.iload_n 2, 1) := by decide +kernel
theorem dX0_moveTo_11 : decode cX0_moveTo 11 = .ok (.ifCond .lt 8, 3) := by decide +kernel
theorem dX0_moveTo_14 : decode cX0_moveTo 14 = .ok (.iload_n 2, 1) := by decide +kernel
theorem dX0_moveTo_15 : decode cX0_moveTo 15 = .ok (.iconst 4, 1) := by decide +kernel
theorem dX0_moveTo_16 : decode cX0_moveTo 16 = .ok (.if_icmp .lt 4, 3) := by decide +kernel
theorem dX0_moveTo_19 : decode cX0_moveTo 19 = .ok (.return_, 1) := by decide +kernel
theorem dX0_moveTo_20 : decode cX0_moveTo 20 = .ok (.sipush 320, 3) := by decide +kernel
theorem dX0_moveTo_23 : decode cX0_moveTo 23 = .ok (.iload_n 2, 1) := by decide +kernel
theorem dX0_moveTo_24 : decode cX0_moveTo 24 = .ok (.bipush 32, 2) := by decide +kernel
theorem dX0_moveTo_26 : decode cX0_moveTo 26 = .ok (.imul, 1) := by decide +kernel
theorem dX0_moveTo_27 : decode cX0_moveTo 27 = .ok (.iadd, 1) := by decide +kernel
theorem dX0_moveTo_28 : decode cX0_moveTo 28 = .ok (.iload_n 1, 1) := by decide +kernel
theorem dX0_moveTo_29 : decode cX0_moveTo 29 = .ok (.iadd, 1) := by decide +kernel
theorem dX0_moveTo_30 : decode cX0_moveTo 30 = .ok (.istore 4, 2) := by decide +kernel
theorem dX0_moveTo_32 : decode cX0_moveTo 32 = .ok (.aload_n 0, 1) := by decide +kernel
theorem dX0_moveTo_33 : decode cX0_moveTo 33 = .ok (.aload_n 0, 1) := by decide +kernel
theorem dX0_moveTo_34 : decode cX0_moveTo 34 = .ok (.getfield 11, 3) := by decide +kernel
theorem dX0_moveTo_37 : decode cX0_moveTo 37 = .ok (.iload 4, 2) := by decide +kernel
theorem dX0_moveTo_39 : decode cX0_moveTo 39 = .ok (.iaload, 1) := by decide +kernel
theorem dX0_moveTo_40 : decode cX0_moveTo 40 = .ok (.iload_n 2, 1) := by decide +kernel
theorem dX0_moveTo_41 : decode cX0_moveTo 41 = .ok (.iconst (-1), 1) := by decide +kernel
theorem dX0_moveTo_42 : decode cX0_moveTo 42 = .ok (.invokevirtual 23, 3) := by decide +kernel
theorem dX0_moveTo_45 : decode cX0_moveTo 45 = .ok (.aload_n 0, 1) := by decide +kernel
theorem dX0_moveTo_46 : decode cX0_moveTo 46 = .ok (.getfield 11, 3) := by decide +kernel
theorem dX0_moveTo_49 : decode cX0_moveTo 49 = .ok (.iload 4, 2) := by decide +kernel
theorem dX0_moveTo_51 : decode cX0_moveTo 51 = .ok (.iload_n 3, 1) := by decide +kernel
theorem dX0_moveTo_52 : decode cX0_moveTo 52 = .ok (.iastore, 1) := by decide +kernel
theorem dX0_moveTo_53 : decode cX0_moveTo 53 = .ok (.aload_n 0, 1) := by decide +kernel
theorem dX0_moveTo_54 : decode cX0_moveTo 54 = .ok (.iload_n 3, 1) := by decide +kernel
theorem dX0_moveTo_55 : decode cX0_moveTo 55 = .ok (.iload_n 2, 1) := by decide +kernel
theorem dX0_moveTo_56 : decode cX0_moveTo 56 = .ok (.iconst 1, 1) := by decide +kernel
theorem dX0_moveTo_57 : decode cX0_moveTo 57 = .ok (.invokevirtual 23, 3) := by decide +kernel
theorem dX0_moveTo_60 : decode cX0_moveTo 60 = .ok (.return_, 1) := by decide +kernel
theorem dX0_addChildren_0 : decode cX0_addChildren 0 = .ok (.aload_n 0, 1) := by decide +kernel
theorem dX0_addChildren_1 : decode cX0_addChildren 1 = .ok (.iload_n 1, 1) := by decide +kernel
theorem dX0_addChildren_2 : decode cX0_addChildren 2 = .ok (.iconst 5, 1) := by decide +kernel
theorem dX0_addChildren_3 : decode cX0_addChildren 3 = .ok (.invokevirtual 15, 3) := by decide +kernel
theorem dX0_addChildren_6 : decode cX0_addChildren 6 = .ok (.iload_n 3, 1) := by decide +kernel
theorem dX0_addChildren_7 : decode cX0_addChildren 7 = .ok (.iadd, 1) := by decide +kernel
theorem dX0_addChildren_8 : decode cX0_addChildren 8 = .ok (.istore 4, 2) := by decide +kernel
theorem dX0_addChildren_10 : decode cX0_addChildren 10 = .ok (.aload_n 0, 1) := by decide +kernel
theorem dX0_addChildren_11 : decode cX0_addChildren 11 = .ok (.iload_n 1, 1) := by decide +kernel
theorem dX0_addChildren_12 : decode cX0_addChildren 12 = .ok (.iconst 5, 1) := by decide +kernel
theorem dX0_addChildren_13 : decode cX0_addChildren 13 = .ok (.iload 4, 2) := by decide +kernel
theorem dX0_addChildren_15 : decode cX0_addChildren 15 = .ok (.invokevirtual 19, 3) := by decide +kernel
theorem dX0_addChildren_18 : decode cX0_addChildren 18 = .ok (.aload_n 0, 1) := by decide +kernel
theorem dX0_addChildren_19 : decode cX0_addChildren 19 = .ok (.iload_n 1, 1) := by decide +kernel
theorem dX0_addChildren_20 : decode cX0_addChildren 20 = .ok (.bipush 6, 2) := by decide +kernel
theorem dX0_addChildren_22 : decode cX0_addChildren 22 = .ok (.iload 4, 2) := by decide +kernel
theorem dX0_addChildren_24 : decode cX0_addChildren 24 = .ok (.ifCond .ne 7, 3) := by decide +kernel
theorem dX0_addChildren_27 : decode cX0_addChildren 27 = .ok (.iconst (-1), 1) := by decide +kernel
theorem dX0_addChildren_28 : decode cX0_addChildren 28 = .ok (.goto 4, 3) := by decide +kernel
theorem dX0_addChildren_31 : decode cX0_addChildren 31 = .ok (.iload_n 2, 1) := by decide +kernel
theorem dX0_addChildren_32 : decode cX0_addChildren 32 = .ok (.invokevirtual 19, 3) := by decide +kernel
theorem dX0_addChildren_35 : decode cX0_addChildren 35 = .ok (.return_, 1) := by decide +kernel
theorem dX0_figure_0 : decode cX0_figure 0 = .ok (.iload_n 1, 1) := by decide +kernel
theorem dX0_figure_1 : decode cX0_figure 1 = .ok (.ifCond .lt 9, 3) := by decide +kernel
theorem dX0_figure_4 : decode cX0_figure 4 = .ok (.iload_n 1, 1) := by decide +kernel
theorem dX0_figure_5 : decode cX0_figure 5 = .ok (.bipush 11, 2) := by decide +kernel
theorem dX0_figure_7 : decode cX0_figure 7 = .ok (.if_icmp .lt 5, 3) := by decide +kernel
theorem dX0_figure_10 : decode cX0_figure 10 = .ok (.iconst 0, 1) := by decide +kernel
theorem dX0_figure_11 : decode cX0_figure 11 = .ok (.ireturn, 1) := by decide +kernel
theorem dX0_figure_12 : decode cX0_figure 12 = .ok (.aload_n 0, 1) := by decide +kernel
theorem dX0_figure_13 : decode cX0_figure 13 = .ok (.getfield 11, 3) := by decide +kernel
theorem dX0_figure_16 : decode cX0_figure 16 = .ok (.sipush 448, 3) := by decide +kernel
theorem dX0_figure_19 : decode cX0_figure 19 = .ok (.iload_n 1, 1) := by decide +kernel
theorem dX0_figure_20 : decode cX0_figure 20 = .ok (.iadd, 1) := by decide +kernel
theorem dX0_figure_21 : decode cX0_figure 21 = .ok (.iaload, 1) := by decide +kernel
theorem dX0_figure_22 : decode cX0_figure 22 = .ok (.ireturn, 1) := by decide +kernel
theorem dX0_setFigure_0 : decode cX0_setFigure 0 = .ok (.iload_n 1, 1) := by decide +kernel
theorem dX0_setFigure_1 : decode cX0_setFigure 1 = .ok (.ifCond .lt 9, 3) := by decide +kernel
theorem dX0_setFigure_4 : decode cX0_setFigure 4 = .ok (.iload_n 1, 1) := by decide +kernel
theorem dX0_setFigure_5 : decode cX0_setFigure 5 = .ok (.bipush 11, 2) := by decide +kernel
theorem dX0_setFigure_7 : decode cX0_setFigure 7 = .ok (.if_icmp .lt 4, 3) := by decide +kernel
theorem dX0_setFigure_10 : decode cX0_setFigure 10 = .ok (.return_, 1) := by decide +kernel
theorem dX0_setFigure_11 : decode cX0_setFigure 11 = .ok (.aload_n 0, 1) := by decide +kernel
theorem dX0_setFigure_12 : decode cX0_setFigure 12 = .ok (.getfield 11, 3) := by decide +kernel
theorem dX0_setFigure_15 : decode cX0_setFigure 15 = .ok (.sipush 448, 3) := by decide +kernel
theorem dX0_setFigure_18 : decode cX0_setFigure 18 = .ok (.iload_n 1, 1) := by decide +kernel
theorem dX0_setFigure_19 : decode cX0_setFigure 19 = .ok (.iadd, 1) := by decide +kernel
theorem dX0_setFigure_20 : decode cX0_setFigure 20 = .ok (.iload_n 2, 1) := by decide +kernel
theorem dX0_setFigure_21 : decode cX0_setFigure 21 = .ok (.iastore, 1) := by decide +kernel
theorem dX0_setFigure_22 : decode cX0_setFigure 22 = .ok (.return_, 1) := by decide +kernel
theorem dX0_addToFigure_0 : decode cX0_addToFigure 0 = .ok (.aload_n 0, 1) := by decide +kernel
theorem dX0_addToFigure_1 : decode cX0_addToFigure 1 = .ok (.iload_n 1, 1) := by decide +kernel
theorem dX0_addToFigure_2 : decode cX0_addToFigure 2 = .ok (.aload_n 0, 1) := by decide +kernel
theorem dX0_addToFigure_3 : decode cX0_addToFigure 3 = .ok (.iload_n 1, 1) := by decide +kernel
theorem dX0_addToFigure_4 : decode cX0_addToFigure 4 = .ok (.invokevirtual 26, 3) := by decide +kernel
theorem dX0_addToFigure_7 : decode cX0_addToFigure 7 = .ok (.iload_n 2, 1) := by decide +kernel
theorem dX0_addToFigure_8 : decode cX0_addToFigure 8 = .ok (.iadd, 1) := by decide +kernel
theorem dX0_addToFigure_9 : decode cX0_addToFigure 9 = .ok (.invokevirtual 30, 3) := by decide +kernel
theorem dX0_addToFigure_12 : decode cX0_addToFigure 12 = .ok (.return_, 1) := by decide +kernel
theorem dX0_copyTo_0 : decode cX0_copyTo 0 = .ok (.iload_n 2, 1) := by decide +kernel
theorem dX0_copyTo_1 : decode cX0_copyTo 1 = .ok (.ifCond .lt 26, 3) := by decide +kernel
theorem dX0_copyTo_4 : decode cX0_copyTo 4 = .ok (.iload_n 2, 1) := by decide +kernel
theorem dX0_copyTo_5 : decode cX0_copyTo 5 = .ok (.aload_n 1, 1) := by decide +kernel
theorem dX0_copyTo_6 : decode cX0_copyTo 6 = .ok (.arraylength, 1) := by decide +kernel
theorem dX0_copyTo_7 : decode cX0_copyTo 7 = .ok (.sipush 459, 3) := by decide +kernel
theorem dX0_copyTo_10 : decode cX0_copyTo 10 = .ok (.isub, 1) := by decide +kernel
theorem dX0_copyTo_11 : decode cX0_copyTo 11 = .ok (.if_icmp .gt 16, 3) := by decide +kernel
theorem dX0_copyTo_14 : decode cX0_copyTo 14 = .ok (.aload_n 0, 1) := by decide +kernel
theorem dX0_copyTo_15 : decode cX0_copyTo 15 = .ok (.getfield 11, 3) := by decide +kernel
theorem dX0_copyTo_18 : decode cX0_copyTo 18 = .ok (.iconst 0, 1) := by decide +kernel
theorem dX0_copyTo_19 : decode cX0_copyTo 19 = .ok (.aload_n 1, 1) := by decide +kernel
theorem dX0_copyTo_20 : decode cX0_copyTo 20 = .ok (.iload_n 2, 1) := by decide +kernel
theorem dX0_copyTo_21 : decode cX0_copyTo 21 = .ok (.sipush 459, 3) := by decide +kernel
theorem dX0_copyTo_24 : decode cX0_copyTo 24 = .ok (.invokestatic 34, 3) := by decide +kernel
theorem dX0_copyTo_27 : decode cX0_copyTo 27 = .ok (.return_, 1) := by decide +kernel
theorem dX0_copyFrom_0 : decode cX0_copyFrom 0 = .ok (.iload_n 2, 1) := by decide +kernel
theorem dX0_copyFrom_1 : decode cX0_copyFrom 1 = .ok (.ifCond .lt 26, 3) := by decide +kernel
theorem dX0_copyFrom_4 : decode cX0_copyFrom 4 = .ok (.iload_n 2, 1) := by decide +kernel
theorem dX0_copyFrom_5 : decode cX0_copyFrom 5 = .ok (.aload_n 1, 1) := by decide +kernel
theorem dX0_copyFrom_6 : decode cX0_copyFrom 6 = .ok (.arraylength, 1) := by decide +kernel
theorem dX0_copyFrom_7 : decode cX0_copyFrom 7 = .ok (.sipush 459, 3) := by decide +kernel
theorem dX0_copyFrom_10 : decode cX0_copyFrom 10 = .ok (.isub, 1) := by decide +kernel
theorem dX0_copyFrom_11 : decode cX0_copyFrom 11 = .ok (.if_icmp .gt 16, 3) := by decide +kernel
theorem dX0_copyFrom_14 : decode cX0_copyFrom 14 = .ok (.aload_n 1, 1) := by decide +kernel
theorem dX0_copyFrom_15 : decode cX0_copyFrom 15 = .ok (.iload_n 2, 1) := by decide +kernel
theorem dX0_copyFrom_16 : decode cX0_copyFrom 16 = .ok (.aload_n 0, 1) := by decide +kernel
theorem dX0_copyFrom_17 : decode cX0_copyFrom 17 = .ok (.getfield 11, 3) := by decide +kernel
theorem dX0_copyFrom_20 : decode cX0_copyFrom 20 = .ok (.iconst 0, 1) := by decide +kernel
theorem dX0_copyFrom_21 : decode cX0_copyFrom 21 = .ok (.sipush 459, 3) := by decide +kernel
theorem dX0_copyFrom_24 : decode cX0_copyFrom 24 = .ok (.invokestatic 34, 3) := by decide +kernel
theorem dX0_copyFrom_27 : decode cX0_copyFrom 27 = .ok (.return_, 1) := by decide +kernel
theorem dX1_init_0 : decode cX1_init 0 = .ok (.aload_n 0, 1) := by decide +kernel
theorem dX1_init_1 : decode cX1_init 1 = .ok (.invokespecial 3, 3) := by decide +kernel
theorem dX1_init_4 : decode cX1_init 4 = .ok (.aload_n 0, 1) := by decide +kernel
theorem dX1_init_5 : decode cX1_init 5 = .ok (.new 9, 3) := by decide +kernel
theorem dX1_init_8 : decode cX1_init 8 = .ok (.dup, 1) := by decide +kernel
theorem dX1_init_9 : decode cX1_init 9 = .ok (.invokespecial 11, 3) := by decide +kernel
theorem dX1_init_12 : decode cX1_init 12 = .ok (.putfield 12, 3) := by decide +kernel
theorem dX1_init_15 : decode cX1_init 15 = .ok (.return_, 1) := by decide +kernel
theorem dX1_depthOf_0 : decode cX1_depthOf 0 = .ok (.iload_n 1, 1) := by decide +kernel
theorem dX1_depthOf_1 : decode cX1_depthOf 1 = .ok (.istore_n 3, 1) := by decide +kernel
theorem dX1_depthOf_2 : decode cX1_depthOf 2 = .ok (.iconst 0, 1) := by decide +kernel
theorem dX1_depthOf_3 : decode cX1_depthOf 3 = .ok (.istore 4, 2) := by decide +kernel
theorem dX1_depthOf_5 : decode cX1_depthOf 5 = .ok (.iload 4, 2) := by decide +kernel
theorem dX1_depthOf_7 : decode cX1_depthOf 7 = .ok (.bipush 32, 2) := by decide +kernel
theorem dX1_depthOf_9 : decode cX1_depthOf 9 = .ok (.if_icmp .gt 35, 3) := by decide +kernel
theorem dX1_depthOf_12 : decode cX1_depthOf 12 = .ok (.iload_n 3, 1) := by decide +kernel
theorem dX1_depthOf_13 : decode cX1_depthOf 13 = .ok (.bipush 100, 2) := by decide +kernel
theorem dX1_depthOf_15 : decode cX1_depthOf 15 = .ok (.if_icmp .ne 6, 3) := by decide +kernel
theorem dX1_depthOf_18 : decode cX1_depthOf 18 = .ok (.iload 4, 2) := by decide +kernel
theorem dX1_depthOf_20 : decode cX1_depthOf 20 = .ok (.ireturn, 1) := by decide +kernel
theorem dX1_depthOf_21 : decode cX1_depthOf 21 = .ok (.iload_n 3, 1) := by decide +kernel
theorem dX1_depthOf_22 : decode cX1_depthOf 22 = .ok (.iconst (-1), 1) := by decide +kernel
theorem dX1_depthOf_23 : decode cX1_depthOf 23 = .ok (.if_icmp .ne 5, 3) := by decide +kernel
theorem dX1_depthOf_26 : decode cX1_depthOf 26 = .ok (.iconst (-1), 1) := by decide +kernel
theorem dX1_depthOf_27 : decode cX1_depthOf 27 = .ok (.ireturn, 1) := by decide +kernel
theorem dX1_depthOf_28 : decode cX1_depthOf 28 = .ok (.aload_n 0, 1) := by decide +kernel
theorem dX1_depthOf_29 : decode cX1_depthOf 29 = .ok (.getfield 12, 3) := by decide +kernel
theorem dX1_depthOf_32 : decode cX1_depthOf 32 = .ok (.iload_n 3, 1) := by decide +kernel
theorem dX1_depthOf_33 : decode cX1_depthOf 33 = .ok (.iload_n 2, 1) := by decide +kernel
theorem dX1_depthOf_34 : decode cX1_depthOf 34 = .ok (.invokevirtual 18, 3) := by decide +kernel
theorem dX1_depthOf_37 : decode cX1_depthOf 37 = .ok (.istore_n 3, 1) := by decide +kernel
theorem dX1_depthOf_38 : decode cX1_depthOf 38 = .ok (.iinc 4 1, 3) := by decide +kernel
theorem dX1_depthOf_41 : decode cX1_depthOf 41 = .ok (.goto (-36), 3) := by decide +kernel
theorem dX1_depthOf_44 : decode cX1_depthOf 44 = .ok (.iconst (-1), 1) := by decide +kernel
theorem dX1_depthOf_45 : decode cX1_depthOf 45 = .ok (.ireturn, 1) := by decide +kernel
theorem dX1_isUnder_0 : decode cX1_isUnder 0 = .ok (.iload_n 1, 1) := by decide +kernel
theorem dX1_isUnder_1 : decode cX1_isUnder 1 = .ok (.istore 4, 2) := by decide +kernel
theorem dX1_isUnder_3 : decode cX1_isUnder 3 = .ok (.iconst 0, 1) := by decide +kernel
theorem dX1_isUnder_4 : decode cX1_isUnder 4 = .ok (.istore 5, 2) := by decide +kernel
theorem dX1_isUnder_6 : decode cX1_isUnder 6 = .ok (.iload 5, 2) := by decide +kernel
theorem dX1_isUnder_8 : decode cX1_isUnder 8 = .ok (.bipush 32, 2) := by decide +kernel
theorem dX1_isUnder_10 : decode cX1_isUnder 10 = .ok (.if_icmp .gt 44, 3) := by decide +kernel
theorem dX1_isUnder_13 : decode cX1_isUnder 13 = .ok (.iload 4, 2) := by decide +kernel
theorem dX1_isUnder_15 : decode cX1_isUnder 15 = .ok (.iload_n 2, 1) := by decide +kernel
theorem dX1_isUnder_16 : decode cX1_isUnder 16 = .ok (.if_icmp .ne 5, 3) := by decide +kernel
theorem dX1_isUnder_19 : decode cX1_isUnder 19 = .ok (.iconst 1, 1) := by decide +kernel
theorem dX1_isUnder_20 : decode cX1_isUnder 20 = .ok (.ireturn, 1) := by decide +kernel
theorem dX1_isUnder_21 : decode cX1_isUnder 21 = .ok (.iload 4, 2) := by decide +kernel
theorem dX1_isUnder_23 : decode cX1_isUnder 23 = .ok (.bipush 100, 2) := by decide +kernel
theorem dX1_isUnder_25 : decode cX1_isUnder 25 = .ok (.if_icmp .eq 9, 3) := by decide +kernel
theorem dX1_isUnder_28 : decode cX1_isUnder 28 = .ok (.iload 4, 2) := by decide +kernel
theorem dX1_isUnder_30 : decode cX1_isUnder 30 = .ok (.iconst (-1), 1) := by decide +kernel
theorem dX1_isUnder_31 : decode cX1_isUnder 31 = .ok (.if_icmp .ne 5, 3) := by decide +kernel
theorem dX1_isUnder_34 : decode cX1_isUnder 34 = .ok (.iconst 0, 1) := by decide +kernel
theorem dX1_isUnder_35 : decode cX1_isUnder 35 = .ok (.ireturn, 1) := by decide +kernel
theorem dX1_isUnder_36 : decode cX1_isUnder 36 = .ok (.aload_n 0, 1) := by decide +kernel
theorem dX1_isUnder_37 : decode cX1_isUnder 37 = .ok (.getfield 12, 3) := by decide +kernel
theorem dX1_isUnder_40 : decode cX1_isUnder 40 = .ok (.iload 4, 2) := by decide +kernel
theorem dX1_isUnder_42 : decode cX1_isUnder 42 = .ok (.iload_n 3, 1) := by decide +kernel
theorem dX1_isUnder_43 : decode cX1_isUnder 43 = .ok (.invokevirtual 18, 3) := by decide +kernel
theorem dX1_isUnder_46 : decode cX1_isUnder 46 = .ok (.istore 4, 2) := by decide +kernel
theorem dX1_isUnder_48 : decode cX1_isUnder 48 = .ok (.iinc 5 1, 3) := by decide +kernel
theorem dX1_isUnder_51 : decode cX1_isUnder 51 = .ok (.goto (-45), 3) := by decide +kernel
theorem dX1_isUnder_54 : decode cX1_isUnder 54 = .ok (.iconst 0, 1) := by decide +kernel
theorem dX1_isUnder_55 : decode cX1_isUnder 55 = .ok (.ireturn, 1) := by decide +kernel
theorem dX1_getsPiece_0 : decode cX1_getsPiece 0 = .ok (.iload_n 1, 1) := by decide +kernel
theorem dX1_getsPiece_1 : decode cX1_getsPiece 1 = .ok (.istore_n 3, 1) := by decide +kernel
theorem dX1_getsPiece_2 : decode cX1_getsPiece 2 = .ok (.iconst 0, 1) := by decide +kernel
theorem dX1_getsPiece_3 : decode cX1_getsPiece 3 = .ok (.istore 4, 2) := by decide +kernel
theorem dX1_getsPiece_5 : decode cX1_getsPiece 5 = .ok (.iload 4, 2) := by decide +kernel
theorem dX1_getsPiece_7 : decode cX1_getsPiece 7 = .ok (.bipush 32, 2) := by decide +kernel
theorem dX1_getsPiece_9 : decode cX1_getsPiece 9 = .ok (.if_icmp .gt 47, 3) := by decide +kernel
theorem dX1_getsPiece_12 : decode cX1_getsPiece 12 = .ok (.iload_n 3, 1) := by decide +kernel
theorem dX1_getsPiece_13 : decode cX1_getsPiece 13 = .ok (.bipush 100, 2) := by decide +kernel
theorem dX1_getsPiece_15 : decode cX1_getsPiece 15 = .ok (.if_icmp .ne 5, 3) := by decide +kernel
theorem dX1_getsPiece_18 : decode cX1_getsPiece 18 = .ok (.iconst 1, 1) := by decide +kernel
theorem dX1_getsPiece_19 : decode cX1_getsPiece 19 = .ok (.ireturn, 1) := by decide +kernel
theorem dX1_getsPiece_20 : decode cX1_getsPiece 20 = .ok (.iload_n 3, 1) := by decide +kernel
theorem dX1_getsPiece_21 : decode cX1_getsPiece 21 = .ok (.iconst (-1), 1) := by decide +kernel
theorem dX1_getsPiece_22 : decode cX1_getsPiece 22 = .ok (.if_icmp .eq 16, 3) := by decide +kernel
theorem dX1_getsPiece_25 : decode cX1_getsPiece 25 = .ok (.aload_n 0, 1) := by decide +kernel
theorem dX1_getsPiece_26 : decode cX1_getsPiece 26 = .ok (.getfield 12, 3) := by decide +kernel
theorem dX1_getsPiece_29 : decode cX1_getsPiece 29 = .ok (.iload_n 3, 1) := by decide +kernel
theorem dX1_getsPiece_30 : decode cX1_getsPiece 30 = .ok (.iconst 3, 1) := by decide +kernel
theorem dX1_getsPiece_31 : decode cX1_getsPiece 31 = .ok (.invokevirtual 22, 3) := by decide +kernel
theorem dX1_getsPiece_34 : decode cX1_getsPiece 34 = .ok (.iconst 1, 1) := by decide +kernel
theorem dX1_getsPiece_35 : decode cX1_getsPiece 35 = .ok (.if_icmp .ne 5, 3) := by decide +kernel
theorem dX1_getsPiece_38 : decode cX1_getsPiece 38 = .ok (.iconst 0, 1) := by decide +kernel
theorem dX1_getsPiece_39 : decode cX1_getsPiece 39 = .ok (.ireturn, 1) := by decide +kernel
theorem dX1_getsPiece_40 : decode cX1_getsPiece 40 = .ok (.aload_n 0, 1) := by decide +kernel
theorem dX1_getsPiece_41 : decode cX1_getsPiece 41 = .ok (.getfield 12, 3) := by decide +kernel
theorem dX1_getsPiece_44 : decode cX1_getsPiece 44 = .ok (.iload_n 3, 1) := by decide +kernel
theorem dX1_getsPiece_45 : decode cX1_getsPiece 45 = .ok (.iload_n 2, 1) := by decide +kernel
theorem dX1_getsPiece_46 : decode cX1_getsPiece 46 = .ok (.invokevirtual 18, 3) := by decide +kernel
theorem dX1_getsPiece_49 : decode cX1_getsPiece 49 = .ok (.istore_n 3, 1) := by decide +kernel
theorem dX1_getsPiece_50 : decode cX1_getsPiece 50 = .ok (.iinc 4 1, 3) := by decide +kernel
theorem dX1_getsPiece_53 : decode cX1_getsPiece 53 = .ok (.goto (-48), 3) := by decide +kernel
theorem dX1_getsPiece_56 : decode cX1_getsPiece 56 = .ok (.iconst 0, 1) := by decide +kernel
theorem dX1_getsPiece_57 : decode cX1_getsPiece 57 = .ok (.ireturn, 1) := by decide +kernel
theorem dX1_piecesOf_0 : decode cX1_piecesOf 0 = .ok (.iconst 0, 1) := by decide +kernel
theorem dX1_piecesOf_1 : decode cX1_piecesOf 1 = .ok (.istore_n 2, 1) := by decide +kernel
theorem dX1_piecesOf_2 : decode cX1_piecesOf 2 = .ok (.iconst 0, 1) := by decide +kernel
theorem dX1_piecesOf_3 : decode cX1_piecesOf 3 = .ok (.istore_n 3, 1) := by decide +kernel
theorem dX1_piecesOf_4 : decode cX1_piecesOf 4 = .ok (.iload_n 3, 1) := by decide +kernel
theorem dX1_piecesOf_5 : decode cX1_piecesOf 5 = .ok (.iconst 4, 1) := by decide +kernel
theorem dX1_piecesOf_6 : decode cX1_piecesOf 6 = .ok (.if_icmp .ge 21, 3) := by decide +kernel
theorem dX1_piecesOf_9 : decode cX1_piecesOf 9 = .ok (.aload_n 0, 1) := by decide +kernel
theorem dX1_piecesOf_10 : decode cX1_piecesOf 10 = .ok (.iload_n 1, 1) := by decide +kernel
theorem dX1_piecesOf_11 : decode cX1_piecesOf 11 = .ok (.iload_n 3, 1) := by decide +kernel
theorem dX1_piecesOf_12 : decode cX1_piecesOf 12 = .ok (.invokevirtual 25, 3) := by decide +kernel
theorem dX1_piecesOf_15 : decode cX1_piecesOf 15 = .ok (.ifCond .eq 6, 3) := by decide +kernel
theorem dX1_piecesOf_18 : decode cX1_piecesOf 18 = .ok (.iinc 2 1, 3) := by decide +kernel
theorem dX1_piecesOf_21 : decode cX1_piecesOf 21 = .ok (.iinc 3 1, 3) := by decide +kernel
theorem dX1_piecesOf_24 : decode cX1_piecesOf 24 = .ok (.goto (-20), 3) := by decide +kernel
theorem dX1_piecesOf_27 : decode cX1_piecesOf 27 = .ok (.iload_n 2, 1) := by decide +kernel
theorem dX1_piecesOf_28 : decode cX1_piecesOf 28 = .ok (.ireturn, 1) := by decide +kernel
theorem dX1_childrenAt_0 : decode cX1_childrenAt 0 = .ok (.iconst 0, 1) := by decide +kernel
theorem dX1_childrenAt_1 : decode cX1_childrenAt 1 = .ok (.istore_n 3, 1) := by decide +kernel
theorem dX1_childrenAt_2 : decode cX1_childrenAt 2 = .ok (.iconst 0, 1) := by decide +kernel
theorem dX1_childrenAt_3 : decode cX1_childrenAt 3 = .ok (.istore 4, 2) := by decide +kernel
theorem dX1_childrenAt_5 : decode cX1_childrenAt 5 = .ok (.iload 4, 2) := by decide +kernel
theorem dX1_childrenAt_7 : decode cX1_childrenAt 7 = .ok (.bipush 32, 2) := by decide +kernel
theorem dX1_childrenAt_9 : decode cX1_childrenAt 9 = .ok (.if_icmp .ge 26, 3) := by decide +kernel
theorem dX1_childrenAt_12 : decode cX1_childrenAt 12 = .ok (.aload_n 0, 1) := by decide +kernel
theorem dX1_childrenAt_13 : decode cX1_childrenAt 13 = .ok (.getfield 12, 3) := by decide +kernel
theorem dX1_childrenAt_16 : decode cX1_childrenAt 16 = .ok (.iload 4, 2) := by decide +kernel
theorem dX1_childrenAt_18 : decode cX1_childrenAt 18 = .ok (.iload_n 2, 1) := by decide +kernel
theorem dX1_childrenAt_19 : decode cX1_childrenAt 19 = .ok (.invokevirtual 18, 3) := by decide +kernel
theorem dX1_childrenAt_22 : decode cX1_childrenAt 22 = .ok (.iload_n 1, 1) := by decide +kernel
theorem dX1_childrenAt_23 : decode cX1_childrenAt 23 = .ok (.if_icmp .ne 6, 3) := by decide +kernel
theorem dX1_childrenAt_26 : decode cX1_childrenAt 26 = .ok (.iinc 3 1, 3) := by decide +kernel
theorem dX1_childrenAt_29 : decode cX1_childrenAt 29 = .ok (.iinc 4 1, 3) := by decide +kernel
theorem dX1_childrenAt_32 : decode cX1_childrenAt 32 = .ok (.goto (-27), 3) := by decide +kernel
theorem dX1_childrenAt_35 : decode cX1_childrenAt 35 = .ok (.iload_n 3, 1) := by decide +kernel
theorem dX1_childrenAt_36 : decode cX1_childrenAt 36 = .ok (.ireturn, 1) := by decide +kernel
theorem dX1_childAt_0 : decode cX1_childAt 0 = .ok (.iconst 0, 1) := by decide +kernel
theorem dX1_childAt_1 : decode cX1_childAt 1 = .ok (.istore 4, 2) := by decide +kernel
theorem dX1_childAt_3 : decode cX1_childAt 3 = .ok (.iconst 0, 1) := by decide +kernel
theorem dX1_childAt_4 : decode cX1_childAt 4 = .ok (.istore 5, 2) := by decide +kernel
theorem dX1_childAt_6 : decode cX1_childAt 6 = .ok (.iload 5, 2) := by decide +kernel
theorem dX1_childAt_8 : decode cX1_childAt 8 = .ok (.bipush 32, 2) := by decide +kernel
theorem dX1_childAt_10 : decode cX1_childAt 10 = .ok (.if_icmp .ge 35, 3) := by decide +kernel
theorem dX1_childAt_13 : decode cX1_childAt 13 = .ok (.aload_n 0, 1) := by decide +kernel
theorem dX1_childAt_14 : decode cX1_childAt 14 = .ok (.getfield 12, 3) := by decide +kernel
theorem dX1_childAt_17 : decode cX1_childAt 17 = .ok (.iload 5, 2) := by decide +kernel
theorem dX1_childAt_19 : decode cX1_childAt 19 = .ok (.iload_n 2, 1) := by decide +kernel
theorem dX1_childAt_20 : decode cX1_childAt 20 = .ok (.invokevirtual 18, 3) := by decide +kernel
theorem dX1_childAt_23 : decode cX1_childAt 23 = .ok (.iload_n 1, 1) := by decide +kernel
theorem dX1_childAt_24 : decode cX1_childAt 24 = .ok (.if_icmp .ne 15, 3) := by decide +kernel
theorem dX1_childAt_27 : decode cX1_childAt 27 = .ok (.iload 4, 2) := by decide +kernel
theorem dX1_childAt_29 : decode cX1_childAt 29 = .ok (.iload_n 3, 1) := by decide +kernel
theorem dX1_childAt_30 : decode cX1_childAt 30 = .ok (.if_icmp .ne 6, 3) := by decide +kernel
theorem dX1_childAt_33 : decode cX1_childAt 33 = .ok (.iload 5, 2) := by decide +kernel
theorem dX1_childAt_35 : decode cX1_childAt 35 = .ok (.ireturn, 1) := by decide +kernel
theorem dX1_childAt_36 : decode cX1_childAt 36 = .ok (.iinc 4 1, 3) := by decide +kernel
theorem dX1_childAt_39 : decode cX1_childAt 39 = .ok (.iinc 5 1, 3) := by decide +kernel
theorem dX1_childAt_42 : decode cX1_childAt 42 = .ok (.goto (-36), 3) := by decide +kernel
theorem dX1_childAt_45 : decode cX1_childAt 45 = .ok (.iconst (-1), 1) := by decide +kernel
theorem dX1_childAt_46 : decode cX1_childAt 46 = .ok (.ireturn, 1) := by decide +kernel
theorem dX1_subtreeSize_0 : decode cX1_subtreeSize 0 = .ok (.iconst 0, 1) := by decide +kernel
theorem dX1_subtreeSize_1 : decode cX1_subtreeSize 1 = .ok (.istore_n 3, 1) := by decide +kernel
theorem dX1_subtreeSize_2 : decode cX1_subtreeSize 2 = .ok (.iconst 0, 1) := by decide +kernel
theorem dX1_subtreeSize_3 : decode cX1_subtreeSize 3 = .ok (.istore 4, 2) := by decide +kernel
theorem dX1_subtreeSize_5 : decode cX1_subtreeSize 5 = .ok (.iload 4, 2) := by decide +kernel
theorem dX1_subtreeSize_7 : decode cX1_subtreeSize 7 = .ok (.bipush 32, 2) := by decide +kernel
theorem dX1_subtreeSize_9 : decode cX1_subtreeSize 9 = .ok (.if_icmp .ge 23, 3) := by decide +kernel
theorem dX1_subtreeSize_12 : decode cX1_subtreeSize 12 = .ok (.aload_n 0, 1) := by decide +kernel
theorem dX1_subtreeSize_13 : decode cX1_subtreeSize 13 = .ok (.iload 4, 2) := by decide +kernel
theorem dX1_subtreeSize_15 : decode cX1_subtreeSize 15 = .ok (.iload_n 1, 1) := by decide +kernel
theorem dX1_subtreeSize_16 : decode cX1_subtreeSize 16 = .ok (.iload_n 2, 1) := by decide +kernel
theorem dX1_subtreeSize_17 : decode cX1_subtreeSize 17 = .ok (.invokevirtual 29, 3) := by decide +kernel
theorem dX1_subtreeSize_20 : decode cX1_subtreeSize 20 = .ok (.ifCond .eq 6, 3) := by decide +kernel
theorem dX1_subtreeSize_23 : decode cX1_subtreeSize 23 = .ok (.iinc 3 1, 3) := by decide +kernel
theorem dX1_subtreeSize_26 : decode cX1_subtreeSize 26 = .ok (.iinc 4 1, 3) := by decide +kernel
theorem dX1_subtreeSize_29 : decode cX1_subtreeSize 29 = .ok (.goto (-24), 3) := by decide +kernel
theorem dX1_subtreeSize_32 : decode cX1_subtreeSize 32 = .ok (.iload_n 3, 1) := by decide +kernel
theorem dX1_subtreeSize_33 : decode cX1_subtreeSize 33 = .ok (.ireturn, 1) := by decide +kernel
theorem dX1_canBeInner_0 : decode cX1_canBeInner 0 = .ok (.aload_n 0, 1) := by decide +kernel
theorem dX1_canBeInner_1 : decode cX1_canBeInner 1 = .ok (.getfield 12, 3) := by decide +kernel
theorem dX1_canBeInner_4 : decode cX1_canBeInner 4 = .ok (.iload_n 1, 1) := by decide +kernel
theorem dX1_canBeInner_5 : decode cX1_canBeInner 5 = .ok (.iconst 1, 1) := by decide +kernel
theorem dX1_canBeInner_6 : decode cX1_canBeInner 6 = .ok (.invokevirtual 22, 3) := by decide +kernel
theorem dX1_canBeInner_9 : decode cX1_canBeInner 9 = .ok (.ifCond .le 33, 3) := by decide +kernel
theorem dX1_canBeInner_12 : decode cX1_canBeInner 12 = .ok (.aload_n 0, 1) := by decide +kernel
theorem dX1_canBeInner_13 : decode cX1_canBeInner 13 = .ok (.getfield 12, 3) := by decide +kernel
theorem dX1_canBeInner_16 : decode cX1_canBeInner 16 = .ok (.iload_n 1, 1) := by decide +kernel
theorem dX1_canBeInner_17 : decode cX1_canBeInner 17 = .ok (.iconst 5, 1) := by decide +kernel
theorem dX1_canBeInner_18 : decode cX1_canBeInner 18 = .ok (.invokevirtual 22, 3) := by decide +kernel
theorem dX1_canBeInner_21 : decode cX1_canBeInner 21 = .ok (.ifCond .eq 17, 3) := by decide +kernel
theorem dX1_canBeInner_24 : decode cX1_canBeInner 24 = .ok (.aload_n 0, 1) := by decide +kernel
theorem dX1_canBeInner_25 : decode cX1_canBeInner 25 = .ok (.getfield 12, 3) := by decide +kernel
theorem dX1_canBeInner_28 : decode cX1_canBeInner 28 = .ok (.iload_n 1, 1) := by decide +kernel
theorem dX1_canBeInner_29 : decode cX1_canBeInner 29 = .ok (.bipush 6, 2) := by decide +kernel
theorem dX1_canBeInner_31 : decode cX1_canBeInner 31 = .ok (.invokevirtual 22, 3) := by decide +kernel
theorem dX1_canBeInner_34 : decode cX1_canBeInner 34 = .ok (.iload_n 2, 1) := by decide +kernel
theorem dX1_canBeInner_35 : decode cX1_canBeInner 35 = .ok (.if_icmp .ne 7, 3) := by decide +kernel
theorem dX1_canBeInner_38 : decode cX1_canBeInner 38 = .ok (.iconst 1, 1) := by decide +kernel
theorem dX1_canBeInner_39 : decode cX1_canBeInner 39 = .ok (.goto 4, 3) := by decide +kernel
theorem dX1_canBeInner_42 : decode cX1_canBeInner 42 = .ok (.iconst 0, 1) := by decide +kernel
theorem dX1_canBeInner_43 : decode cX1_canBeInner 43 = .ok (.ireturn, 1) := by decide +kernel
theorem dX1_isRoomAt_0 : decode cX1_isRoomAt 0 = .ok (.iload_n 1, 1) := by decide +kernel
theorem dX1_isRoomAt_1 : decode cX1_isRoomAt 1 = .ok (.bipush 100, 2) := by decide +kernel
theorem dX1_isRoomAt_3 : decode cX1_isRoomAt 3 = .ok (.if_icmp .ne 28, 3) := by decide +kernel
theorem dX1_isRoomAt_6 : decode cX1_isRoomAt 6 = .ok (.aload_n 0, 1) := by decide +kernel
theorem dX1_isRoomAt_7 : decode cX1_isRoomAt 7 = .ok (.bipush 100, 2) := by decide +kernel
theorem dX1_isRoomAt_9 : decode cX1_isRoomAt 9 = .ok (.iload_n 2, 1) := by decide +kernel
theorem dX1_isRoomAt_10 : decode cX1_isRoomAt 10 = .ok (.invokevirtual 33, 3) := by decide +kernel
theorem dX1_isRoomAt_13 : decode cX1_isRoomAt 13 = .ok (.aload_n 0, 1) := by decide +kernel
theorem dX1_isRoomAt_14 : decode cX1_isRoomAt 14 = .ok (.getfield 12, 3) := by decide +kernel
theorem dX1_isRoomAt_17 : decode cX1_isRoomAt 17 = .ok (.bipush 9, 2) := by decide +kernel
theorem dX1_isRoomAt_19 : decode cX1_isRoomAt 19 = .ok (.invokevirtual 36, 3) := by decide +kernel
theorem dX1_isRoomAt_22 : decode cX1_isRoomAt 22 = .ok (.if_icmp .ge 7, 3) := by decide +kernel
theorem dX1_isRoomAt_25 : decode cX1_isRoomAt 25 = .ok (.iconst 1, 1) := by decide +kernel
theorem dX1_isRoomAt_26 : decode cX1_isRoomAt 26 = .ok (.goto 4, 3) := by decide +kernel
theorem dX1_isRoomAt_29 : decode cX1_isRoomAt 29 = .ok (.iconst 0, 1) := by decide +kernel
theorem dX1_isRoomAt_30 : decode cX1_isRoomAt 30 = .ok (.ireturn, 1) := by decide +kernel
theorem dX1_isRoomAt_31 : decode cX1_isRoomAt 31 = .ok (.aload_n 0, 1) := by decide +kernel
theorem dX1_isRoomAt_32 : decode cX1_isRoomAt 32 = .ok (.iload_n 1, 1) := by decide +kernel
theorem dX1_isRoomAt_33 : decode cX1_isRoomAt 33 = .ok (.iload_n 2, 1) := by decide +kernel
theorem dX1_isRoomAt_34 : decode cX1_isRoomAt 34 = .ok (.invokevirtual 40, 3) := by decide +kernel
theorem dX1_isRoomAt_37 : decode cX1_isRoomAt 37 = .ok (.ifCond .eq 38, 3) := by decide +kernel
theorem dX1_isRoomAt_40 : decode cX1_isRoomAt 40 = .ok (.aload_n 0, 1) := by decide +kernel
theorem dX1_isRoomAt_41 : decode cX1_isRoomAt 41 = .ok (.getfield 12, 3) := by decide +kernel
theorem dX1_isRoomAt_44 : decode cX1_isRoomAt 44 = .ok (.iload_n 1, 1) := by decide +kernel
theorem dX1_isRoomAt_45 : decode cX1_isRoomAt 45 = .ok (.iconst 5, 1) := by decide +kernel
theorem dX1_isRoomAt_46 : decode cX1_isRoomAt 46 = .ok (.invokevirtual 22, 3) := by decide +kernel
theorem dX1_isRoomAt_49 : decode cX1_isRoomAt 49 = .ok (.aload_n 0, 1) := by decide +kernel
theorem dX1_isRoomAt_50 : decode cX1_isRoomAt 50 = .ok (.getfield 12, 3) := by decide +kernel
theorem dX1_isRoomAt_53 : decode cX1_isRoomAt 53 = .ok (.iload_n 1, 1) := by decide +kernel
theorem dX1_isRoomAt_54 : decode cX1_isRoomAt 54 = .ok (.iconst 1, 1) := by decide +kernel
theorem dX1_isRoomAt_55 : decode cX1_isRoomAt 55 = .ok (.invokevirtual 22, 3) := by decide +kernel
theorem dX1_isRoomAt_58 : decode cX1_isRoomAt 58 = .ok (.if_icmp .ge 17, 3) := by decide +kernel
theorem dX1_isRoomAt_61 : decode cX1_isRoomAt 61 = .ok (.aload_n 0, 1) := by decide +kernel
theorem dX1_isRoomAt_62 : decode cX1_isRoomAt 62 = .ok (.iload_n 1, 1) := by decide +kernel
theorem dX1_isRoomAt_63 : decode cX1_isRoomAt 63 = .ok (.iload_n 2, 1) := by decide +kernel
theorem dX1_isRoomAt_64 : decode cX1_isRoomAt 64 = .ok (.invokevirtual 43, 3) := by decide +kernel
theorem dX1_isRoomAt_67 : decode cX1_isRoomAt 67 = .ok (.iconst (-1), 1) := by decide +kernel
theorem dX1_isRoomAt_68 : decode cX1_isRoomAt 68 = .ok (.if_icmp .eq 7, 3) := by decide +kernel
theorem dX1_isRoomAt_71 : decode cX1_isRoomAt 71 = .ok (.iconst 1, 1) := by decide +kernel
theorem dX1_isRoomAt_72 : decode cX1_isRoomAt 72 = .ok (.goto 4, 3) := by decide +kernel
theorem dX1_isRoomAt_75 : decode cX1_isRoomAt 75 = .ok (.iconst 0, 1) := by decide +kernel
theorem dX1_isRoomAt_76 : decode cX1_isRoomAt 76 = .ok (.ireturn, 1) := by decide +kernel
theorem dX1_isBefore_0 : decode cX1_isBefore 0 = .ok (.aload_n 0, 1) := by decide +kernel
theorem dX1_isBefore_1 : decode cX1_isBefore 1 = .ok (.getfield 12, 3) := by decide +kernel
theorem dX1_isBefore_4 : decode cX1_isBefore 4 = .ok (.iload_n 1, 1) := by decide +kernel
theorem dX1_isBefore_5 : decode cX1_isBefore 5 = .ok (.iconst 2, 1) := by decide +kernel
theorem dX1_isBefore_6 : decode cX1_isBefore 6 = .ok (.invokevirtual 22, 3) := by decide +kernel
theorem dX1_isBefore_9 : decode cX1_isBefore 9 = .ok (.iload_n 3, 1) := by decide +kernel
theorem dX1_isBefore_10 : decode cX1_isBefore 10 = .ok (.if_icmp .ne 7, 3) := by decide +kernel
theorem dX1_isBefore_13 : decode cX1_isBefore 13 = .ok (.iconst 1, 1) := by decide +kernel
theorem dX1_isBefore_14 : decode cX1_isBefore 14 = .ok (.goto 4, 3) := by decide +kernel
theorem dX1_isBefore_17 : decode cX1_isBefore 17 = .ok (.iconst 0, 1) := by decide +kernel
theorem dX1_isBefore_18 : decode cX1_isBefore 18 = .ok (.istore 4, 2) := by decide +kernel
theorem dX1_isBefore_20 : decode cX1_isBefore 20 = .ok (.aload_n 0, 1) := by decide +kernel
theorem dX1_isBefore_21 : decode cX1_isBefore 21 = .ok (.getfield 12, 3) := by decide +kernel
theorem dX1_isBefore_24 : decode cX1_isBefore 24 = .ok (.iload_n 2, 1) := by decide +kernel
theorem dX1_isBefore_25 : decode cX1_isBefore 25 = .ok (.iconst 2, 1) := by decide +kernel
theorem dX1_isBefore_26 : decode cX1_isBefore 26 = .ok (.invokevirtual 22, 3) := by decide +kernel
theorem dX1_isBefore_29 : decode cX1_isBefore 29 = .ok (.iload_n 3, 1) := by decide +kernel
theorem dX1_isBefore_30 : decode cX1_isBefore 30 = .ok (.if_icmp .ne 7, 3) := by decide +kernel
theorem dX1_isBefore_33 : decode cX1_isBefore 33 = .ok (.iconst 1, 1) := by decide +kernel
theorem dX1_isBefore_34 : decode cX1_isBefore 34 = .ok (.goto 4, 3) := by decide +kernel
theorem dX1_isBefore_37 : decode cX1_isBefore 37 = .ok (.iconst 0, 1) := by decide +kernel
theorem dX1_isBefore_38 : decode cX1_isBefore 38 = .ok (.istore 5, 2) := by decide +kernel
theorem dX1_isBefore_40 : decode cX1_isBefore 40 = .ok (.iload 4, 2) := by decide +kernel
theorem dX1_isBefore_42 : decode cX1_isBefore 42 = .ok (.iload 5, 2) := by decide +kernel
theorem dX1_isBefore_44 : decode cX1_isBefore 44 = .ok (.if_icmp .eq 6, 3) := by decide +kernel
theorem dX1_isBefore_47 : decode cX1_isBefore 47 = .ok (.iload 4, 2) := by decide +kernel
theorem dX1_isBefore_49 : decode cX1_isBefore 49 = .ok (.ireturn, 1) := by decide +kernel
theorem dX1_isBefore_50 : decode cX1_isBefore 50 = .ok (.aload_n 0, 1) := by decide +kernel
theorem dX1_isBefore_51 : decode cX1_isBefore 51 = .ok (.getfield 12, 3) := by decide +kernel
theorem dX1_isBefore_54 : decode cX1_isBefore 54 = .ok (.iload_n 1, 1) := by decide +kernel
theorem dX1_isBefore_55 : decode cX1_isBefore 55 = .ok (.iconst 1, 1) := by decide +kernel
theorem dX1_isBefore_56 : decode cX1_isBefore 56 = .ok (.invokevirtual 22, 3) := by decide +kernel
theorem dX1_isBefore_59 : decode cX1_isBefore 59 = .ok (.istore 6, 2) := by decide +kernel
theorem dX1_isBefore_61 : decode cX1_isBefore 61 = .ok (.aload_n 0, 1) := by decide +kernel
theorem dX1_isBefore_62 : decode cX1_isBefore 62 = .ok (.getfield 12, 3) := by decide +kernel
theorem dX1_isBefore_65 : decode cX1_isBefore 65 = .ok (.iload_n 2, 1) := by decide +kernel
theorem dX1_isBefore_66 : decode cX1_isBefore 66 = .ok (.iconst 1, 1) := by decide +kernel
theorem dX1_isBefore_67 : decode cX1_isBefore 67 = .ok (.invokevirtual 22, 3) := by decide +kernel
theorem dX1_isBefore_70 : decode cX1_isBefore 70 = .ok (.istore 7, 2) := by decide +kernel
theorem dX1_isBefore_72 : decode cX1_isBefore 72 = .ok (.iload 6, 2) := by decide +kernel
theorem dX1_isBefore_74 : decode cX1_isBefore 74 = .ok (.iload 7, 2) := by decide +kernel
theorem dX1_isBefore_76 : decode cX1_isBefore 76 = .ok (.if_icmp .eq 18, 3) := by decide +kernel
theorem dX1_isBefore_79 : decode cX1_isBefore 79 = .ok (.iload 6, 2) := by decide +kernel
theorem dX1_isBefore_81 : decode cX1_isBefore 81 = .ok (.iload 7, 2) := by decide +kernel
theorem dX1_isBefore_83 : decode cX1_isBefore 83 = .ok (.if_icmp .le 7, 3) := by decide +kernel
theorem dX1_isBefore_86 : decode cX1_isBefore 86 = .ok (.iconst 1, 1) := by decide +kernel
theorem dX1_isBefore_87 : decode cX1_isBefore 87 = .ok (.goto 17, 3) := by decide +kernel
theorem dX1_isBefore_90 : decode cX1_isBefore 90 = .ok (.iconst 0, 1) := by decide +kernel
theorem dX1_isBefore_91 : decode cX1_isBefore 91 = .ok (.goto 13, 3) := by decide +kernel
theorem dX1_isBefore_94 : decode cX1_isBefore 94 = .ok (.iload_n 1, 1) := by decide +kernel
theorem dX1_isBefore_95 : decode cX1_isBefore 95 = .ok (.iload_n 2, 1) := by decide +kernel
theorem dX1_isBefore_96 : decode cX1_isBefore 96 = .ok (.if_icmp .ge 7, 3) := by decide +kernel
theorem dX1_isBefore_99 : decode cX1_isBefore 99 = .ok (.iconst 1, 1) := by decide +kernel
theorem dX1_isBefore_100 : decode cX1_isBefore 100 = .ok (.goto 4, 3) := by decide +kernel
theorem dX1_isBefore_103 : decode cX1_isBefore 103 = .ok (.iconst 0, 1) := by decide +kernel
theorem dX1_isBefore_104 : decode cX1_isBefore 104 = .ok (.ireturn, 1) := by decide +kernel
theorem dX1_lastChild_0 : decode cX1_lastChild 0 = .ok (.iconst (-1), 1) := by decide +kernel
theorem dX1_lastChild_1 : decode cX1_lastChild 1 = .ok (.istore_n 3, 1) := by decide +kernel
theorem dX1_lastChild_2 : decode cX1_lastChild 2 = .ok (.iconst 0, 1) := by decide +kernel
theorem dX1_lastChild_3 : decode cX1_lastChild 3 = .ok (.istore 4, 2) := by decide +kernel
theorem dX1_lastChild_5 : decode cX1_lastChild 5 = .ok (.iload 4, 2) := by decide +kernel
theorem dX1_lastChild_7 : decode cX1_lastChild 7 = .ok (.bipush 32, 2) := by decide +kernel
theorem dX1_lastChild_9 : decode cX1_lastChild 9 = .ok (.if_icmp .ge 42, 3) := by decide +kernel
theorem dX1_lastChild_12 : decode cX1_lastChild 12 = .ok (.aload_n 0, 1) := by decide +kernel
theorem dX1_lastChild_13 : decode cX1_lastChild 13 = .ok (.getfield 12, 3) := by decide +kernel
theorem dX1_lastChild_16 : decode cX1_lastChild 16 = .ok (.iload 4, 2) := by decide +kernel
theorem dX1_lastChild_18 : decode cX1_lastChild 18 = .ok (.iload_n 2, 1) := by decide +kernel
theorem dX1_lastChild_19 : decode cX1_lastChild 19 = .ok (.invokevirtual 18, 3) := by decide +kernel
theorem dX1_lastChild_22 : decode cX1_lastChild 22 = .ok (.iload_n 1, 1) := by decide +kernel
theorem dX1_lastChild_23 : decode cX1_lastChild 23 = .ok (.if_icmp .ne 22, 3) := by decide +kernel
theorem dX1_lastChild_26 : decode cX1_lastChild 26 = .ok (.iload_n 3, 1) := by decide +kernel
theorem dX1_lastChild_27 : decode cX1_lastChild 27 = .ok (.iconst (-1), 1) := by decide +kernel
theorem dX1_lastChild_28 : decode cX1_lastChild 28 = .ok (.if_icmp .eq 14, 3) := by decide +kernel
theorem dX1_lastChild_31 : decode cX1_lastChild 31 = .ok (.aload_n 0, 1) := by decide +kernel
theorem dX1_lastChild_32 : decode cX1_lastChild 32 = .ok (.iload_n 3, 1) := by decide +kernel
theorem dX1_lastChild_33 : decode cX1_lastChild 33 = .ok (.iload 4, 2) := by decide +kernel
theorem dX1_lastChild_35 : decode cX1_lastChild 35 = .ok (.iload_n 2, 1) := by decide +kernel
theorem dX1_lastChild_36 : decode cX1_lastChild 36 = .ok (.invokevirtual 46, 3) := by decide +kernel
theorem dX1_lastChild_39 : decode cX1_lastChild 39 = .ok (.ifCond .eq 6, 3) := by decide +kernel
theorem dX1_lastChild_42 : decode cX1_lastChild 42 = .ok (.iload 4, 2) := by decide +kernel
theorem dX1_lastChild_44 : decode cX1_lastChild 44 = .ok (.istore_n 3, 1) := by decide +kernel
theorem dX1_lastChild_45 : decode cX1_lastChild 45 = .ok (.iinc 4 1, 3) := by decide +kernel
theorem dX1_lastChild_48 : decode cX1_lastChild 48 = .ok (.goto (-43), 3) := by decide +kernel
theorem dX1_lastChild_51 : decode cX1_lastChild 51 = .ok (.iload_n 3, 1) := by decide +kernel
theorem dX1_lastChild_52 : decode cX1_lastChild 52 = .ok (.ireturn, 1) := by decide +kernel
theorem dX1_firstInnerChild_0 : decode cX1_firstInnerChild 0 = .ok (.iconst (-1), 1) := by decide +kernel
theorem dX1_firstInnerChild_1 : decode cX1_firstInnerChild 1 = .ok (.istore_n 3, 1) := by decide +kernel
theorem dX1_firstInnerChild_2 : decode cX1_firstInnerChild 2 = .ok (.iconst 0, 1) := by decide +kernel
theorem dX1_firstInnerChild_3 : decode cX1_firstInnerChild 3 = .ok (.istore 4, 2) := by decide +kernel
theorem dX1_firstInnerChild_5 : decode cX1_firstInnerChild 5 = .ok (.iload 4, 2) := by decide +kernel
theorem dX1_firstInnerChild_7 : decode cX1_firstInnerChild 7 = .ok (.bipush 32, 2) := by decide +kernel
theorem dX1_firstInnerChild_9 : decode cX1_firstInnerChild 9 = .ok (.if_icmp .ge 52, 3) := by decide +kernel
theorem dX1_firstInnerChild_12 : decode cX1_firstInnerChild 12 = .ok (.aload_n 0, 1) := by decide +kernel
theorem dX1_firstInnerChild_13 : decode cX1_firstInnerChild 13 = .ok (.getfield 12, 3) := by decide +kernel
theorem dX1_firstInnerChild_16 : decode cX1_firstInnerChild 16 = .ok (.iload 4, 2) := by decide +kernel
theorem dX1_firstInnerChild_18 : decode cX1_firstInnerChild 18 = .ok (.iload_n 2, 1) := by decide +kernel
theorem dX1_firstInnerChild_19 : decode cX1_firstInnerChild 19 = .ok (.invokevirtual 18, 3) := by decide +kernel
theorem dX1_firstInnerChild_22 : decode cX1_firstInnerChild 22 = .ok (.iload_n 1, 1) := by decide +kernel
theorem dX1_firstInnerChild_23 : decode cX1_firstInnerChild 23 = .ok (.if_icmp .ne 32, 3) := by decide +kernel
theorem dX1_firstInnerChild_26 : decode cX1_firstInnerChild 26 = .ok (.aload_n 0, 1) := by decide +kernel
theorem dX1_firstInnerChild_27 : decode cX1_firstInnerChild 27 = .ok (.iload 4, 2) := by decide +kernel
theorem dX1_firstInnerChild_29 : decode cX1_firstInnerChild 29 = .ok (.iload_n 2, 1) := by decide +kernel
theorem dX1_firstInnerChild_30 : decode cX1_firstInnerChild 30 = .ok (.invokevirtual 40, 3) := by decide +kernel
theorem dX1_firstInnerChild_33 : decode cX1_firstInnerChild 33 = .ok (.ifCond .eq 22, 3) := by decide +kernel
theorem dX1_firstInnerChild_36 : decode cX1_firstInnerChild 36 = .ok (.iload_n 3, 1) := by decide +kernel
theorem dX1_firstInnerChild_37 : decode cX1_firstInnerChild 37 = .ok (.iconst (-1), 1) := by decide +kernel
theorem dX1_firstInnerChild_38 : decode cX1_firstInnerChild 38 = .ok (.if_icmp .eq 14, 3) := by decide +kernel
theorem dX1_firstInnerChild_41 : decode cX1_firstInnerChild 41 = .ok (.aload_n 0, 1) := by decide +kernel
theorem dX1_firstInnerChild_42 : decode cX1_firstInnerChild 42 = .ok (.iload 4, 2) := by decide +kernel
theorem dX1_firstInnerChild_44 : decode cX1_firstInnerChild 44 = .ok (.iload_n 3, 1) := by decide +kernel
theorem dX1_firstInnerChild_45 : decode cX1_firstInnerChild 45 = .ok (.iload_n 2, 1) := by decide +kernel
theorem dX1_firstInnerChild_46 : decode cX1_firstInnerChild 46 = .ok (.invokevirtual 46, 3) := by decide +kernel
theorem dX1_firstInnerChild_49 : decode cX1_firstInnerChild 49 = .ok (.ifCond .eq 6, 3) := by decide +kernel
theorem dX1_firstInnerChild_52 : decode cX1_firstInnerChild 52 = .ok (.iload 4, 2) := by decide +kernel
theorem dX1_firstInnerChild_54 : decode cX1_firstInnerChild 54 = .ok (.istore_n 3, 1) := by decide +kernel
theorem dX1_firstInnerChild_55 : decode cX1_firstInnerChild 55 = .ok (.iinc 4 1, 3) := by decide +kernel
theorem dX1_firstInnerChild_58 : decode cX1_firstInnerChild 58 = .ok (.goto (-53), 3) := by decide +kernel
theorem dX1_firstInnerChild_61 : decode cX1_firstInnerChild 61 = .ok (.iload_n 3, 1) := by decide +kernel
theorem dX1_firstInnerChild_62 : decode cX1_firstInnerChild 62 = .ok (.ireturn, 1) := by decide +kernel
theorem dX1_spareMember_0 : decode cX1_spareMember 0 = .ok (.iconst (-1), 1) := by decide +kernel
theorem dX1_spareMember_1 : decode cX1_spareMember 1 = .ok (.istore_n 2, 1) := by decide +kernel
theorem dX1_spareMember_2 : decode cX1_spareMember 2 = .ok (.iconst (-1), 1) := by decide +kernel
theorem dX1_spareMember_3 : decode cX1_spareMember 3 = .ok (.istore_n 3, 1) := by decide +kernel
theorem dX1_spareMember_4 : decode cX1_spareMember 4 = .ok (.iconst 0, 1) := by decide +kernel
theorem dX1_spareMember_5 : decode cX1_spareMember 5 = .ok (.istore 4, 2) := by decide +kernel
theorem dX1_spareMember_7 : decode cX1_spareMember 7 = .ok (.iload 4, 2) := by decide +kernel
theorem dX1_spareMember_9 : decode cX1_spareMember 9 = .ok (.bipush 32, 2) := by decide +kernel
theorem dX1_spareMember_11 : decode cX1_spareMember 11 = .ok (.if_icmp .ge 45, 3) := by decide +kernel
theorem dX1_spareMember_14 : decode cX1_spareMember 14 = .ok (.aload_n 0, 1) := by decide +kernel
theorem dX1_spareMember_15 : decode cX1_spareMember 15 = .ok (.iload 4, 2) := by decide +kernel
theorem dX1_spareMember_17 : decode cX1_spareMember 17 = .ok (.iload_n 1, 1) := by decide +kernel
theorem dX1_spareMember_18 : decode cX1_spareMember 18 = .ok (.invokevirtual 49, 3) := by decide +kernel
theorem dX1_spareMember_21 : decode cX1_spareMember 21 = .ok (.ifCond .eq 29, 3) := by decide +kernel
theorem dX1_spareMember_24 : decode cX1_spareMember 24 = .ok (.aload_n 0, 1) := by decide +kernel
theorem dX1_spareMember_25 : decode cX1_spareMember 25 = .ok (.iload 4, 2) := by decide +kernel
theorem dX1_spareMember_27 : decode cX1_spareMember 27 = .ok (.iload_n 1, 1) := by decide +kernel
theorem dX1_spareMember_28 : decode cX1_spareMember 28 = .ok (.invokevirtual 43, 3) := by decide +kernel
theorem dX1_spareMember_31 : decode cX1_spareMember 31 = .ok (.istore 5, 2) := by decide +kernel
theorem dX1_spareMember_33 : decode cX1_spareMember 33 = .ok (.iload_n 2, 1) := by decide +kernel
theorem dX1_spareMember_34 : decode cX1_spareMember 34 = .ok (.iconst (-1), 1) := by decide +kernel
theorem dX1_spareMember_35 : decode cX1_spareMember 35 = .ok (.if_icmp .eq 9, 3) := by decide +kernel
theorem dX1_spareMember_38 : decode cX1_spareMember 38 = .ok (.iload 5, 2) := by decide +kernel
theorem dX1_spareMember_40 : decode cX1_spareMember 40 = .ok (.iload_n 3, 1) := by decide +kernel
theorem dX1_spareMember_41 : decode cX1_spareMember 41 = .ok (.if_icmp .ge 9, 3) := by decide +kernel
theorem dX1_spareMember_44 : decode cX1_spareMember 44 = .ok (.iload 4, 2) := by decide +kernel
theorem dX1_spareMember_46 : decode cX1_spareMember 46 = .ok (.istore_n 2, 1) := by decide +kernel
theorem dX1_spareMember_47 : decode cX1_spareMember 47 = .ok (.iload 5, 2) := by decide +kernel
theorem dX1_spareMember_49 : decode cX1_spareMember 49 = .ok (.istore_n 3, 1) := by decide +kernel
theorem dX1_spareMember_50 : decode cX1_spareMember 50 = .ok (.iinc 4 1, 3) := by decide +kernel
theorem dX1_spareMember_53 : decode cX1_spareMember 53 = .ok (.goto (-46), 3) := by decide +kernel
theorem dX1_spareMember_56 : decode cX1_spareMember 56 = .ok (.iload_n 2, 1) := by decide +kernel
theorem dX1_spareMember_57 : decode cX1_spareMember 57 = .ok (.ireturn, 1) := by decide +kernel
theorem dX1_attach_0 : decode cX1_attach 0 = .ok (.iload_n 1, 1) := by decide +kernel
theorem dX1_attach_1 : decode cX1_attach 1 = .ok (.istore_n 3, 1) := by decide +kernel
theorem dX1_attach_2 : decode cX1_attach 2 = .ok (.bipush 100, 2) := by decide +kernel
theorem dX1_attach_4 : decode cX1_attach 4 = .ok (.istore 4, 2) := by decide +kernel
theorem dX1_attach_6 : decode cX1_attach 6 = .ok (.iconst 0, 1) := by decide +kernel
theorem dX1_attach_7 : decode cX1_attach 7 = .ok (.istore 5, 2) := by decide +kernel
theorem dX1_attach_9 : decode cX1_attach 9 = .ok (.iload 5, 2) := by decide +kernel
theorem dX1_attach_11 : decode cX1_attach 11 = .ok (.bipush 32, 2) := by decide +kernel
theorem dX1_attach_13 : decode cX1_attach 13 = .ok (.if_icmp .gt 110, 3) := by decide +kernel
theorem dX1_attach_16 : decode cX1_attach 16 = .ok (.aload_n 0, 1) := by decide +kernel
theorem dX1_attach_17 : decode cX1_attach 17 = .ok (.iload 4, 2) := by decide +kernel
theorem dX1_attach_19 : decode cX1_attach 19 = .ok (.iload_n 2, 1) := by decide +kernel
theorem dX1_attach_20 : decode cX1_attach 20 = .ok (.invokevirtual 49, 3) := by decide +kernel
theorem dX1_attach_23 : decode cX1_attach 23 = .ok (.ifCond .eq 15, 3) := by decide +kernel
theorem dX1_attach_26 : decode cX1_attach 26 = .ok (.aload_n 0, 1) := by decide +kernel
theorem dX1_attach_27 : decode cX1_attach 27 = .ok (.getfield 12, 3) := by decide +kernel
theorem dX1_attach_30 : decode cX1_attach 30 = .ok (.iload_n 3, 1) := by decide +kernel
theorem dX1_attach_31 : decode cX1_attach 31 = .ok (.iload_n 2, 1) := by decide +kernel
theorem dX1_attach_32 : decode cX1_attach 32 = .ok (.iload 4, 2) := by decide +kernel
theorem dX1_attach_34 : decode cX1_attach 34 = .ok (.invokevirtual 52, 3) := by decide +kernel
theorem dX1_attach_37 : decode cX1_attach 37 = .ok (.return_, 1) := by decide +kernel
theorem dX1_attach_38 : decode cX1_attach 38 = .ok (.aload_n 0, 1) := by decide +kernel
theorem dX1_attach_39 : decode cX1_attach 39 = .ok (.iload 4, 2) := by decide +kernel
theorem dX1_attach_41 : decode cX1_attach 41 = .ok (.iload_n 2, 1) := by decide +kernel
theorem dX1_attach_42 : decode cX1_attach 42 = .ok (.invokevirtual 56, 3) := by decide +kernel
theorem dX1_attach_45 : decode cX1_attach 45 = .ok (.istore 6, 2) := by decide +kernel
theorem dX1_attach_47 : decode cX1_attach 47 = .ok (.iload 6, 2) := by decide +kernel
theorem dX1_attach_49 : decode cX1_attach 49 = .ok (.iconst (-1), 1) := by decide +kernel
theorem dX1_attach_50 : decode cX1_attach 50 = .ok (.if_icmp .eq 40, 3) := by decide +kernel
theorem dX1_attach_53 : decode cX1_attach 53 = .ok (.aload_n 0, 1) := by decide +kernel
theorem dX1_attach_54 : decode cX1_attach 54 = .ok (.iload_n 3, 1) := by decide +kernel
theorem dX1_attach_55 : decode cX1_attach 55 = .ok (.iload 6, 2) := by decide +kernel
theorem dX1_attach_57 : decode cX1_attach 57 = .ok (.iload_n 2, 1) := by decide +kernel
theorem dX1_attach_58 : decode cX1_attach 58 = .ok (.invokevirtual 46, 3) := by decide +kernel
theorem dX1_attach_61 : decode cX1_attach 61 = .ok (.ifCond .eq 29, 3) := by decide +kernel
theorem dX1_attach_64 : decode cX1_attach 64 = .ok (.aload_n 0, 1) := by decide +kernel
theorem dX1_attach_65 : decode cX1_attach 65 = .ok (.iload_n 3, 1) := by decide +kernel
theorem dX1_attach_66 : decode cX1_attach 66 = .ok (.iload_n 2, 1) := by decide +kernel
theorem dX1_attach_67 : decode cX1_attach 67 = .ok (.invokevirtual 40, 3) := by decide +kernel
theorem dX1_attach_70 : decode cX1_attach 70 = .ok (.ifCond .eq 20, 3) := by decide +kernel
theorem dX1_attach_73 : decode cX1_attach 73 = .ok (.aload_n 0, 1) := by decide +kernel
theorem dX1_attach_74 : decode cX1_attach 74 = .ok (.iload_n 3, 1) := by decide +kernel
theorem dX1_attach_75 : decode cX1_attach 75 = .ok (.iload 6, 2) := by decide +kernel
theorem dX1_attach_77 : decode cX1_attach 77 = .ok (.iload_n 2, 1) := by decide +kernel
theorem dX1_attach_78 : decode cX1_attach 78 = .ok (.invokevirtual 59, 3) := by decide +kernel
theorem dX1_attach_81 : decode cX1_attach 81 = .ok (.iload_n 3, 1) := by decide +kernel
theorem dX1_attach_82 : decode cX1_attach 82 = .ok (.istore 4, 2) := by decide +kernel
theorem dX1_attach_84 : decode cX1_attach 84 = .ok (.iload 6, 2) := by decide +kernel
theorem dX1_attach_86 : decode cX1_attach 86 = .ok (.istore_n 3, 1) := by decide +kernel
theorem dX1_attach_87 : decode cX1_attach 87 = .ok (.goto 30, 3) := by decide +kernel
theorem dX1_attach_90 : decode cX1_attach 90 = .ok (.aload_n 0, 1) := by decide +kernel
theorem dX1_attach_91 : decode cX1_attach 91 = .ok (.iload 4, 2) := by decide +kernel
theorem dX1_attach_93 : decode cX1_attach 93 = .ok (.iload_n 2, 1) := by decide +kernel
theorem dX1_attach_94 : decode cX1_attach 94 = .ok (.invokevirtual 62, 3) := by decide +kernel
theorem dX1_attach_97 : decode cX1_attach 97 = .ok (.istore 4, 2) := by decide +kernel
theorem dX1_attach_99 : decode cX1_attach 99 = .ok (.iload 4, 2) := by decide +kernel
theorem dX1_attach_101 : decode cX1_attach 101 = .ok (.iconst (-1), 1) := by decide +kernel
theorem dX1_attach_102 : decode cX1_attach 102 = .ok (.if_icmp .ne 15, 3) := by decide +kernel
theorem dX1_attach_105 : decode cX1_attach 105 = .ok (.aload_n 0, 1) := by decide +kernel
theorem dX1_attach_106 : decode cX1_attach 106 = .ok (.iload_n 3, 1) := by decide +kernel
theorem dX1_attach_107 : decode cX1_attach 107 = .ok (.iload_n 2, 1) := by decide +kernel
theorem dX1_attach_108 : decode cX1_attach 108 = .ok (.aload_n 0, 1) := by decide +kernel
theorem dX1_attach_109 : decode cX1_attach 109 = .ok (.iload_n 2, 1) := by decide +kernel
theorem dX1_attach_110 : decode cX1_attach 110 = .ok (.invokevirtual 65, 3) := by decide +kernel
theorem dX1_attach_113 : decode cX1_attach 113 = .ok (.invokevirtual 68, 3) := by decide +kernel
theorem dX1_attach_116 : decode cX1_attach 116 = .ok (.return_, 1) := by decide +kernel
theorem dX1_attach_117 : decode cX1_attach 117 = .ok (.iinc 5 1, 3) := by decide +kernel
theorem dX1_attach_120 : decode cX1_attach 120 = .ok (.goto (-111), 3) := by decide +kernel
theorem dX1_attach_123 : decode cX1_attach 123 = .ok (.return_, 1) := by decide +kernel
theorem dX1_takePlace_0 : decode cX1_takePlace 0 = .ok (.aload_n 0, 1) := by decide +kernel
theorem dX1_takePlace_1 : decode cX1_takePlace 1 = .ok (.getfield 12, 3) := by decide +kernel
theorem dX1_takePlace_4 : decode cX1_takePlace 4 = .ok (.iload_n 2, 1) := by decide +kernel
theorem dX1_takePlace_5 : decode cX1_takePlace 5 = .ok (.iload_n 3, 1) := by decide +kernel
theorem dX1_takePlace_6 : decode cX1_takePlace 6 = .ok (.invokevirtual 18, 3) := by decide +kernel
theorem dX1_takePlace_9 : decode cX1_takePlace 9 = .ok (.istore 4, 2) := by decide +kernel
theorem dX1_takePlace_11 : decode cX1_takePlace 11 = .ok (.aload_n 0, 1) := by decide +kernel
theorem dX1_takePlace_12 : decode cX1_takePlace 12 = .ok (.getfield 12, 3) := by decide +kernel
theorem dX1_takePlace_15 : decode cX1_takePlace 15 = .ok (.iload_n 2, 1) := by decide +kernel
theorem dX1_takePlace_16 : decode cX1_takePlace 16 = .ok (.iload_n 3, 1) := by decide +kernel
theorem dX1_takePlace_17 : decode cX1_takePlace 17 = .ok (.iconst (-1), 1) := by decide +kernel
theorem dX1_takePlace_18 : decode cX1_takePlace 18 = .ok (.invokevirtual 52, 3) := by decide +kernel
theorem dX1_takePlace_21 : decode cX1_takePlace 21 = .ok (.aload_n 0, 1) := by decide +kernel
theorem dX1_takePlace_22 : decode cX1_takePlace 22 = .ok (.getfield 12, 3) := by decide +kernel
theorem dX1_takePlace_25 : decode cX1_takePlace 25 = .ok (.iload_n 1, 1) := by decide +kernel
theorem dX1_takePlace_26 : decode cX1_takePlace 26 = .ok (.iload_n 3, 1) := by decide +kernel
theorem dX1_takePlace_27 : decode cX1_takePlace 27 = .ok (.iload 4, 2) := by decide +kernel
theorem dX1_takePlace_29 : decode cX1_takePlace 29 = .ok (.invokevirtual 52, 3) := by decide +kernel
theorem dX1_takePlace_32 : decode cX1_takePlace 32 = .ok (.aload_n 0, 1) := by decide +kernel
theorem dX1_takePlace_33 : decode cX1_takePlace 33 = .ok (.getfield 12, 3) := by decide +kernel
theorem dX1_takePlace_36 : decode cX1_takePlace 36 = .ok (.bipush 6, 2) := by decide +kernel
theorem dX1_takePlace_38 : decode cX1_takePlace 38 = .ok (.iconst 1, 1) := by decide +kernel
theorem dX1_takePlace_39 : decode cX1_takePlace 39 = .ok (.invokevirtual 71, 3) := by decide +kernel
theorem dX1_takePlace_42 : decode cX1_takePlace 42 = .ok (.return_, 1) := by decide +kernel
theorem dX1_attachToSpare_0 : decode cX1_attachToSpare 0 = .ok (.iload_n 3, 1) := by decide +kernel
theorem dX1_attachToSpare_1 : decode cX1_attachToSpare 1 = .ok (.iconst (-1), 1) := by decide +kernel
theorem dX1_attachToSpare_2 : decode cX1_attachToSpare 2 = .ok (.if_icmp .eq 23, 3) := by decide +kernel
theorem dX1_attachToSpare_5 : decode cX1_attachToSpare 5 = .ok (.aload_n 0, 1) := by decide +kernel
theorem dX1_attachToSpare_6 : decode cX1_attachToSpare 6 = .ok (.getfield 12, 3) := by decide +kernel
theorem dX1_attachToSpare_9 : decode cX1_attachToSpare 9 = .ok (.iload_n 1, 1) := by decide +kernel
theorem dX1_attachToSpare_10 : decode cX1_attachToSpare 10 = .ok (.iload_n 2, 1) := by decide +kernel
theorem dX1_attachToSpare_11 : decode cX1_attachToSpare 11 = .ok (.iload_n 3, 1) := by decide +kernel
theorem dX1_attachToSpare_12 : decode cX1_attachToSpare 12 = .ok (.invokevirtual 52, 3) := by decide +kernel
theorem dX1_attachToSpare_15 : decode cX1_attachToSpare 15 = .ok (.aload_n 0, 1) := by decide +kernel
theorem dX1_attachToSpare_16 : decode cX1_attachToSpare 16 = .ok (.getfield 12, 3) := by decide +kernel
theorem dX1_attachToSpare_19 : decode cX1_attachToSpare 19 = .ok (.bipush 7, 2) := by decide +kernel
theorem dX1_attachToSpare_21 : decode cX1_attachToSpare 21 = .ok (.iconst 1, 1) := by decide +kernel
theorem dX1_attachToSpare_22 : decode cX1_attachToSpare 22 = .ok (.invokevirtual 71, 3) := by decide +kernel
theorem dX1_attachToSpare_25 : decode cX1_attachToSpare 25 = .ok (.return_, 1) := by decide +kernel
theorem dX1_isOrphan_0 : decode cX1_isOrphan 0 = .ok (.aload_n 0, 1) := by decide +kernel
theorem dX1_isOrphan_1 : decode cX1_isOrphan 1 = .ok (.getfield 12, 3) := by decide +kernel
theorem dX1_isOrphan_4 : decode cX1_isOrphan 4 = .ok (.iload_n 1, 1) := by decide +kernel
theorem dX1_isOrphan_5 : decode cX1_isOrphan 5 = .ok (.iconst 0, 1) := by decide +kernel
theorem dX1_isOrphan_6 : decode cX1_isOrphan 6 = .ok (.invokevirtual 22, 3) := by decide +kernel
theorem dX1_isOrphan_9 : decode cX1_isOrphan 9 = .ok (.iconst 1, 1) := by decide +kernel
theorem dX1_isOrphan_10 : decode cX1_isOrphan 10 = .ok (.if_icmp .ne 20, 3) := by decide +kernel
theorem dX1_isOrphan_13 : decode cX1_isOrphan 13 = .ok (.aload_n 0, 1) := by decide +kernel
theorem dX1_isOrphan_14 : decode cX1_isOrphan 14 = .ok (.getfield 12, 3) := by decide +kernel
theorem dX1_isOrphan_17 : decode cX1_isOrphan 17 = .ok (.iload_n 1, 1) := by decide +kernel
theorem dX1_isOrphan_18 : decode cX1_isOrphan 18 = .ok (.iload_n 2, 1) := by decide +kernel
theorem dX1_isOrphan_19 : decode cX1_isOrphan 19 = .ok (.invokevirtual 18, 3) := by decide +kernel
theorem dX1_isOrphan_22 : decode cX1_isOrphan 22 = .ok (.iconst (-1), 1) := by decide +kernel
theorem dX1_isOrphan_23 : decode cX1_isOrphan 23 = .ok (.if_icmp .ne 7, 3) := by decide +kernel
theorem dX1_isOrphan_26 : decode cX1_isOrphan 26 = .ok (.iconst 1, 1) := by decide +kernel
theorem dX1_isOrphan_27 : decode cX1_isOrphan 27 = .ok (.goto 4, 3) := by decide +kernel
theorem dX1_isOrphan_30 : decode cX1_isOrphan 30 = .ok (.iconst 0, 1) := by decide +kernel
theorem dX1_isOrphan_31 : decode cX1_isOrphan 31 = .ok (.ireturn, 1) := by decide +kernel
theorem dX1_attachOrphans_0 : decode cX1_attachOrphans 0 = .ok (.iconst 0, 1) := by decide +kernel
theorem dX1_attachOrphans_1 : decode cX1_attachOrphans 1 = .ok (.istore_n 1, 1) := by decide +kernel
theorem dX1_attachOrphans_2 : decode cX1_attachOrphans 2 = .ok (.iload_n 1, 1) := by decide +kernel
theorem dX1_attachOrphans_3 : decode cX1_attachOrphans 3 = .ok (.iconst 4, 1) := by decide +kernel
theorem dX1_attachOrphans_4 : decode cX1_attachOrphans 4 = .ok (.if_icmp .ge 38, 3) := by decide +kernel
theorem dX1_attachOrphans_7 : decode cX1_attachOrphans 7 = .ok (.iconst 0, 1) := by decide +kernel
theorem dX1_attachOrphans_8 : decode cX1_attachOrphans 8 = .ok (.istore_n 2, 1) := by decide +kernel
theorem dX1_attachOrphans_9 : decode cX1_attachOrphans 9 = .ok (.iload_n 2, 1) := by decide +kernel
theorem dX1_attachOrphans_10 : decode cX1_attachOrphans 10 = .ok (.bipush 32, 2) := by decide +kernel
theorem dX1_attachOrphans_12 : decode cX1_attachOrphans 12 = .ok (.if_icmp .ge 24, 3) := by decide +kernel
theorem dX1_attachOrphans_15 : decode cX1_attachOrphans 15 = .ok (.aload_n 0, 1) := by decide +kernel
theorem dX1_attachOrphans_16 : decode cX1_attachOrphans 16 = .ok (.iload_n 2, 1) := by decide +kernel
theorem dX1_attachOrphans_17 : decode cX1_attachOrphans 17 = .ok (.iload_n 1, 1) := by decide +kernel
theorem dX1_attachOrphans_18 : decode cX1_attachOrphans 18 = .ok (.invokevirtual 75, 3) := by decide +kernel
theorem dX1_attachOrphans_21 : decode cX1_attachOrphans 21 = .ok (.ifCond .eq 9, 3) := by decide +kernel
theorem dX1_attachOrphans_24 : decode cX1_attachOrphans 24 = .ok (.aload_n 0, 1) := by decide +kernel
theorem dX1_attachOrphans_25 : decode cX1_attachOrphans 25 = .ok (.iload_n 2, 1) := by decide +kernel
theorem dX1_attachOrphans_26 : decode cX1_attachOrphans 26 = .ok (.iload_n 1, 1) := by decide +kernel
theorem dX1_attachOrphans_27 : decode cX1_attachOrphans 27 = .ok (.invokevirtual 78, 3) := by decide +kernel
theorem dX1_attachOrphans_30 : decode cX1_attachOrphans 30 = .ok (.iinc 2 1, 3) := by decide +kernel
theorem dX1_attachOrphans_33 : decode cX1_attachOrphans 33 = .ok (.goto (-24), 3) := by decide +kernel
theorem dX1_attachOrphans_36 : decode cX1_attachOrphans 36 = .ok (.iinc 1 1, 3) := by decide +kernel
theorem dX1_attachOrphans_39 : decode cX1_attachOrphans 39 = .ok (.goto (-37), 3) := by decide +kernel
theorem dX1_attachOrphans_42 : decode cX1_attachOrphans 42 = .ok (.return_, 1) := by decide +kernel
theorem dX1_cutChildren_0 : decode cX1_cutChildren 0 = .ok (.aload_n 0, 1) := by decide +kernel
theorem dX1_cutChildren_1 : decode cX1_cutChildren 1 = .ok (.iload_n 1, 1) := by decide +kernel
theorem dX1_cutChildren_2 : decode cX1_cutChildren 2 = .ok (.iload_n 2, 1) := by decide +kernel
theorem dX1_cutChildren_3 : decode cX1_cutChildren 3 = .ok (.invokevirtual 33, 3) := by decide +kernel
theorem dX1_cutChildren_6 : decode cX1_cutChildren 6 = .ok (.istore 4, 2) := by decide +kernel
theorem dX1_cutChildren_8 : decode cX1_cutChildren 8 = .ok (.iload 4, 2) := by decide +kernel
theorem dX1_cutChildren_10 : decode cX1_cutChildren 10 = .ok (.iload_n 3, 1) := by decide +kernel
theorem dX1_cutChildren_11 : decode cX1_cutChildren 11 = .ok (.if_icmp .le 24, 3) := by decide +kernel
theorem dX1_cutChildren_14 : decode cX1_cutChildren 14 = .ok (.aload_n 0, 1) := by decide +kernel
theorem dX1_cutChildren_15 : decode cX1_cutChildren 15 = .ok (.getfield 12, 3) := by decide +kernel
theorem dX1_cutChildren_18 : decode cX1_cutChildren 18 = .ok (.aload_n 0, 1) := by decide +kernel
theorem dX1_cutChildren_19 : decode cX1_cutChildren 19 = .ok (.iload_n 1, 1) := by decide +kernel
theorem dX1_cutChildren_20 : decode cX1_cutChildren 20 = .ok (.iload_n 2, 1) := by decide +kernel
theorem dX1_cutChildren_21 : decode cX1_cutChildren 21 = .ok (.invokevirtual 56, 3) := by decide +kernel
theorem dX1_cutChildren_24 : decode cX1_cutChildren 24 = .ok (.iload_n 2, 1) := by decide +kernel
theorem dX1_cutChildren_25 : decode cX1_cutChildren 25 = .ok (.iconst (-1), 1) := by decide +kernel
theorem dX1_cutChildren_26 : decode cX1_cutChildren 26 = .ok (.invokevirtual 52, 3) := by decide +kernel
theorem dX1_cutChildren_29 : decode cX1_cutChildren 29 = .ok (.iinc 4 (-1), 3) := by decide +kernel
theorem dX1_cutChildren_32 : decode cX1_cutChildren 32 = .ok (.goto (-24), 3) := by decide +kernel
theorem dX1_cutChildren_35 : decode cX1_cutChildren 35 = .ok (.return_, 1) := by decide +kernel
theorem dX1_takeIn_0 : decode cX1_takeIn 0 = .ok (.aload_n 0, 1) := by decide +kernel
theorem dX1_takeIn_1 : decode cX1_takeIn 1 = .ok (.getfield 12, 3) := by decide +kernel
theorem dX1_takeIn_4 : decode cX1_takeIn 4 = .ok (.iload_n 1, 1) := by decide +kernel
theorem dX1_takeIn_5 : decode cX1_takeIn 5 = .ok (.iconst 0, 1) := by decide +kernel
theorem dX1_takeIn_6 : decode cX1_takeIn 6 = .ok (.iconst 1, 1) := by decide +kernel
theorem dX1_takeIn_7 : decode cX1_takeIn 7 = .ok (.invokevirtual 81, 3) := by decide +kernel
theorem dX1_takeIn_10 : decode cX1_takeIn 10 = .ok (.aload_n 0, 1) := by decide +kernel
theorem dX1_takeIn_11 : decode cX1_takeIn 11 = .ok (.getfield 12, 3) := by decide +kernel
theorem dX1_takeIn_14 : decode cX1_takeIn 14 = .ok (.iload_n 1, 1) := by decide +kernel
theorem dX1_takeIn_15 : decode cX1_takeIn 15 = .ok (.iconst 1, 1) := by decide +kernel
theorem dX1_takeIn_16 : decode cX1_takeIn 16 = .ok (.iload_n 2, 1) := by decide +kernel
theorem dX1_takeIn_17 : decode cX1_takeIn 17 = .ok (.invokevirtual 81, 3) := by decide +kernel
theorem dX1_takeIn_20 : decode cX1_takeIn 20 = .ok (.aload_n 0, 1) := by decide +kernel
theorem dX1_takeIn_21 : decode cX1_takeIn 21 = .ok (.getfield 12, 3) := by decide +kernel
theorem dX1_takeIn_24 : decode cX1_takeIn 24 = .ok (.iload_n 1, 1) := by decide +kernel
theorem dX1_takeIn_25 : decode cX1_takeIn 25 = .ok (.iconst 2, 1) := by decide +kernel
theorem dX1_takeIn_26 : decode cX1_takeIn 26 = .ok (.iload_n 3, 1) := by decide +kernel
theorem dX1_takeIn_27 : decode cX1_takeIn 27 = .ok (.invokevirtual 81, 3) := by decide +kernel
theorem dX1_takeIn_30 : decode cX1_takeIn 30 = .ok (.aload_n 0, 1) := by decide +kernel
theorem dX1_takeIn_31 : decode cX1_takeIn 31 = .ok (.getfield 12, 3) := by decide +kernel
theorem dX1_takeIn_34 : decode cX1_takeIn 34 = .ok (.iload_n 1, 1) := by decide +kernel
theorem dX1_takeIn_35 : decode cX1_takeIn 35 = .ok (.iconst 4, 1) := by decide +kernel
theorem dX1_takeIn_36 : decode cX1_takeIn 36 = .ok (.iconst (-1), 1) := by decide +kernel
theorem dX1_takeIn_37 : decode cX1_takeIn 37 = .ok (.invokevirtual 81, 3) := by decide +kernel
theorem dX1_takeIn_40 : decode cX1_takeIn 40 = .ok (.aload_n 0, 1) := by decide +kernel
theorem dX1_takeIn_41 : decode cX1_takeIn 41 = .ok (.getfield 12, 3) := by decide +kernel
theorem dX1_takeIn_44 : decode cX1_takeIn 44 = .ok (.iload_n 1, 1) := by decide +kernel
theorem dX1_takeIn_45 : decode cX1_takeIn 45 = .ok (.bipush 6, 2) := by decide +kernel
theorem dX1_takeIn_47 : decode cX1_takeIn 47 = .ok (.iconst (-1), 1) := by decide +kernel
theorem dX1_takeIn_48 : decode cX1_takeIn 48 = .ok (.invokevirtual 81, 3) := by decide +kernel
theorem dX1_takeIn_51 : decode cX1_takeIn 51 = .ok (.aload_n 0, 1) := by decide +kernel
theorem dX1_takeIn_52 : decode cX1_takeIn 52 = .ok (.getfield 12, 3) := by decide +kernel
theorem dX1_takeIn_55 : decode cX1_takeIn 55 = .ok (.iconst 0, 1) := by decide +kernel
theorem dX1_takeIn_56 : decode cX1_takeIn 56 = .ok (.iconst 1, 1) := by decide +kernel
theorem dX1_takeIn_57 : decode cX1_takeIn 57 = .ok (.invokevirtual 71, 3) := by decide +kernel
theorem dX1_takeIn_60 : decode cX1_takeIn 60 = .ok (.return_, 1) := by decide +kernel
theorem dX1_takeOut_0 : decode cX1_takeOut 0 = .ok (.iconst 0, 1) := by decide +kernel
theorem dX1_takeOut_1 : decode cX1_takeOut 1 = .ok (.istore_n 2, 1) := by decide +kernel
theorem dX1_takeOut_2 : decode cX1_takeOut 2 = .ok (.iload_n 2, 1) := by decide +kernel
theorem dX1_takeOut_3 : decode cX1_takeOut 3 = .ok (.iconst 4, 1) := by decide +kernel
theorem dX1_takeOut_4 : decode cX1_takeOut 4 = .ok (.if_icmp .ge 26, 3) := by decide +kernel
theorem dX1_takeOut_7 : decode cX1_takeOut 7 = .ok (.aload_n 0, 1) := by decide +kernel
theorem dX1_takeOut_8 : decode cX1_takeOut 8 = .ok (.iload_n 1, 1) := by decide +kernel
theorem dX1_takeOut_9 : decode cX1_takeOut 9 = .ok (.iload_n 2, 1) := by decide +kernel
theorem dX1_takeOut_10 : decode cX1_takeOut 10 = .ok (.iconst 0, 1) := by decide +kernel
theorem dX1_takeOut_11 : decode cX1_takeOut 11 = .ok (.invokevirtual 84, 3) := by decide +kernel
theorem dX1_takeOut_14 : decode cX1_takeOut 14 = .ok (.aload_n 0, 1) := by decide +kernel
theorem dX1_takeOut_15 : decode cX1_takeOut 15 = .ok (.getfield 12, 3) := by decide +kernel
theorem dX1_takeOut_18 : decode cX1_takeOut 18 = .ok (.iload_n 1, 1) := by decide +kernel
theorem dX1_takeOut_19 : decode cX1_takeOut 19 = .ok (.iload_n 2, 1) := by decide +kernel
theorem dX1_takeOut_20 : decode cX1_takeOut 20 = .ok (.iconst (-1), 1) := by decide +kernel
theorem dX1_takeOut_21 : decode cX1_takeOut 21 = .ok (.invokevirtual 52, 3) := by decide +kernel
theorem dX1_takeOut_24 : decode cX1_takeOut 24 = .ok (.iinc 2 1, 3) := by decide +kernel
theorem dX1_takeOut_27 : decode cX1_takeOut 27 = .ok (.goto (-25), 3) := by decide +kernel
theorem dX1_takeOut_30 : decode cX1_takeOut 30 = .ok (.iconst 0, 1) := by decide +kernel
theorem dX1_takeOut_31 : decode cX1_takeOut 31 = .ok (.istore_n 2, 1) := by decide +kernel
theorem dX1_takeOut_32 : decode cX1_takeOut 32 = .ok (.iload_n 2, 1) := by decide +kernel
theorem dX1_takeOut_33 : decode cX1_takeOut 33 = .ok (.bipush 10, 2) := by decide +kernel
theorem dX1_takeOut_35 : decode cX1_takeOut 35 = .ok (.if_icmp .ge 19, 3) := by decide +kernel
theorem dX1_takeOut_38 : decode cX1_takeOut 38 = .ok (.aload_n 0, 1) := by decide +kernel
theorem dX1_takeOut_39 : decode cX1_takeOut 39 = .ok (.getfield 12, 3) := by decide +kernel
theorem dX1_takeOut_42 : decode cX1_takeOut 42 = .ok (.iload_n 1, 1) := by decide +kernel
theorem dX1_takeOut_43 : decode cX1_takeOut 43 = .ok (.iload_n 2, 1) := by decide +kernel
theorem dX1_takeOut_44 : decode cX1_takeOut 44 = .ok (.iconst 0, 1) := by decide +kernel
theorem dX1_takeOut_45 : decode cX1_takeOut 45 = .ok (.invokevirtual 81, 3) := by decide +kernel
theorem dX1_takeOut_48 : decode cX1_takeOut 48 = .ok (.iinc 2 1, 3) := by decide +kernel
theorem dX1_takeOut_51 : decode cX1_takeOut 51 = .ok (.goto (-19), 3) := by decide +kernel
theorem dX1_takeOut_54 : decode cX1_takeOut 54 = .ok (.aload_n 0, 1) := by decide +kernel
theorem dX1_takeOut_55 : decode cX1_takeOut 55 = .ok (.getfield 12, 3) := by decide +kernel
theorem dX1_takeOut_58 : decode cX1_takeOut 58 = .ok (.iconst 0, 1) := by decide +kernel
theorem dX1_takeOut_59 : decode cX1_takeOut 59 = .ok (.iconst (-1), 1) := by decide +kernel
theorem dX1_takeOut_60 : decode cX1_takeOut 60 = .ok (.invokevirtual 71, 3) := by decide +kernel
theorem dX1_takeOut_63 : decode cX1_takeOut 63 = .ok (.return_, 1) := by decide +kernel
theorem dX1_connected_0 : decode cX1_connected 0 = .ok (.iconst 0, 1) := by decide +kernel
theorem dX1_connected_1 : decode cX1_connected 1 = .ok (.istore_n 2, 1) := by decide +kernel
theorem dX1_connected_2 : decode cX1_connected 2 = .ok (.iconst 0, 1) := by decide +kernel
theorem dX1_connected_3 : decode cX1_connected 3 = .ok (.istore_n 3, 1) := by decide +kernel
theorem dX1_connected_4 : decode cX1_connected 4 = .ok (.iload_n 3, 1) := by decide +kernel
theorem dX1_connected_5 : decode cX1_connected 5 = .ok (.bipush 32, 2) := by decide +kernel
theorem dX1_connected_7 : decode cX1_connected 7 = .ok (.if_icmp .ge 22, 3) := by decide +kernel
theorem dX1_connected_10 : decode cX1_connected 10 = .ok (.aload_n 0, 1) := by decide +kernel
theorem dX1_connected_11 : decode cX1_connected 11 = .ok (.iload_n 3, 1) := by decide +kernel
theorem dX1_connected_12 : decode cX1_connected 12 = .ok (.iload_n 1, 1) := by decide +kernel
theorem dX1_connected_13 : decode cX1_connected 13 = .ok (.invokevirtual 43, 3) := by decide +kernel
theorem dX1_connected_16 : decode cX1_connected 16 = .ok (.iconst (-1), 1) := by decide +kernel
theorem dX1_connected_17 : decode cX1_connected 17 = .ok (.if_icmp .eq 6, 3) := by decide +kernel
theorem dX1_connected_20 : decode cX1_connected 20 = .ok (.iinc 2 1, 3) := by decide +kernel
theorem dX1_connected_23 : decode cX1_connected 23 = .ok (.iinc 3 1, 3) := by decide +kernel
theorem dX1_connected_26 : decode cX1_connected 26 = .ok (.goto (-22), 3) := by decide +kernel
theorem dX1_connected_29 : decode cX1_connected 29 = .ok (.iload_n 2, 1) := by decide +kernel
theorem dX1_connected_30 : decode cX1_connected 30 = .ok (.ireturn, 1) := by decide +kernel
theorem dX1_orphans_0 : decode cX1_orphans 0 = .ok (.iconst 0, 1) := by decide +kernel
theorem dX1_orphans_1 : decode cX1_orphans 1 = .ok (.istore_n 2, 1) := by decide +kernel
theorem dX1_orphans_2 : decode cX1_orphans 2 = .ok (.iconst 0, 1) := by decide +kernel
theorem dX1_orphans_3 : decode cX1_orphans 3 = .ok (.istore_n 3, 1) := by decide +kernel
theorem dX1_orphans_4 : decode cX1_orphans 4 = .ok (.iload_n 3, 1) := by decide +kernel
theorem dX1_orphans_5 : decode cX1_orphans 5 = .ok (.bipush 32, 2) := by decide +kernel
theorem dX1_orphans_7 : decode cX1_orphans 7 = .ok (.if_icmp .ge 21, 3) := by decide +kernel
theorem dX1_orphans_10 : decode cX1_orphans 10 = .ok (.aload_n 0, 1) := by decide +kernel
theorem dX1_orphans_11 : decode cX1_orphans 11 = .ok (.iload_n 3, 1) := by decide +kernel
theorem dX1_orphans_12 : decode cX1_orphans 12 = .ok (.iload_n 1, 1) := by decide +kernel
theorem dX1_orphans_13 : decode cX1_orphans 13 = .ok (.invokevirtual 75, 3) := by decide +kernel
theorem dX1_orphans_16 : decode cX1_orphans 16 = .ok (.ifCond .eq 6, 3) := by decide +kernel
theorem dX1_orphans_19 : decode cX1_orphans 19 = .ok (.iinc 2 1, 3) := by decide +kernel
theorem dX1_orphans_22 : decode cX1_orphans 22 = .ok (.iinc 3 1, 3) := by decide +kernel
theorem dX1_orphans_25 : decode cX1_orphans 25 = .ok (.goto (-21), 3) := by decide +kernel
theorem dX1_orphans_28 : decode cX1_orphans 28 = .ok (.iload_n 2, 1) := by decide +kernel
theorem dX1_orphans_29 : decode cX1_orphans 29 = .ok (.ireturn, 1) := by decide +kernel
theorem dX1_greatestDepth_0 : decode cX1_greatestDepth 0 = .ok (.iconst 0, 1) := by decide +kernel
theorem dX1_greatestDepth_1 : decode cX1_greatestDepth 1 = .ok (.istore_n 2, 1) := by decide +kernel
theorem dX1_greatestDepth_2 : decode cX1_greatestDepth 2 = .ok (.iconst 0, 1) := by decide +kernel
theorem dX1_greatestDepth_3 : decode cX1_greatestDepth 3 = .ok (.istore_n 3, 1) := by decide +kernel
theorem dX1_greatestDepth_4 : decode cX1_greatestDepth 4 = .ok (.iload_n 3, 1) := by decide +kernel
theorem dX1_greatestDepth_5 : decode cX1_greatestDepth 5 = .ok (.bipush 32, 2) := by decide +kernel
theorem dX1_greatestDepth_7 : decode cX1_greatestDepth 7 = .ok (.if_icmp .ge 20, 3) := by decide +kernel
theorem dX1_greatestDepth_10 : decode cX1_greatestDepth 10 = .ok (.iload_n 2, 1) := by decide +kernel
theorem dX1_greatestDepth_11 : decode cX1_greatestDepth 11 = .ok (.aload_n 0, 1) := by decide +kernel
theorem dX1_greatestDepth_12 : decode cX1_greatestDepth 12 = .ok (.iload_n 3, 1) := by decide +kernel
theorem dX1_greatestDepth_13 : decode cX1_greatestDepth 13 = .ok (.iload_n 1, 1) := by decide +kernel
theorem dX1_greatestDepth_14 : decode cX1_greatestDepth 14 = .ok (.invokevirtual 43, 3) := by decide +kernel
theorem dX1_greatestDepth_17 : decode cX1_greatestDepth 17 = .ok (.invokestatic 87, 3) := by decide +kernel
theorem dX1_greatestDepth_20 : decode cX1_greatestDepth 20 = .ok (.istore_n 2, 1) := by decide +kernel
theorem dX1_greatestDepth_21 : decode cX1_greatestDepth 21 = .ok (.iinc 3 1, 3) := by decide +kernel
theorem dX1_greatestDepth_24 : decode cX1_greatestDepth 24 = .ok (.goto (-20), 3) := by decide +kernel
theorem dX1_greatestDepth_27 : decode cX1_greatestDepth 27 = .ok (.iload_n 2, 1) := by decide +kernel
theorem dX1_greatestDepth_28 : decode cX1_greatestDepth 28 = .ok (.ireturn, 1) := by decide +kernel
theorem dX1_withRoom_0 : decode cX1_withRoom 0 = .ok (.iconst 0, 1) := by decide +kernel
theorem dX1_withRoom_1 : decode cX1_withRoom 1 = .ok (.istore_n 2, 1) := by decide +kernel
theorem dX1_withRoom_2 : decode cX1_withRoom 2 = .ok (.iconst 0, 1) := by decide +kernel
theorem dX1_withRoom_3 : decode cX1_withRoom 3 = .ok (.istore_n 3, 1) := by decide +kernel
theorem dX1_withRoom_4 : decode cX1_withRoom 4 = .ok (.iload_n 3, 1) := by decide +kernel
theorem dX1_withRoom_5 : decode cX1_withRoom 5 = .ok (.bipush 32, 2) := by decide +kernel
theorem dX1_withRoom_7 : decode cX1_withRoom 7 = .ok (.if_icmp .ge 21, 3) := by decide +kernel
theorem dX1_withRoom_10 : decode cX1_withRoom 10 = .ok (.aload_n 0, 1) := by decide +kernel
theorem dX1_withRoom_11 : decode cX1_withRoom 11 = .ok (.iload_n 3, 1) := by decide +kernel
theorem dX1_withRoom_12 : decode cX1_withRoom 12 = .ok (.iload_n 1, 1) := by decide +kernel
theorem dX1_withRoom_13 : decode cX1_withRoom 13 = .ok (.invokevirtual 49, 3) := by decide +kernel
theorem dX1_withRoom_16 : decode cX1_withRoom 16 = .ok (.ifCond .eq 6, 3) := by decide +kernel
theorem dX1_withRoom_19 : decode cX1_withRoom 19 = .ok (.iinc 2 1, 3) := by decide +kernel
theorem dX1_withRoom_22 : decode cX1_withRoom 22 = .ok (.iinc 3 1, 3) := by decide +kernel
theorem dX1_withRoom_25 : decode cX1_withRoom 25 = .ok (.goto (-21), 3) := by decide +kernel
theorem dX1_withRoom_28 : decode cX1_withRoom 28 = .ok (.iload_n 2, 1) := by decide +kernel
theorem dX1_withRoom_29 : decode cX1_withRoom 29 = .ok (.ireturn, 1) := by decide +kernel
theorem dX1_withChildren_0 : decode cX1_withChildren 0 = .ok (.iconst 0, 1) := by decide +kernel
theorem dX1_withChildren_1 : decode cX1_withChildren 1 = .ok (.istore_n 2, 1) := by decide +kernel
theorem dX1_withChildren_2 : decode cX1_withChildren 2 = .ok (.iconst 0, 1) := by decide +kernel
theorem dX1_withChildren_3 : decode cX1_withChildren 3 = .ok (.istore_n 3, 1) := by decide +kernel
theorem dX1_withChildren_4 : decode cX1_withChildren 4 = .ok (.iload_n 3, 1) := by decide +kernel
theorem dX1_withChildren_5 : decode cX1_withChildren 5 = .ok (.bipush 32, 2) := by decide +kernel
theorem dX1_withChildren_7 : decode cX1_withChildren 7 = .ok (.if_icmp .ge 38, 3) := by decide +kernel
theorem dX1_withChildren_10 : decode cX1_withChildren 10 = .ok (.aload_n 0, 1) := by decide +kernel
theorem dX1_withChildren_11 : decode cX1_withChildren 11 = .ok (.getfield 12, 3) := by decide +kernel
theorem dX1_withChildren_14 : decode cX1_withChildren 14 = .ok (.iload_n 3, 1) := by decide +kernel
theorem dX1_withChildren_15 : decode cX1_withChildren 15 = .ok (.iconst 5, 1) := by decide +kernel
theorem dX1_withChildren_16 : decode cX1_withChildren 16 = .ok (.invokevirtual 22, 3) := by decide +kernel
theorem dX1_withChildren_19 : decode cX1_withChildren 19 = .ok (.ifCond .le 20, 3) := by decide +kernel
theorem dX1_withChildren_22 : decode cX1_withChildren 22 = .ok (.aload_n 0, 1) := by decide +kernel
theorem dX1_withChildren_23 : decode cX1_withChildren 23 = .ok (.getfield 12, 3) := by decide +kernel
theorem dX1_withChildren_26 : decode cX1_withChildren 26 = .ok (.iload_n 3, 1) := by decide +kernel
theorem dX1_withChildren_27 : decode cX1_withChildren 27 = .ok (.bipush 6, 2) := by decide +kernel
theorem dX1_withChildren_29 : decode cX1_withChildren 29 = .ok (.invokevirtual 22, 3) := by decide +kernel
theorem dX1_withChildren_32 : decode cX1_withChildren 32 = .ok (.iload_n 1, 1) := by decide +kernel
theorem dX1_withChildren_33 : decode cX1_withChildren 33 = .ok (.if_icmp .ne 6, 3) := by decide +kernel
theorem dX1_withChildren_36 : decode cX1_withChildren 36 = .ok (.iinc 2 1, 3) := by decide +kernel
theorem dX1_withChildren_39 : decode cX1_withChildren 39 = .ok (.iinc 3 1, 3) := by decide +kernel
theorem dX1_withChildren_42 : decode cX1_withChildren 42 = .ok (.goto (-38), 3) := by decide +kernel
theorem dX1_withChildren_45 : decode cX1_withChildren 45 = .ok (.iload_n 2, 1) := by decide +kernel
theorem dX1_withChildren_46 : decode cX1_withChildren 46 = .ok (.ireturn, 1) := by decide +kernel
theorem dX2_init_0 : decode cX2_init 0 = .ok (.aload_n 0, 1) := by decide +kernel
theorem dX2_init_1 : decode cX2_init 1 = .ok (.invokespecial 3, 3) := by decide +kernel
theorem dX2_init_4 : decode cX2_init 4 = .ok (.aload_n 0, 1) := by decide +kernel
theorem dX2_init_5 : decode cX2_init 5 = .ok (.sipush 1836, 3) := by decide +kernel
theorem dX2_init_8 : decode cX2_init 8 = .ok (.newarray .int, 2) := by decide +kernel
theorem dX2_init_10 : decode cX2_init 10 = .ok (.putfield 11, 3) := by decide +kernel
theorem dX2_init_13 : decode cX2_init 13 = .ok (.aload_n 0, 1) := by decide +kernel
theorem dX2_init_14 : decode cX2_init 14 = .ok (.iconst 0, 1) := by decide +kernel
theorem dX2_init_15 : decode cX2_init 15 = .ok (.putfield 17, 3) := by decide +kernel
theorem dX2_init_18 : decode cX2_init 18 = .ok (.aload_n 0, 1) := by decide +kernel
theorem dX2_init_19 : decode cX2_init 19 = .ok (.iconst 0, 1) := by decide +kernel
theorem dX2_init_20 : decode cX2_init 20 = .ok (.putfield 21, 3) := by decide +kernel
theorem dX2_init_23 : decode cX2_init 23 = .ok (.return_, 1) := by decide +kernel
theorem dX2_size_0 : decode cX2_size 0 = .ok (.aload_n 0, 1) := by decide +kernel
theorem dX2_size_1 : decode cX2_size 1 = .ok (.getfield 17, 3) := by decide +kernel
theorem dX2_size_4 : decode cX2_size 4 = .ok (.ireturn, 1) := by decide +kernel
theorem dX2_push_0 : decode cX2_push 0 = .ok (.aload_n 1, 1) := by decide +kernel
theorem dX2_push_1 : decode cX2_push 1 = .ok (.aload_n 0, 1) := by decide +kernel
theorem dX2_push_2 : decode cX2_push 2 = .ok (.getfield 11, 3) := by decide +kernel
theorem dX2_push_5 : decode cX2_push 5 = .ok (.aload_n 0, 1) := by decide +kernel
theorem dX2_push_6 : decode cX2_push 6 = .ok (.getfield 21, 3) := by decide +kernel
theorem dX2_push_9 : decode cX2_push 9 = .ok (.sipush 459, 3) := by decide +kernel
theorem dX2_push_12 : decode cX2_push 12 = .ok (.imul, 1) := by decide +kernel
theorem dX2_push_13 : decode cX2_push 13 = .ok (.invokevirtual 24, 3) := by decide +kernel
theorem dX2_push_16 : decode cX2_push 16 = .ok (.aload_n 0, 1) := by decide +kernel
theorem dX2_push_17 : decode cX2_push 17 = .ok (.aload_n 0, 1) := by decide +kernel
theorem dX2_push_18 : decode cX2_push 18 = .ok (.getfield 21, 3) := by decide +kernel
theorem dX2_push_21 : decode cX2_push 21 = .ok (.iconst 1, 1) := by decide +kernel
theorem dX2_push_22 : decode cX2_push 22 = .ok (.iadd, 1) := by decide +kernel
theorem dX2_push_23 : decode cX2_push 23 = .ok (.iconst 4, 1) := by decide +kernel
theorem dX2_push_24 : decode cX2_push 24 = .ok (.invokestatic 28, 3) := by decide +kernel
theorem dX2_push_27 : decode cX2_push 27 = .ok (.putfield 21, 3) := by decide +kernel
theorem dX2_push_30 : decode cX2_push 30 = .ok (.aload_n 0, 1) := by decide +kernel
theorem dX2_push_31 : decode cX2_push 31 = .ok (.aload_n 0, 1) := by decide +kernel
theorem dX2_push_32 : decode cX2_push 32 = .ok (.getfield 17, 3) := by decide +kernel
theorem dX2_push_35 : decode cX2_push 35 = .ok (.iconst 1, 1) := by decide +kernel
theorem dX2_push_36 : decode cX2_push 36 = .ok (.iadd, 1) := by decide +kernel
theorem dX2_push_37 : decode cX2_push 37 = .ok (.iconst 4, 1) := by decide +kernel
theorem dX2_push_38 : decode cX2_push 38 = .ok (.invokestatic 34, 3) := by decide +kernel
theorem dX2_push_41 : decode cX2_push 41 = .ok (.putfield 17, 3) := by decide +kernel
theorem dX2_push_44 : decode cX2_push 44 = .ok (.return_, 1) := by decide +kernel
theorem dX2_popInto_0 : decode cX2_popInto 0 = .ok (.aload_n 0, 1) := by decide +kernel
theorem dX2_popInto_1 : decode cX2_popInto 1 = .ok (.getfield 17, 3) := by decide +kernel
theorem dX2_popInto_4 : decode cX2_popInto 4 = .ok (.ifCond .ne 4, 3) := by decide +kernel
theorem dX2_popInto_7 : decode cX2_popInto 7 = .ok (.return_, 1) := by decide +kernel
theorem dX2_popInto_8 : decode cX2_popInto 8 = .ok (.aload_n 0, 1) := by decide +kernel
theorem dX2_popInto_9 : decode cX2_popInto 9 = .ok (.aload_n 0, 1) := by decide +kernel
theorem dX2_popInto_10 : decode cX2_popInto 10 = .ok (.getfield 21, 3) := by decide +kernel
theorem dX2_popInto_13 : decode cX2_popInto 13 = .ok (.iconst 1, 1) := by decide +kernel
theorem dX2_popInto_14 : decode cX2_popInto 14 = .ok (.isub, 1) := by decide +kernel
theorem dX2_popInto_15 : decode cX2_popInto 15 = .ok (.iconst 4, 1) := by decide +kernel
theorem dX2_popInto_16 : decode cX2_popInto 16 = .ok (.invokestatic 28, 3) := by decide +kernel
theorem dX2_popInto_19 : decode cX2_popInto 19 = .ok (.putfield 21, 3) := by decide +kernel
theorem dX2_popInto_22 : decode cX2_popInto 22 = .ok (.aload_n 0, 1) := by decide +kernel
theorem dX2_popInto_23 : decode cX2_popInto 23 = .ok (.dup, 1) := by decide +kernel
theorem dX2_popInto_24 : decode cX2_popInto 24 = .ok (.getfield 17, 3) := by decide +kernel
theorem dX2_popInto_27 : decode cX2_popInto 27 = .ok (.iconst 1, 1) := by decide +kernel
theorem dX2_popInto_28 : decode cX2_popInto 28 = .ok (.isub, 1) := by decide +kernel
theorem dX2_popInto_29 : decode cX2_popInto 29 = .ok (.putfield 17, 3) := by decide +kernel
theorem dX2_popInto_32 : decode cX2_popInto 32 = .ok (.aload_n 1, 1) := by decide +kernel
theorem dX2_popInto_33 : decode cX2_popInto 33 = .ok (.aload_n 0, 1) := by decide +kernel
theorem dX2_popInto_34 : decode cX2_popInto 34 = .ok (.getfield 11, 3) := by decide +kernel
theorem dX2_popInto_37 : decode cX2_popInto 37 = .ok (.aload_n 0, 1) := by decide +kernel
theorem dX2_popInto_38 : decode cX2_popInto 38 = .ok (.getfield 21, 3) := by decide +kernel
theorem dX2_popInto_41 : decode cX2_popInto 41 = .ok (.sipush 459, 3) := by decide +kernel
theorem dX2_popInto_44 : decode cX2_popInto 44 = .ok (.imul, 1) := by decide +kernel
theorem dX2_popInto_45 : decode cX2_popInto 45 = .ok (.invokevirtual 37, 3) := by decide +kernel
theorem dX2_popInto_48 : decode cX2_popInto 48 = .ok (.return_, 1) := by decide +kernel
theorem dX3_init_0 : decode cX3_init 0 = .ok (.aload_n 0, 1) := by decide +kernel
theorem dX3_init_1 : decode cX3_init 1 = .ok (.invokespecial 1, 3) := by decide +kernel
theorem dX3_init_4 : decode cX3_init 4 = .ok (.aload_n 0, 1) := by decide +kernel
theorem dX3_init_5 : decode cX3_init 5 = .ok (.new 7, 3) := by decide +kernel
theorem dX3_init_8 : decode cX3_init 8 = .ok (.dup, 1) := by decide +kernel
theorem dX3_init_9 : decode cX3_init 9 = .ok (.invokespecial 9, 3) := by decide +kernel
theorem dX3_init_12 : decode cX3_init 12 = .ok (.putfield 10, 3) := by decide +kernel
theorem dX3_init_15 : decode cX3_init 15 = .ok (.aload_n 0, 1) := by decide +kernel
theorem dX3_init_16 : decode cX3_init 16 = .ok (.aload_n 0, 1) := by decide +kernel
theorem dX3_init_17 : decode cX3_init 17 = .ok (.getfield 10, 3) := by decide +kernel
theorem dX3_init_20 : decode cX3_init 20 = .ok (.getfield 16, 3) := by decide +kernel
theorem dX3_init_23 : decode cX3_init 23 = .ok (.putfield 20, 3) := by decide +kernel
theorem dX3_init_26 : decode cX3_init 26 = .ok (.aload_n 0, 1) := by decide +kernel
theorem dX3_init_27 : decode cX3_init 27 = .ok (.new 21, 3) := by decide +kernel
theorem dX3_init_30 : decode cX3_init 30 = .ok (.dup, 1) := by decide +kernel
theorem dX3_init_31 : decode cX3_init 31 = .ok (.invokespecial 23, 3) := by decide +kernel
theorem dX3_init_34 : decode cX3_init 34 = .ok (.putfield 24, 3) := by decide +kernel
theorem dX3_init_37 : decode cX3_init 37 = .ok (.return_, 1) := by decide +kernel
theorem dX3_join_0 : decode cX3_join 0 = .ok (.iload_n 1, 1) := by decide +kernel
theorem dX3_join_1 : decode cX3_join 1 = .ok (.invokestatic 28, 3) := by decide +kernel
theorem dX3_join_4 : decode cX3_join 4 = .ok (.iload_n 2, 1) := by decide +kernel
theorem dX3_join_5 : decode cX3_join 5 = .ok (.iconst 0, 1) := by decide +kernel
theorem dX3_join_6 : decode cX3_join 6 = .ok (.bipush 8, 2) := by decide +kernel
theorem dX3_join_8 : decode cX3_join 8 = .ok (.invokestatic 32, 3) := by decide +kernel
theorem dX3_join_11 : decode cX3_join 11 = .ok (.iload_n 3, 1) := by decide +kernel
theorem dX3_join_12 : decode cX3_join 12 = .ok (.iconst 0, 1) := by decide +kernel
theorem dX3_join_13 : decode cX3_join 13 = .ok (.iconst 3, 1) := by decide +kernel
theorem dX3_join_14 : decode cX3_join 14 = .ok (.invokestatic 32, 3) := by decide +kernel
theorem dX3_join_17 : decode cX3_join 17 = .ok (.aload_n 0, 1) := by decide +kernel
theorem dX3_join_18 : decode cX3_join 18 = .ok (.iload_n 1, 1) := by decide +kernel
theorem dX3_join_19 : decode cX3_join 19 = .ok (.invokevirtual 36, 3) := by decide +kernel
theorem dX3_join_22 : decode cX3_join 22 = .ok (.ifCond .eq 13, 3) := by decide +kernel
theorem dX3_join_25 : decode cX3_join 25 = .ok (.new 40, 3) := by decide +kernel
theorem dX3_join_28 : decode cX3_join 28 = .ok (.dup, 1) := by decide +kernel
theorem dX3_join_29 : decode cX3_join 29 = .ok (.ldc 42, 2) := by decide +kernel
theorem dX3_join_31 : decode cX3_join 31 = .ok (.invokespecial 44, 3) := by decide +kernel
theorem dX3_join_34 : decode cX3_join 34 = .ok (.athrow, 1) := by decide +kernel
theorem dX3_join_35 : decode cX3_join 35 = .ok (.aload_n 0, 1) := by decide +kernel
theorem dX3_join_36 : decode cX3_join 36 = .ok (.getfield 24, 3) := by decide +kernel
theorem dX3_join_39 : decode cX3_join 39 = .ok (.aload_n 0, 1) := by decide +kernel
theorem dX3_join_40 : decode cX3_join 40 = .ok (.getfield 20, 3) := by decide +kernel
theorem dX3_join_43 : decode cX3_join 43 = .ok (.invokevirtual 47, 3) := by decide +kernel
theorem dX3_join_46 : decode cX3_join 46 = .ok (.aload_n 0, 1) := by decide +kernel
theorem dX3_join_47 : decode cX3_join 47 = .ok (.getfield 10, 3) := by decide +kernel
theorem dX3_join_50 : decode cX3_join 50 = .ok (.iload_n 1, 1) := by decide +kernel
theorem dX3_join_51 : decode cX3_join 51 = .ok (.iload_n 2, 1) := by decide +kernel
theorem dX3_join_52 : decode cX3_join 52 = .ok (.iload_n 3, 1) := by decide +kernel
theorem dX3_join_53 : decode cX3_join 53 = .ok (.invokevirtual 51, 3) := by decide +kernel
theorem dX3_join_56 : decode cX3_join 56 = .ok (.aload_n 0, 1) := by decide +kernel
theorem dX3_join_57 : decode cX3_join 57 = .ok (.getfield 10, 3) := by decide +kernel
theorem dX3_join_60 : decode cX3_join 60 = .ok (.invokevirtual 54, 3) := by decide +kernel
theorem dX3_join_63 : decode cX3_join 63 = .ok (.aload_n 0, 1) := by decide +kernel
theorem dX3_join_64 : decode cX3_join 64 = .ok (.iload_n 1, 1) := by decide +kernel
theorem dX3_join_65 : decode cX3_join 65 = .ok (.invokevirtual 57, 3) := by decide +kernel
theorem dX3_join_68 : decode cX3_join 68 = .ok (.ireturn, 1) := by decide +kernel
theorem dX3_leave_0 : decode cX3_leave 0 = .ok (.iload_n 1, 1) := by decide +kernel
theorem dX3_leave_1 : decode cX3_leave 1 = .ok (.invokestatic 28, 3) := by decide +kernel
theorem dX3_leave_4 : decode cX3_leave 4 = .ok (.aload_n 0, 1) := by decide +kernel
theorem dX3_leave_5 : decode cX3_leave 5 = .ok (.iload_n 1, 1) := by decide +kernel
theorem dX3_leave_6 : decode cX3_leave 6 = .ok (.invokevirtual 61, 3) := by decide +kernel
theorem dX3_leave_9 : decode cX3_leave 9 = .ok (.aload_n 0, 1) := by decide +kernel
theorem dX3_leave_10 : decode cX3_leave 10 = .ok (.getfield 24, 3) := by decide +kernel
theorem dX3_leave_13 : decode cX3_leave 13 = .ok (.aload_n 0, 1) := by decide +kernel
theorem dX3_leave_14 : decode cX3_leave 14 = .ok (.getfield 20, 3) := by decide +kernel
theorem dX3_leave_17 : decode cX3_leave 17 = .ok (.invokevirtual 47, 3) := by decide +kernel
theorem dX3_leave_20 : decode cX3_leave 20 = .ok (.aload_n 0, 1) := by decide +kernel
theorem dX3_leave_21 : decode cX3_leave 21 = .ok (.getfield 20, 3) := by decide +kernel
theorem dX3_leave_24 : decode cX3_leave 24 = .ok (.iload_n 1, 1) := by decide +kernel
theorem dX3_leave_25 : decode cX3_leave 25 = .ok (.iconst 5, 1) := by decide +kernel
theorem dX3_leave_26 : decode cX3_leave 26 = .ok (.invokevirtual 64, 3) := by decide +kernel
theorem dX3_leave_29 : decode cX3_leave 29 = .ok (.istore_n 2, 1) := by decide +kernel
theorem dX3_leave_30 : decode cX3_leave 30 = .ok (.aload_n 0, 1) := by decide +kernel
theorem dX3_leave_31 : decode cX3_leave 31 = .ok (.getfield 10, 3) := by decide +kernel
theorem dX3_leave_34 : decode cX3_leave 34 = .ok (.iload_n 1, 1) := by decide +kernel
theorem dX3_leave_35 : decode cX3_leave 35 = .ok (.invokevirtual 70, 3) := by decide +kernel
theorem dX3_leave_38 : decode cX3_leave 38 = .ok (.aload_n 0, 1) := by decide +kernel
theorem dX3_leave_39 : decode cX3_leave 39 = .ok (.getfield 10, 3) := by decide +kernel
theorem dX3_leave_42 : decode cX3_leave 42 = .ok (.invokevirtual 54, 3) := by decide +kernel
theorem dX3_leave_45 : decode cX3_leave 45 = .ok (.iload_n 2, 1) := by decide +kernel
theorem dX3_leave_46 : decode cX3_leave 46 = .ok (.ireturn, 1) := by decide +kernel
theorem dX3_fail_0 : decode cX3_fail 0 = .ok (.iload_n 1, 1) := by decide +kernel
theorem dX3_fail_1 : decode cX3_fail 1 = .ok (.invokestatic 28, 3) := by decide +kernel
theorem dX3_fail_4 : decode cX3_fail 4 = .ok (.aload_n 0, 1) := by decide +kernel
theorem dX3_fail_5 : decode cX3_fail 5 = .ok (.iload_n 1, 1) := by decide +kernel
theorem dX3_fail_6 : decode cX3_fail 6 = .ok (.invokevirtual 61, 3) := by decide +kernel
theorem dX3_fail_9 : decode cX3_fail 9 = .ok (.aload_n 0, 1) := by decide +kernel
theorem dX3_fail_10 : decode cX3_fail 10 = .ok (.iload_n 1, 1) := by decide +kernel
theorem dX3_fail_11 : decode cX3_fail 11 = .ok (.invokevirtual 73, 3) := by decide +kernel
theorem dX3_fail_14 : decode cX3_fail 14 = .ok (.ifCond .eq 13, 3) := by decide +kernel
theorem dX3_fail_17 : decode cX3_fail 17 = .ok (.new 40, 3) := by decide +kernel
theorem dX3_fail_20 : decode cX3_fail 20 = .ok (.dup, 1) := by decide +kernel
theorem dX3_fail_21 : decode cX3_fail 21 = .ok (.ldc 76, 2) := by decide +kernel
theorem dX3_fail_23 : decode cX3_fail 23 = .ok (.invokespecial 44, 3) := by decide +kernel
theorem dX3_fail_26 : decode cX3_fail 26 = .ok (.athrow, 1) := by decide +kernel
theorem dX3_fail_27 : decode cX3_fail 27 = .ok (.aload_n 0, 1) := by decide +kernel
theorem dX3_fail_28 : decode cX3_fail 28 = .ok (.getfield 24, 3) := by decide +kernel
theorem dX3_fail_31 : decode cX3_fail 31 = .ok (.aload_n 0, 1) := by decide +kernel
theorem dX3_fail_32 : decode cX3_fail 32 = .ok (.getfield 20, 3) := by decide +kernel
theorem dX3_fail_35 : decode cX3_fail 35 = .ok (.invokevirtual 47, 3) := by decide +kernel
theorem dX3_fail_38 : decode cX3_fail 38 = .ok (.aload_n 0, 1) := by decide +kernel
theorem dX3_fail_39 : decode cX3_fail 39 = .ok (.getfield 20, 3) := by decide +kernel
theorem dX3_fail_42 : decode cX3_fail 42 = .ok (.bipush 8, 2) := by decide +kernel
theorem dX3_fail_44 : decode cX3_fail 44 = .ok (.invokevirtual 78, 3) := by decide +kernel
theorem dX3_fail_47 : decode cX3_fail 47 = .ok (.aload_n 0, 1) := by decide +kernel
theorem dX3_fail_48 : decode cX3_fail 48 = .ok (.getfield 20, 3) := by decide +kernel
theorem dX3_fail_51 : decode cX3_fail 51 = .ok (.bipush 10, 2) := by decide +kernel
theorem dX3_fail_53 : decode cX3_fail 53 = .ok (.invokevirtual 78, 3) := by decide +kernel
theorem dX3_fail_56 : decode cX3_fail 56 = .ok (.iadd, 1) := by decide +kernel
theorem dX3_fail_57 : decode cX3_fail 57 = .ok (.istore_n 2, 1) := by decide +kernel
theorem dX3_fail_58 : decode cX3_fail 58 = .ok (.aload_n 0, 1) := by decide +kernel
theorem dX3_fail_59 : decode cX3_fail 59 = .ok (.getfield 20, 3) := by decide +kernel
theorem dX3_fail_62 : decode cX3_fail 62 = .ok (.iload_n 1, 1) := by decide +kernel
theorem dX3_fail_63 : decode cX3_fail 63 = .ok (.iconst 3, 1) := by decide +kernel
theorem dX3_fail_64 : decode cX3_fail 64 = .ok (.iconst 1, 1) := by decide +kernel
theorem dX3_fail_65 : decode cX3_fail 65 = .ok (.invokevirtual 81, 3) := by decide +kernel
theorem dX3_fail_68 : decode cX3_fail 68 = .ok (.aload_n 0, 1) := by decide +kernel
theorem dX3_fail_69 : decode cX3_fail 69 = .ok (.getfield 20, 3) := by decide +kernel
theorem dX3_fail_72 : decode cX3_fail 72 = .ok (.iload_n 1, 1) := by decide +kernel
theorem dX3_fail_73 : decode cX3_fail 73 = .ok (.iconst 4, 1) := by decide +kernel
theorem dX3_fail_74 : decode cX3_fail 74 = .ok (.iload_n 2, 1) := by decide +kernel
theorem dX3_fail_75 : decode cX3_fail 75 = .ok (.invokevirtual 81, 3) := by decide +kernel
theorem dX3_fail_78 : decode cX3_fail 78 = .ok (.iload_n 2, 1) := by decide +kernel
theorem dX3_fail_79 : decode cX3_fail 79 = .ok (.ireturn, 1) := by decide +kernel
theorem dX3_setBound_0 : decode cX3_setBound 0 = .ok (.iload_n 1, 1) := by decide +kernel
theorem dX3_setBound_1 : decode cX3_setBound 1 = .ok (.invokestatic 28, 3) := by decide +kernel
theorem dX3_setBound_4 : decode cX3_setBound 4 = .ok (.iload_n 2, 1) := by decide +kernel
theorem dX3_setBound_5 : decode cX3_setBound 5 = .ok (.iconst 0, 1) := by decide +kernel
theorem dX3_setBound_6 : decode cX3_setBound 6 = .ok (.bipush 8, 2) := by decide +kernel
theorem dX3_setBound_8 : decode cX3_setBound 8 = .ok (.invokestatic 32, 3) := by decide +kernel
theorem dX3_setBound_11 : decode cX3_setBound 11 = .ok (.aload_n 0, 1) := by decide +kernel
theorem dX3_setBound_12 : decode cX3_setBound 12 = .ok (.iload_n 1, 1) := by decide +kernel
theorem dX3_setBound_13 : decode cX3_setBound 13 = .ok (.invokevirtual 61, 3) := by decide +kernel
theorem dX3_setBound_16 : decode cX3_setBound 16 = .ok (.aload_n 0, 1) := by decide +kernel
theorem dX3_setBound_17 : decode cX3_setBound 17 = .ok (.getfield 24, 3) := by decide +kernel
theorem dX3_setBound_20 : decode cX3_setBound 20 = .ok (.aload_n 0, 1) := by decide +kernel
theorem dX3_setBound_21 : decode cX3_setBound 21 = .ok (.getfield 20, 3) := by decide +kernel
theorem dX3_setBound_24 : decode cX3_setBound 24 = .ok (.invokevirtual 47, 3) := by decide +kernel
theorem dX3_setBound_27 : decode cX3_setBound 27 = .ok (.aload_n 0, 1) := by decide +kernel
theorem dX3_setBound_28 : decode cX3_setBound 28 = .ok (.getfield 20, 3) := by decide +kernel
theorem dX3_setBound_31 : decode cX3_setBound 31 = .ok (.iload_n 1, 1) := by decide +kernel
theorem dX3_setBound_32 : decode cX3_setBound 32 = .ok (.iconst 1, 1) := by decide +kernel
theorem dX3_setBound_33 : decode cX3_setBound 33 = .ok (.invokevirtual 64, 3) := by decide +kernel
theorem dX3_setBound_36 : decode cX3_setBound 36 = .ok (.istore_n 3, 1) := by decide +kernel
theorem dX3_setBound_37 : decode cX3_setBound 37 = .ok (.aload_n 0, 1) := by decide +kernel
theorem dX3_setBound_38 : decode cX3_setBound 38 = .ok (.getfield 20, 3) := by decide +kernel
theorem dX3_setBound_41 : decode cX3_setBound 41 = .ok (.iload_n 1, 1) := by decide +kernel
theorem dX3_setBound_42 : decode cX3_setBound 42 = .ok (.iconst 1, 1) := by decide +kernel
theorem dX3_setBound_43 : decode cX3_setBound 43 = .ok (.iload_n 2, 1) := by decide +kernel
theorem dX3_setBound_44 : decode cX3_setBound 44 = .ok (.invokevirtual 81, 3) := by decide +kernel
theorem dX3_setBound_47 : decode cX3_setBound 47 = .ok (.aload_n 0, 1) := by decide +kernel
theorem dX3_setBound_48 : decode cX3_setBound 48 = .ok (.getfield 10, 3) := by decide +kernel
theorem dX3_setBound_51 : decode cX3_setBound 51 = .ok (.iload_n 1, 1) := by decide +kernel
theorem dX3_setBound_52 : decode cX3_setBound 52 = .ok (.aload_n 0, 1) := by decide +kernel
theorem dX3_setBound_53 : decode cX3_setBound 53 = .ok (.getfield 20, 3) := by decide +kernel
theorem dX3_setBound_56 : decode cX3_setBound 56 = .ok (.iload_n 1, 1) := by decide +kernel
theorem dX3_setBound_57 : decode cX3_setBound 57 = .ok (.bipush 6, 2) := by decide +kernel
theorem dX3_setBound_59 : decode cX3_setBound 59 = .ok (.invokevirtual 64, 3) := by decide +kernel
theorem dX3_setBound_62 : decode cX3_setBound 62 = .ok (.iload_n 2, 1) := by decide +kernel
theorem dX3_setBound_63 : decode cX3_setBound 63 = .ok (.invokevirtual 84, 3) := by decide +kernel
theorem dX3_setBound_66 : decode cX3_setBound 66 = .ok (.aload_n 0, 1) := by decide +kernel
theorem dX3_setBound_67 : decode cX3_setBound 67 = .ok (.getfield 10, 3) := by decide +kernel
theorem dX3_setBound_70 : decode cX3_setBound 70 = .ok (.invokevirtual 54, 3) := by decide +kernel
theorem dX3_setBound_73 : decode cX3_setBound 73 = .ok (.iload_n 3, 1) := by decide +kernel
theorem dX3_setBound_74 : decode cX3_setBound 74 = .ok (.ireturn, 1) := by decide +kernel
theorem dX3_setSource_0 : decode cX3_setSource 0 = .ok (.iload_n 1, 1) := by decide +kernel
theorem dX3_setSource_1 : decode cX3_setSource 1 = .ok (.iconst 1, 1) := by decide +kernel
theorem dX3_setSource_2 : decode cX3_setSource 2 = .ok (.bipush 8, 2) := by decide +kernel
theorem dX3_setSource_4 : decode cX3_setSource 4 = .ok (.invokestatic 32, 3) := by decide +kernel
theorem dX3_setSource_7 : decode cX3_setSource 7 = .ok (.aload_n 0, 1) := by decide +kernel
theorem dX3_setSource_8 : decode cX3_setSource 8 = .ok (.getfield 24, 3) := by decide +kernel
theorem dX3_setSource_11 : decode cX3_setSource 11 = .ok (.aload_n 0, 1) := by decide +kernel
theorem dX3_setSource_12 : decode cX3_setSource 12 = .ok (.getfield 20, 3) := by decide +kernel
theorem dX3_setSource_15 : decode cX3_setSource 15 = .ok (.invokevirtual 47, 3) := by decide +kernel
theorem dX3_setSource_18 : decode cX3_setSource 18 = .ok (.aload_n 0, 1) := by decide +kernel
theorem dX3_setSource_19 : decode cX3_setSource 19 = .ok (.getfield 20, 3) := by decide +kernel
theorem dX3_setSource_22 : decode cX3_setSource 22 = .ok (.bipush 9, 2) := by decide +kernel
theorem dX3_setSource_24 : decode cX3_setSource 24 = .ok (.invokevirtual 78, 3) := by decide +kernel
theorem dX3_setSource_27 : decode cX3_setSource 27 = .ok (.istore_n 2, 1) := by decide +kernel
theorem dX3_setSource_28 : decode cX3_setSource 28 = .ok (.aload_n 0, 1) := by decide +kernel
theorem dX3_setSource_29 : decode cX3_setSource 29 = .ok (.getfield 20, 3) := by decide +kernel
theorem dX3_setSource_32 : decode cX3_setSource 32 = .ok (.bipush 9, 2) := by decide +kernel
theorem dX3_setSource_34 : decode cX3_setSource 34 = .ok (.iload_n 1, 1) := by decide +kernel
theorem dX3_setSource_35 : decode cX3_setSource 35 = .ok (.invokevirtual 87, 3) := by decide +kernel
theorem dX3_setSource_38 : decode cX3_setSource 38 = .ok (.iconst 0, 1) := by decide +kernel
theorem dX3_setSource_39 : decode cX3_setSource 39 = .ok (.istore_n 3, 1) := by decide +kernel
theorem dX3_setSource_40 : decode cX3_setSource 40 = .ok (.iload_n 3, 1) := by decide +kernel
theorem dX3_setSource_41 : decode cX3_setSource 41 = .ok (.iconst 4, 1) := by decide +kernel
theorem dX3_setSource_42 : decode cX3_setSource 42 = .ok (.if_icmp .ge 20, 3) := by decide +kernel
theorem dX3_setSource_45 : decode cX3_setSource 45 = .ok (.aload_n 0, 1) := by decide +kernel
theorem dX3_setSource_46 : decode cX3_setSource 46 = .ok (.getfield 10, 3) := by decide +kernel
theorem dX3_setSource_49 : decode cX3_setSource 49 = .ok (.bipush 100, 2) := by decide +kernel
theorem dX3_setSource_51 : decode cX3_setSource 51 = .ok (.iload_n 3, 1) := by decide +kernel
theorem dX3_setSource_52 : decode cX3_setSource 52 = .ok (.iload_n 1, 1) := by decide +kernel
theorem dX3_setSource_53 : decode cX3_setSource 53 = .ok (.invokevirtual 84, 3) := by decide +kernel
theorem dX3_setSource_56 : decode cX3_setSource 56 = .ok (.iinc 3 1, 3) := by decide +kernel
theorem dX3_setSource_59 : decode cX3_setSource 59 = .ok (.goto (-19), 3) := by decide +kernel
theorem dX3_setSource_62 : decode cX3_setSource 62 = .ok (.aload_n 0, 1) := by decide +kernel
theorem dX3_setSource_63 : decode cX3_setSource 63 = .ok (.getfield 10, 3) := by decide +kernel
theorem dX3_setSource_66 : decode cX3_setSource 66 = .ok (.invokevirtual 54, 3) := by decide +kernel
theorem dX3_setSource_69 : decode cX3_setSource 69 = .ok (.iload_n 2, 1) := by decide +kernel
theorem dX3_setSource_70 : decode cX3_setSource 70 = .ok (.ireturn, 1) := by decide +kernel
theorem dX3_setDelay_0 : decode cX3_setDelay 0 = .ok (.iload_n 1, 1) := by decide +kernel
theorem dX3_setDelay_1 : decode cX3_setDelay 1 = .ok (.iconst 1, 1) := by decide +kernel
theorem dX3_setDelay_2 : decode cX3_setDelay 2 = .ok (.bipush 20, 2) := by decide +kernel
theorem dX3_setDelay_4 : decode cX3_setDelay 4 = .ok (.invokestatic 32, 3) := by decide +kernel
theorem dX3_setDelay_7 : decode cX3_setDelay 7 = .ok (.aload_n 0, 1) := by decide +kernel
theorem dX3_setDelay_8 : decode cX3_setDelay 8 = .ok (.getfield 24, 3) := by decide +kernel
theorem dX3_setDelay_11 : decode cX3_setDelay 11 = .ok (.aload_n 0, 1) := by decide +kernel
theorem dX3_setDelay_12 : decode cX3_setDelay 12 = .ok (.getfield 20, 3) := by decide +kernel
theorem dX3_setDelay_15 : decode cX3_setDelay 15 = .ok (.invokevirtual 47, 3) := by decide +kernel
theorem dX3_setDelay_18 : decode cX3_setDelay 18 = .ok (.aload_n 0, 1) := by decide +kernel
theorem dX3_setDelay_19 : decode cX3_setDelay 19 = .ok (.getfield 20, 3) := by decide +kernel
theorem dX3_setDelay_22 : decode cX3_setDelay 22 = .ok (.bipush 10, 2) := by decide +kernel
theorem dX3_setDelay_24 : decode cX3_setDelay 24 = .ok (.invokevirtual 78, 3) := by decide +kernel
theorem dX3_setDelay_27 : decode cX3_setDelay 27 = .ok (.istore_n 2, 1) := by decide +kernel
theorem dX3_setDelay_28 : decode cX3_setDelay 28 = .ok (.aload_n 0, 1) := by decide +kernel
theorem dX3_setDelay_29 : decode cX3_setDelay 29 = .ok (.getfield 20, 3) := by decide +kernel
theorem dX3_setDelay_32 : decode cX3_setDelay 32 = .ok (.bipush 10, 2) := by decide +kernel
theorem dX3_setDelay_34 : decode cX3_setDelay 34 = .ok (.iload_n 1, 1) := by decide +kernel
theorem dX3_setDelay_35 : decode cX3_setDelay 35 = .ok (.invokevirtual 87, 3) := by decide +kernel
theorem dX3_setDelay_38 : decode cX3_setDelay 38 = .ok (.iload_n 2, 1) := by decide +kernel
theorem dX3_setDelay_39 : decode cX3_setDelay 39 = .ok (.ireturn, 1) := by decide +kernel
theorem dX3_repair_0 : decode cX3_repair 0 = .ok (.aload_n 0, 1) := by decide +kernel
theorem dX3_repair_1 : decode cX3_repair 1 = .ok (.getfield 24, 3) := by decide +kernel
theorem dX3_repair_4 : decode cX3_repair 4 = .ok (.aload_n 0, 1) := by decide +kernel
theorem dX3_repair_5 : decode cX3_repair 5 = .ok (.getfield 20, 3) := by decide +kernel
theorem dX3_repair_8 : decode cX3_repair 8 = .ok (.invokevirtual 47, 3) := by decide +kernel
theorem dX3_repair_11 : decode cX3_repair 11 = .ok (.aload_n 0, 1) := by decide +kernel
theorem dX3_repair_12 : decode cX3_repair 12 = .ok (.getfield 10, 3) := by decide +kernel
theorem dX3_repair_15 : decode cX3_repair 15 = .ok (.invokevirtual 54, 3) := by decide +kernel
theorem dX3_repair_18 : decode cX3_repair 18 = .ok (.iconst 0, 1) := by decide +kernel
theorem dX3_repair_19 : decode cX3_repair 19 = .ok (.istore_n 1, 1) := by decide +kernel
theorem dX3_repair_20 : decode cX3_repair 20 = .ok (.iconst 0, 1) := by decide +kernel
theorem dX3_repair_21 : decode cX3_repair 21 = .ok (.istore_n 2, 1) := by decide +kernel
theorem dX3_repair_22 : decode cX3_repair 22 = .ok (.iload_n 2, 1) := by decide +kernel
theorem dX3_repair_23 : decode cX3_repair 23 = .ok (.iconst 4, 1) := by decide +kernel
theorem dX3_repair_24 : decode cX3_repair 24 = .ok (.if_icmp .ge 20, 3) := by decide +kernel
theorem dX3_repair_27 : decode cX3_repair 27 = .ok (.iload_n 1, 1) := by decide +kernel
theorem dX3_repair_28 : decode cX3_repair 28 = .ok (.aload_n 0, 1) := by decide +kernel
theorem dX3_repair_29 : decode cX3_repair 29 = .ok (.getfield 10, 3) := by decide +kernel
theorem dX3_repair_32 : decode cX3_repair 32 = .ok (.iload_n 2, 1) := by decide +kernel
theorem dX3_repair_33 : decode cX3_repair 33 = .ok (.invokevirtual 91, 3) := by decide +kernel
theorem dX3_repair_36 : decode cX3_repair 36 = .ok (.iadd, 1) := by decide +kernel
theorem dX3_repair_37 : decode cX3_repair 37 = .ok (.istore_n 1, 1) := by decide +kernel
theorem dX3_repair_38 : decode cX3_repair 38 = .ok (.iinc 2 1, 3) := by decide +kernel
theorem dX3_repair_41 : decode cX3_repair 41 = .ok (.goto (-19), 3) := by decide +kernel
theorem dX3_repair_44 : decode cX3_repair 44 = .ok (.iload_n 1, 1) := by decide +kernel
theorem dX3_repair_45 : decode cX3_repair 45 = .ok (.ireturn, 1) := by decide +kernel
theorem dX3_rejoin_0 : decode cX3_rejoin 0 = .ok (.iload_n 1, 1) := by decide +kernel
theorem dX3_rejoin_1 : decode cX3_rejoin 1 = .ok (.invokestatic 28, 3) := by decide +kernel
theorem dX3_rejoin_4 : decode cX3_rejoin 4 = .ok (.iload_n 2, 1) := by decide +kernel
theorem dX3_rejoin_5 : decode cX3_rejoin 5 = .ok (.invokestatic 94, 3) := by decide +kernel
theorem dX3_rejoin_8 : decode cX3_rejoin 8 = .ok (.aload_n 0, 1) := by decide +kernel
theorem dX3_rejoin_9 : decode cX3_rejoin 9 = .ok (.iload_n 1, 1) := by decide +kernel
theorem dX3_rejoin_10 : decode cX3_rejoin 10 = .ok (.invokevirtual 61, 3) := by decide +kernel
theorem dX3_rejoin_13 : decode cX3_rejoin 13 = .ok (.aload_n 0, 1) := by decide +kernel
theorem dX3_rejoin_14 : decode cX3_rejoin 14 = .ok (.getfield 24, 3) := by decide +kernel
theorem dX3_rejoin_17 : decode cX3_rejoin 17 = .ok (.aload_n 0, 1) := by decide +kernel
theorem dX3_rejoin_18 : decode cX3_rejoin 18 = .ok (.getfield 20, 3) := by decide +kernel
theorem dX3_rejoin_21 : decode cX3_rejoin 21 = .ok (.invokevirtual 47, 3) := by decide +kernel
theorem dX3_rejoin_24 : decode cX3_rejoin 24 = .ok (.aload_n 0, 1) := by decide +kernel
theorem dX3_rejoin_25 : decode cX3_rejoin 25 = .ok (.getfield 20, 3) := by decide +kernel
theorem dX3_rejoin_28 : decode cX3_rejoin 28 = .ok (.iload_n 1, 1) := by decide +kernel
theorem dX3_rejoin_29 : decode cX3_rejoin 29 = .ok (.iload_n 2, 1) := by decide +kernel
theorem dX3_rejoin_30 : decode cX3_rejoin 30 = .ok (.iconst (-1), 1) := by decide +kernel
theorem dX3_rejoin_31 : decode cX3_rejoin 31 = .ok (.invokevirtual 97, 3) := by decide +kernel
theorem dX3_rejoin_34 : decode cX3_rejoin 34 = .ok (.aload_n 0, 1) := by decide +kernel
theorem dX3_rejoin_35 : decode cX3_rejoin 35 = .ok (.getfield 10, 3) := by decide +kernel
theorem dX3_rejoin_38 : decode cX3_rejoin 38 = .ok (.iload_n 1, 1) := by decide +kernel
theorem dX3_rejoin_39 : decode cX3_rejoin 39 = .ok (.iload_n 2, 1) := by decide +kernel
theorem dX3_rejoin_40 : decode cX3_rejoin 40 = .ok (.invokevirtual 100, 3) := by decide +kernel
theorem dX3_rejoin_43 : decode cX3_rejoin 43 = .ok (.aload_n 0, 1) := by decide +kernel
theorem dX3_rejoin_44 : decode cX3_rejoin 44 = .ok (.getfield 20, 3) := by decide +kernel
theorem dX3_rejoin_47 : decode cX3_rejoin 47 = .ok (.iload_n 1, 1) := by decide +kernel
theorem dX3_rejoin_48 : decode cX3_rejoin 48 = .ok (.iload_n 2, 1) := by decide +kernel
theorem dX3_rejoin_49 : decode cX3_rejoin 49 = .ok (.invokevirtual 103, 3) := by decide +kernel
theorem dX3_rejoin_52 : decode cX3_rejoin 52 = .ok (.ireturn, 1) := by decide +kernel
theorem dX3_tick_0 : decode cX3_tick 0 = .ok (.iload_n 1, 1) := by decide +kernel
theorem dX3_tick_1 : decode cX3_tick 1 = .ok (.iconst 1, 1) := by decide +kernel
theorem dX3_tick_2 : decode cX3_tick 2 = .ok (.sipush 200, 3) := by decide +kernel
theorem dX3_tick_5 : decode cX3_tick 5 = .ok (.invokestatic 32, 3) := by decide +kernel
theorem dX3_tick_8 : decode cX3_tick 8 = .ok (.aload_n 0, 1) := by decide +kernel
theorem dX3_tick_9 : decode cX3_tick 9 = .ok (.getfield 24, 3) := by decide +kernel
theorem dX3_tick_12 : decode cX3_tick 12 = .ok (.aload_n 0, 1) := by decide +kernel
theorem dX3_tick_13 : decode cX3_tick 13 = .ok (.getfield 20, 3) := by decide +kernel
theorem dX3_tick_16 : decode cX3_tick 16 = .ok (.invokevirtual 47, 3) := by decide +kernel
theorem dX3_tick_19 : decode cX3_tick 19 = .ok (.iconst 0, 1) := by decide +kernel
theorem dX3_tick_20 : decode cX3_tick 20 = .ok (.istore_n 2, 1) := by decide +kernel
theorem dX3_tick_21 : decode cX3_tick 21 = .ok (.iconst 1, 1) := by decide +kernel
theorem dX3_tick_22 : decode cX3_tick 22 = .ok (.istore_n 3, 1) := by decide +kernel
theorem dX3_tick_23 : decode cX3_tick 23 = .ok (.iload_n 1, 1) := by decide +kernel
theorem dX3_tick_24 : decode cX3_tick 24 = .ok (.istore 4, 2) := by decide +kernel
theorem dX3_tick_26 : decode cX3_tick 26 = .ok (.iload 4, 2) := by decide +kernel
theorem dX3_tick_28 : decode cX3_tick 28 = .ok (.ifCond .le 62, 3) := by decide +kernel
theorem dX3_tick_31 : decode cX3_tick 31 = .ok (.aload_n 0, 1) := by decide +kernel
theorem dX3_tick_32 : decode cX3_tick 32 = .ok (.getfield 20, 3) := by decide +kernel
theorem dX3_tick_35 : decode cX3_tick 35 = .ok (.bipush 8, 2) := by decide +kernel
theorem dX3_tick_37 : decode cX3_tick 37 = .ok (.iconst 1, 1) := by decide +kernel
theorem dX3_tick_38 : decode cX3_tick 38 = .ok (.invokevirtual 106, 3) := by decide +kernel
theorem dX3_tick_41 : decode cX3_tick 41 = .ok (.aload_n 0, 1) := by decide +kernel
theorem dX3_tick_42 : decode cX3_tick 42 = .ok (.invokevirtual 109, 3) := by decide +kernel
theorem dX3_tick_45 : decode cX3_tick 45 = .ok (.iconst 1, 1) := by decide +kernel
theorem dX3_tick_46 : decode cX3_tick 46 = .ok (.iload 4, 2) := by decide +kernel
theorem dX3_tick_48 : decode cX3_tick 48 = .ok (.iconst 1, 1) := by decide +kernel
theorem dX3_tick_49 : decode cX3_tick 49 = .ok (.aload_n 0, 1) := by decide +kernel
theorem dX3_tick_50 : decode cX3_tick 50 = .ok (.invokevirtual 112, 3) := by decide +kernel
theorem dX3_tick_53 : decode cX3_tick 53 = .ok (.iadd, 1) := by decide +kernel
theorem dX3_tick_54 : decode cX3_tick 54 = .ok (.invokestatic 116, 3) := by decide +kernel
theorem dX3_tick_57 : decode cX3_tick 57 = .ok (.invokestatic 121, 3) := by decide +kernel
theorem dX3_tick_60 : decode cX3_tick 60 = .ok (.istore_n 3, 1) := by decide +kernel
theorem dX3_tick_61 : decode cX3_tick 61 = .ok (.iload_n 2, 1) := by decide +kernel
theorem dX3_tick_62 : decode cX3_tick 62 = .ok (.aload_n 0, 1) := by decide +kernel
theorem dX3_tick_63 : decode cX3_tick 63 = .ok (.iload_n 3, 1) := by decide +kernel
theorem dX3_tick_64 : decode cX3_tick 64 = .ok (.invokevirtual 124, 3) := by decide +kernel
theorem dX3_tick_67 : decode cX3_tick 67 = .ok (.iadd, 1) := by decide +kernel
theorem dX3_tick_68 : decode cX3_tick 68 = .ok (.istore_n 2, 1) := by decide +kernel
theorem dX3_tick_69 : decode cX3_tick 69 = .ok (.aload_n 0, 1) := by decide +kernel
theorem dX3_tick_70 : decode cX3_tick 70 = .ok (.getfield 20, 3) := by decide +kernel
theorem dX3_tick_73 : decode cX3_tick 73 = .ok (.bipush 8, 2) := by decide +kernel
theorem dX3_tick_75 : decode cX3_tick 75 = .ok (.iload_n 3, 1) := by decide +kernel
theorem dX3_tick_76 : decode cX3_tick 76 = .ok (.iconst 1, 1) := by decide +kernel
theorem dX3_tick_77 : decode cX3_tick 77 = .ok (.isub, 1) := by decide +kernel
theorem dX3_tick_78 : decode cX3_tick 78 = .ok (.invokevirtual 106, 3) := by decide +kernel
theorem dX3_tick_81 : decode cX3_tick 81 = .ok (.iload 4, 2) := by decide +kernel
theorem dX3_tick_83 : decode cX3_tick 83 = .ok (.iload_n 3, 1) := by decide +kernel
theorem dX3_tick_84 : decode cX3_tick 84 = .ok (.isub, 1) := by decide +kernel
theorem dX3_tick_85 : decode cX3_tick 85 = .ok (.istore 4, 2) := by decide +kernel
theorem dX3_tick_87 : decode cX3_tick 87 = .ok (.goto (-61), 3) := by decide +kernel
theorem dX3_tick_90 : decode cX3_tick 90 = .ok (.iload_n 2, 1) := by decide +kernel
theorem dX3_tick_91 : decode cX3_tick 91 = .ok (.ireturn, 1) := by decide +kernel
theorem dX3_time_0 : decode cX3_time 0 = .ok (.aload_n 0, 1) := by decide +kernel
theorem dX3_time_1 : decode cX3_time 1 = .ok (.getfield 20, 3) := by decide +kernel
theorem dX3_time_4 : decode cX3_time 4 = .ok (.bipush 8, 2) := by decide +kernel
theorem dX3_time_6 : decode cX3_time 6 = .ok (.invokevirtual 78, 3) := by decide +kernel
theorem dX3_time_9 : decode cX3_time 9 = .ok (.ireturn, 1) := by decide +kernel
theorem dX3_member_0 : decode cX3_member 0 = .ok (.iload_n 1, 1) := by decide +kernel
theorem dX3_member_1 : decode cX3_member 1 = .ok (.invokestatic 28, 3) := by decide +kernel
theorem dX3_member_4 : decode cX3_member 4 = .ok (.iload_n 2, 1) := by decide +kernel
theorem dX3_member_5 : decode cX3_member 5 = .ok (.iconst 0, 1) := by decide +kernel
theorem dX3_member_6 : decode cX3_member 6 = .ok (.bipush 9, 2) := by decide +kernel
theorem dX3_member_8 : decode cX3_member 8 = .ok (.invokestatic 32, 3) := by decide +kernel
theorem dX3_member_11 : decode cX3_member 11 = .ok (.aload_n 0, 1) := by decide +kernel
theorem dX3_member_12 : decode cX3_member 12 = .ok (.getfield 20, 3) := by decide +kernel
theorem dX3_member_15 : decode cX3_member 15 = .ok (.iload_n 1, 1) := by decide +kernel
theorem dX3_member_16 : decode cX3_member 16 = .ok (.iload_n 2, 1) := by decide +kernel
theorem dX3_member_17 : decode cX3_member 17 = .ok (.invokevirtual 64, 3) := by decide +kernel
theorem dX3_member_20 : decode cX3_member 20 = .ok (.ireturn, 1) := by decide +kernel
theorem dX3_parent_0 : decode cX3_parent 0 = .ok (.iload_n 1, 1) := by decide +kernel
theorem dX3_parent_1 : decode cX3_parent 1 = .ok (.invokestatic 28, 3) := by decide +kernel
theorem dX3_parent_4 : decode cX3_parent 4 = .ok (.iload_n 2, 1) := by decide +kernel
theorem dX3_parent_5 : decode cX3_parent 5 = .ok (.invokestatic 94, 3) := by decide +kernel
theorem dX3_parent_8 : decode cX3_parent 8 = .ok (.aload_n 0, 1) := by decide +kernel
theorem dX3_parent_9 : decode cX3_parent 9 = .ok (.iload_n 1, 1) := by decide +kernel
theorem dX3_parent_10 : decode cX3_parent 10 = .ok (.invokevirtual 61, 3) := by decide +kernel
theorem dX3_parent_13 : decode cX3_parent 13 = .ok (.aload_n 0, 1) := by decide +kernel
theorem dX3_parent_14 : decode cX3_parent 14 = .ok (.getfield 20, 3) := by decide +kernel
theorem dX3_parent_17 : decode cX3_parent 17 = .ok (.iload_n 1, 1) := by decide +kernel
theorem dX3_parent_18 : decode cX3_parent 18 = .ok (.iload_n 2, 1) := by decide +kernel
theorem dX3_parent_19 : decode cX3_parent 19 = .ok (.invokevirtual 103, 3) := by decide +kernel
theorem dX3_parent_22 : decode cX3_parent 22 = .ok (.ireturn, 1) := by decide +kernel
theorem dX3_depth_0 : decode cX3_depth 0 = .ok (.iload_n 1, 1) := by decide +kernel
theorem dX3_depth_1 : decode cX3_depth 1 = .ok (.invokestatic 28, 3) := by decide +kernel
theorem dX3_depth_4 : decode cX3_depth 4 = .ok (.iload_n 2, 1) := by decide +kernel
theorem dX3_depth_5 : decode cX3_depth 5 = .ok (.invokestatic 94, 3) := by decide +kernel
theorem dX3_depth_8 : decode cX3_depth 8 = .ok (.aload_n 0, 1) := by decide +kernel
theorem dX3_depth_9 : decode cX3_depth 9 = .ok (.iload_n 1, 1) := by decide +kernel
theorem dX3_depth_10 : decode cX3_depth 10 = .ok (.invokevirtual 61, 3) := by decide +kernel
theorem dX3_depth_13 : decode cX3_depth 13 = .ok (.aload_n 0, 1) := by decide +kernel
theorem dX3_depth_14 : decode cX3_depth 14 = .ok (.getfield 10, 3) := by decide +kernel
theorem dX3_depth_17 : decode cX3_depth 17 = .ok (.iload_n 1, 1) := by decide +kernel
theorem dX3_depth_18 : decode cX3_depth 18 = .ok (.iload_n 2, 1) := by decide +kernel
theorem dX3_depth_19 : decode cX3_depth 19 = .ok (.invokevirtual 127, 3) := by decide +kernel
theorem dX3_depth_22 : decode cX3_depth 22 = .ok (.ireturn, 1) := by decide +kernel
theorem dX3_child_0 : decode cX3_child 0 = .ok (.iload_n 1, 1) := by decide +kernel
theorem dX3_child_1 : decode cX3_child 1 = .ok (.invokestatic 130, 3) := by decide +kernel
theorem dX3_child_4 : decode cX3_child 4 = .ok (.iload_n 2, 1) := by decide +kernel
theorem dX3_child_5 : decode cX3_child 5 = .ok (.invokestatic 94, 3) := by decide +kernel
theorem dX3_child_8 : decode cX3_child 8 = .ok (.iload_n 3, 1) := by decide +kernel
theorem dX3_child_9 : decode cX3_child 9 = .ok (.ifCond .ge 13, 3) := by decide +kernel
theorem dX3_child_12 : decode cX3_child 12 = .ok (.new 133, 3) := by decide +kernel
theorem dX3_child_15 : decode cX3_child 15 = .ok (.dup, 1) := by decide +kernel
theorem dX3_child_16 : decode cX3_child 16 = .ok (.ldc 135, 2) := by decide +kernel
theorem dX3_child_18 : decode cX3_child 18 = .ok (.invokespecial 137, 3) := by decide +kernel
theorem dX3_child_21 : decode cX3_child 21 = .ok (.athrow, 1) := by decide +kernel
theorem dX3_child_22 : decode cX3_child 22 = .ok (.aload_n 0, 1) := by decide +kernel
theorem dX3_child_23 : decode cX3_child 23 = .ok (.iload_n 1, 1) := by decide +kernel
theorem dX3_child_24 : decode cX3_child 24 = .ok (.invokevirtual 138, 3) := by decide +kernel
theorem dX3_child_27 : decode cX3_child 27 = .ok (.aload_n 0, 1) := by decide +kernel
theorem dX3_child_28 : decode cX3_child 28 = .ok (.getfield 10, 3) := by decide +kernel
theorem dX3_child_31 : decode cX3_child 31 = .ok (.iload_n 1, 1) := by decide +kernel
theorem dX3_child_32 : decode cX3_child 32 = .ok (.iload_n 2, 1) := by decide +kernel
theorem dX3_child_33 : decode cX3_child 33 = .ok (.iload_n 3, 1) := by decide +kernel
theorem dX3_child_34 : decode cX3_child 34 = .ok (.invokevirtual 141, 3) := by decide +kernel
theorem dX3_child_37 : decode cX3_child 37 = .ok (.ireturn, 1) := by decide +kernel
theorem dX3_subtree_0 : decode cX3_subtree 0 = .ok (.iload_n 1, 1) := by decide +kernel
theorem dX3_subtree_1 : decode cX3_subtree 1 = .ok (.invokestatic 28, 3) := by decide +kernel
theorem dX3_subtree_4 : decode cX3_subtree 4 = .ok (.iload_n 2, 1) := by decide +kernel
theorem dX3_subtree_5 : decode cX3_subtree 5 = .ok (.invokestatic 94, 3) := by decide +kernel
theorem dX3_subtree_8 : decode cX3_subtree 8 = .ok (.aload_n 0, 1) := by decide +kernel
theorem dX3_subtree_9 : decode cX3_subtree 9 = .ok (.iload_n 1, 1) := by decide +kernel
theorem dX3_subtree_10 : decode cX3_subtree 10 = .ok (.invokevirtual 61, 3) := by decide +kernel
theorem dX3_subtree_13 : decode cX3_subtree 13 = .ok (.aload_n 0, 1) := by decide +kernel
theorem dX3_subtree_14 : decode cX3_subtree 14 = .ok (.getfield 10, 3) := by decide +kernel
theorem dX3_subtree_17 : decode cX3_subtree 17 = .ok (.iload_n 1, 1) := by decide +kernel
theorem dX3_subtree_18 : decode cX3_subtree 18 = .ok (.iload_n 2, 1) := by decide +kernel
theorem dX3_subtree_19 : decode cX3_subtree 19 = .ok (.invokevirtual 145, 3) := by decide +kernel
theorem dX3_subtree_22 : decode cX3_subtree 22 = .ok (.ireturn, 1) := by decide +kernel
theorem dX3_hasRoom_0 : decode cX3_hasRoom 0 = .ok (.iload_n 1, 1) := by decide +kernel
theorem dX3_hasRoom_1 : decode cX3_hasRoom 1 = .ok (.invokestatic 130, 3) := by decide +kernel
theorem dX3_hasRoom_4 : decode cX3_hasRoom 4 = .ok (.iload_n 2, 1) := by decide +kernel
theorem dX3_hasRoom_5 : decode cX3_hasRoom 5 = .ok (.invokestatic 94, 3) := by decide +kernel
theorem dX3_hasRoom_8 : decode cX3_hasRoom 8 = .ok (.aload_n 0, 1) := by decide +kernel
theorem dX3_hasRoom_9 : decode cX3_hasRoom 9 = .ok (.iload_n 1, 1) := by decide +kernel
theorem dX3_hasRoom_10 : decode cX3_hasRoom 10 = .ok (.invokevirtual 138, 3) := by decide +kernel
theorem dX3_hasRoom_13 : decode cX3_hasRoom 13 = .ok (.aload_n 0, 1) := by decide +kernel
theorem dX3_hasRoom_14 : decode cX3_hasRoom 14 = .ok (.getfield 10, 3) := by decide +kernel
theorem dX3_hasRoom_17 : decode cX3_hasRoom 17 = .ok (.iload_n 1, 1) := by decide +kernel
theorem dX3_hasRoom_18 : decode cX3_hasRoom 18 = .ok (.iload_n 2, 1) := by decide +kernel
theorem dX3_hasRoom_19 : decode cX3_hasRoom 19 = .ok (.invokevirtual 148, 3) := by decide +kernel
theorem dX3_hasRoom_22 : decode cX3_hasRoom 22 = .ok (.ireturn, 1) := by decide +kernel
theorem dX3_ranksBefore_0 : decode cX3_ranksBefore 0 = .ok (.iload_n 1, 1) := by decide +kernel
theorem dX3_ranksBefore_1 : decode cX3_ranksBefore 1 = .ok (.invokestatic 28, 3) := by decide +kernel
theorem dX3_ranksBefore_4 : decode cX3_ranksBefore 4 = .ok (.iload_n 2, 1) := by decide +kernel
theorem dX3_ranksBefore_5 : decode cX3_ranksBefore 5 = .ok (.invokestatic 28, 3) := by decide +kernel
theorem dX3_ranksBefore_8 : decode cX3_ranksBefore 8 = .ok (.iload_n 3, 1) := by decide +kernel
theorem dX3_ranksBefore_9 : decode cX3_ranksBefore 9 = .ok (.invokestatic 94, 3) := by decide +kernel
theorem dX3_ranksBefore_12 : decode cX3_ranksBefore 12 = .ok (.iload_n 1, 1) := by decide +kernel
theorem dX3_ranksBefore_13 : decode cX3_ranksBefore 13 = .ok (.iload_n 2, 1) := by decide +kernel
theorem dX3_ranksBefore_14 : decode cX3_ranksBefore 14 = .ok (.if_icmp .ne 13, 3) := by decide +kernel
theorem dX3_ranksBefore_17 : decode cX3_ranksBefore 17 = .ok (.new 133, 3) := by decide +kernel
theorem dX3_ranksBefore_20 : decode cX3_ranksBefore 20 = .ok (.dup, 1) := by decide +kernel
theorem dX3_ranksBefore_21 : decode cX3_ranksBefore 21 = .ok (.ldc 152, 2) := by decide +kernel
theorem dX3_ranksBefore_23 : decode cX3_ranksBefore 23 = .ok (.invokespecial 137, 3) := by decide +kernel
theorem dX3_ranksBefore_26 : decode cX3_ranksBefore 26 = .ok (.athrow, 1) := by decide +kernel
theorem dX3_ranksBefore_27 : decode cX3_ranksBefore 27 = .ok (.aload_n 0, 1) := by decide +kernel
theorem dX3_ranksBefore_28 : decode cX3_ranksBefore 28 = .ok (.iload_n 1, 1) := by decide +kernel
theorem dX3_ranksBefore_29 : decode cX3_ranksBefore 29 = .ok (.invokevirtual 61, 3) := by decide +kernel
theorem dX3_ranksBefore_32 : decode cX3_ranksBefore 32 = .ok (.aload_n 0, 1) := by decide +kernel
theorem dX3_ranksBefore_33 : decode cX3_ranksBefore 33 = .ok (.iload_n 2, 1) := by decide +kernel
theorem dX3_ranksBefore_34 : decode cX3_ranksBefore 34 = .ok (.invokevirtual 61, 3) := by decide +kernel
theorem dX3_ranksBefore_37 : decode cX3_ranksBefore 37 = .ok (.aload_n 0, 1) := by decide +kernel
theorem dX3_ranksBefore_38 : decode cX3_ranksBefore 38 = .ok (.getfield 10, 3) := by decide +kernel
theorem dX3_ranksBefore_41 : decode cX3_ranksBefore 41 = .ok (.iload_n 1, 1) := by decide +kernel
theorem dX3_ranksBefore_42 : decode cX3_ranksBefore 42 = .ok (.iload_n 2, 1) := by decide +kernel
theorem dX3_ranksBefore_43 : decode cX3_ranksBefore 43 = .ok (.iload_n 3, 1) := by decide +kernel
theorem dX3_ranksBefore_44 : decode cX3_ranksBefore 44 = .ok (.invokevirtual 154, 3) := by decide +kernel
theorem dX3_ranksBefore_47 : decode cX3_ranksBefore 47 = .ok (.ireturn, 1) := by decide +kernel
theorem dX3_harm_0 : decode cX3_harm 0 = .ok (.iload_n 1, 1) := by decide +kernel
theorem dX3_harm_1 : decode cX3_harm 1 = .ok (.invokestatic 28, 3) := by decide +kernel
theorem dX3_harm_4 : decode cX3_harm 4 = .ok (.aload_n 0, 1) := by decide +kernel
theorem dX3_harm_5 : decode cX3_harm 5 = .ok (.iload_n 1, 1) := by decide +kernel
theorem dX3_harm_6 : decode cX3_harm 6 = .ok (.invokevirtual 61, 3) := by decide +kernel
theorem dX3_harm_9 : decode cX3_harm 9 = .ok (.aload_n 0, 1) := by decide +kernel
theorem dX3_harm_10 : decode cX3_harm 10 = .ok (.getfield 20, 3) := by decide +kernel
theorem dX3_harm_13 : decode cX3_harm 13 = .ok (.iload_n 1, 1) := by decide +kernel
theorem dX3_harm_14 : decode cX3_harm 14 = .ok (.bipush 6, 2) := by decide +kernel
theorem dX3_harm_16 : decode cX3_harm 16 = .ok (.invokevirtual 64, 3) := by decide +kernel
theorem dX3_harm_19 : decode cX3_harm 19 = .ok (.istore_n 2, 1) := by decide +kernel
theorem dX3_harm_20 : decode cX3_harm 20 = .ok (.iconst 0, 1) := by decide +kernel
theorem dX3_harm_21 : decode cX3_harm 21 = .ok (.istore_n 3, 1) := by decide +kernel
theorem dX3_harm_22 : decode cX3_harm 22 = .ok (.iconst 0, 1) := by decide +kernel
theorem dX3_harm_23 : decode cX3_harm 23 = .ok (.istore 4, 2) := by decide +kernel
theorem dX3_harm_25 : decode cX3_harm 25 = .ok (.iload 4, 2) := by decide +kernel
theorem dX3_harm_27 : decode cX3_harm 27 = .ok (.bipush 32, 2) := by decide +kernel
theorem dX3_harm_29 : decode cX3_harm 29 = .ok (.if_icmp .ge 45, 3) := by decide +kernel
theorem dX3_harm_32 : decode cX3_harm 32 = .ok (.iload 4, 2) := by decide +kernel
theorem dX3_harm_34 : decode cX3_harm 34 = .ok (.iload_n 1, 1) := by decide +kernel
theorem dX3_harm_35 : decode cX3_harm 35 = .ok (.if_icmp .eq 33, 3) := by decide +kernel
theorem dX3_harm_38 : decode cX3_harm 38 = .ok (.aload_n 0, 1) := by decide +kernel
theorem dX3_harm_39 : decode cX3_harm 39 = .ok (.getfield 10, 3) := by decide +kernel
theorem dX3_harm_42 : decode cX3_harm 42 = .ok (.iload 4, 2) := by decide +kernel
theorem dX3_harm_44 : decode cX3_harm 44 = .ok (.iload_n 1, 1) := by decide +kernel
theorem dX3_harm_45 : decode cX3_harm 45 = .ok (.iload_n 2, 1) := by decide +kernel
theorem dX3_harm_46 : decode cX3_harm 46 = .ok (.invokevirtual 158, 3) := by decide +kernel
theorem dX3_harm_49 : decode cX3_harm 49 = .ok (.ifCond .eq 19, 3) := by decide +kernel
theorem dX3_harm_52 : decode cX3_harm 52 = .ok (.aload_n 0, 1) := by decide +kernel
theorem dX3_harm_53 : decode cX3_harm 53 = .ok (.getfield 10, 3) := by decide +kernel
theorem dX3_harm_56 : decode cX3_harm 56 = .ok (.iload 4, 2) := by decide +kernel
theorem dX3_harm_58 : decode cX3_harm 58 = .ok (.iload_n 2, 1) := by decide +kernel
theorem dX3_harm_59 : decode cX3_harm 59 = .ok (.invokevirtual 161, 3) := by decide +kernel
theorem dX3_harm_62 : decode cX3_harm 62 = .ok (.ifCond .eq 6, 3) := by decide +kernel
theorem dX3_harm_65 : decode cX3_harm 65 = .ok (.iinc 3 1, 3) := by decide +kernel
theorem dX3_harm_68 : decode cX3_harm 68 = .ok (.iinc 4 1, 3) := by decide +kernel
theorem dX3_harm_71 : decode cX3_harm 71 = .ok (.goto (-46), 3) := by decide +kernel
theorem dX3_harm_74 : decode cX3_harm 74 = .ok (.iload_n 3, 1) := by decide +kernel
theorem dX3_harm_75 : decode cX3_harm 75 = .ok (.ireturn, 1) := by decide +kernel
theorem dX3_pieces_0 : decode cX3_pieces 0 = .ok (.iload_n 1, 1) := by decide +kernel
theorem dX3_pieces_1 : decode cX3_pieces 1 = .ok (.invokestatic 28, 3) := by decide +kernel
theorem dX3_pieces_4 : decode cX3_pieces 4 = .ok (.aload_n 0, 1) := by decide +kernel
theorem dX3_pieces_5 : decode cX3_pieces 5 = .ok (.iload_n 1, 1) := by decide +kernel
theorem dX3_pieces_6 : decode cX3_pieces 6 = .ok (.invokevirtual 61, 3) := by decide +kernel
theorem dX3_pieces_9 : decode cX3_pieces 9 = .ok (.aload_n 0, 1) := by decide +kernel
theorem dX3_pieces_10 : decode cX3_pieces 10 = .ok (.getfield 10, 3) := by decide +kernel
theorem dX3_pieces_13 : decode cX3_pieces 13 = .ok (.iload_n 1, 1) := by decide +kernel
theorem dX3_pieces_14 : decode cX3_pieces 14 = .ok (.invokevirtual 164, 3) := by decide +kernel
theorem dX3_pieces_17 : decode cX3_pieces 17 = .ok (.ireturn, 1) := by decide +kernel
theorem dX3_stripe_0 : decode cX3_stripe 0 = .ok (.iload_n 1, 1) := by decide +kernel
theorem dX3_stripe_1 : decode cX3_stripe 1 = .ok (.invokestatic 94, 3) := by decide +kernel
theorem dX3_stripe_4 : decode cX3_stripe 4 = .ok (.iload_n 2, 1) := by decide +kernel
theorem dX3_stripe_5 : decode cX3_stripe 5 = .ok (.iconst 0, 1) := by decide +kernel
theorem dX3_stripe_6 : decode cX3_stripe 6 = .ok (.iconst 5, 1) := by decide +kernel
theorem dX3_stripe_7 : decode cX3_stripe 7 = .ok (.invokestatic 32, 3) := by decide +kernel
theorem dX3_stripe_10 : decode cX3_stripe 10 = .ok (.iload_n 2, 1) := by decide +kernel
theorem dX3_stripe_11 : decode cX3_stripe 11 = .ok (.tableswitch 80 0 4 #[33, 42, 51, 60, 71], 33) := by decide +kernel
theorem dX3_stripe_44 : decode cX3_stripe 44 = .ok (.aload_n 0, 1) := by decide +kernel
theorem dX3_stripe_45 : decode cX3_stripe 45 = .ok (.getfield 10, 3) := by decide +kernel
theorem dX3_stripe_48 : decode cX3_stripe 48 = .ok (.iload_n 1, 1) := by decide +kernel
theorem dX3_stripe_49 : decode cX3_stripe 49 = .ok (.invokevirtual 167, 3) := by decide +kernel
theorem dX3_stripe_52 : decode cX3_stripe 52 = .ok (.ireturn, 1) := by decide +kernel
theorem dX3_stripe_53 : decode cX3_stripe 53 = .ok (.aload_n 0, 1) := by decide +kernel
theorem dX3_stripe_54 : decode cX3_stripe 54 = .ok (.getfield 10, 3) := by decide +kernel
theorem dX3_stripe_57 : decode cX3_stripe 57 = .ok (.iload_n 1, 1) := by decide +kernel
theorem dX3_stripe_58 : decode cX3_stripe 58 = .ok (.invokevirtual 91, 3) := by decide +kernel
theorem dX3_stripe_61 : decode cX3_stripe 61 = .ok (.ireturn, 1) := by decide +kernel
theorem dX3_stripe_62 : decode cX3_stripe 62 = .ok (.aload_n 0, 1) := by decide +kernel
theorem dX3_stripe_63 : decode cX3_stripe 63 = .ok (.getfield 10, 3) := by decide +kernel
theorem dX3_stripe_66 : decode cX3_stripe 66 = .ok (.iload_n 1, 1) := by decide +kernel
theorem dX3_stripe_67 : decode cX3_stripe 67 = .ok (.invokevirtual 170, 3) := by decide +kernel
theorem dX3_stripe_70 : decode cX3_stripe 70 = .ok (.ireturn, 1) := by decide +kernel
theorem dX3_stripe_71 : decode cX3_stripe 71 = .ok (.aload_n 0, 1) := by decide +kernel
theorem dX3_stripe_72 : decode cX3_stripe 72 = .ok (.getfield 10, 3) := by decide +kernel
theorem dX3_stripe_75 : decode cX3_stripe 75 = .ok (.bipush 100, 2) := by decide +kernel
theorem dX3_stripe_77 : decode cX3_stripe 77 = .ok (.iload_n 1, 1) := by decide +kernel
theorem dX3_stripe_78 : decode cX3_stripe 78 = .ok (.invokevirtual 173, 3) := by decide +kernel
theorem dX3_stripe_81 : decode cX3_stripe 81 = .ok (.ireturn, 1) := by decide +kernel
theorem dX3_stripe_82 : decode cX3_stripe 82 = .ok (.aload_n 0, 1) := by decide +kernel
theorem dX3_stripe_83 : decode cX3_stripe 83 = .ok (.getfield 10, 3) := by decide +kernel
theorem dX3_stripe_86 : decode cX3_stripe 86 = .ok (.iload_n 1, 1) := by decide +kernel
theorem dX3_stripe_87 : decode cX3_stripe 87 = .ok (.invokevirtual 176, 3) := by decide +kernel
theorem dX3_stripe_90 : decode cX3_stripe 90 = .ok (.ireturn, 1) := by decide +kernel
theorem dX3_stripe_91 : decode cX3_stripe 91 = .ok (.aload_n 0, 1) := by decide +kernel
theorem dX3_stripe_92 : decode cX3_stripe 92 = .ok (.getfield 10, 3) := by decide +kernel
theorem dX3_stripe_95 : decode cX3_stripe 95 = .ok (.iload_n 1, 1) := by decide +kernel
theorem dX3_stripe_96 : decode cX3_stripe 96 = .ok (.invokevirtual 179, 3) := by decide +kernel
theorem dX3_stripe_99 : decode cX3_stripe 99 = .ok (.ireturn, 1) := by decide +kernel
theorem dX3_count_0 : decode cX3_count 0 = .ok (.iload_n 1, 1) := by decide +kernel
theorem dX3_count_1 : decode cX3_count 1 = .ok (.iconst 0, 1) := by decide +kernel
theorem dX3_count_2 : decode cX3_count 2 = .ok (.bipush 7, 2) := by decide +kernel
theorem dX3_count_4 : decode cX3_count 4 = .ok (.invokestatic 32, 3) := by decide +kernel
theorem dX3_count_7 : decode cX3_count 7 = .ok (.aload_n 0, 1) := by decide +kernel
theorem dX3_count_8 : decode cX3_count 8 = .ok (.getfield 20, 3) := by decide +kernel
theorem dX3_count_11 : decode cX3_count 11 = .ok (.iload_n 1, 1) := by decide +kernel
theorem dX3_count_12 : decode cX3_count 12 = .ok (.invokevirtual 78, 3) := by decide +kernel
theorem dX3_count_15 : decode cX3_count 15 = .ok (.ireturn, 1) := by decide +kernel
theorem dX3_undo_0 : decode cX3_undo 0 = .ok (.aload_n 0, 1) := by decide +kernel
theorem dX3_undo_1 : decode cX3_undo 1 = .ok (.getfield 24, 3) := by decide +kernel
theorem dX3_undo_4 : decode cX3_undo 4 = .ok (.invokevirtual 182, 3) := by decide +kernel
theorem dX3_undo_7 : decode cX3_undo 7 = .ok (.ifCond .ne 13, 3) := by decide +kernel
theorem dX3_undo_10 : decode cX3_undo 10 = .ok (.new 40, 3) := by decide +kernel
theorem dX3_undo_13 : decode cX3_undo 13 = .ok (.dup, 1) := by decide +kernel
theorem dX3_undo_14 : decode cX3_undo 14 = .ok (.ldc 185, 2) := by decide +kernel
theorem dX3_undo_16 : decode cX3_undo 16 = .ok (.invokespecial 44, 3) := by decide +kernel
theorem dX3_undo_19 : decode cX3_undo 19 = .ok (.athrow, 1) := by decide +kernel
theorem dX3_undo_20 : decode cX3_undo 20 = .ok (.aload_n 0, 1) := by decide +kernel
theorem dX3_undo_21 : decode cX3_undo 21 = .ok (.getfield 24, 3) := by decide +kernel
theorem dX3_undo_24 : decode cX3_undo 24 = .ok (.aload_n 0, 1) := by decide +kernel
theorem dX3_undo_25 : decode cX3_undo 25 = .ok (.getfield 20, 3) := by decide +kernel
theorem dX3_undo_28 : decode cX3_undo 28 = .ok (.invokevirtual 187, 3) := by decide +kernel
theorem dX3_undo_31 : decode cX3_undo 31 = .ok (.aload_n 0, 1) := by decide +kernel
theorem dX3_undo_32 : decode cX3_undo 32 = .ok (.getfield 24, 3) := by decide +kernel
theorem dX3_undo_35 : decode cX3_undo 35 = .ok (.invokevirtual 182, 3) := by decide +kernel
theorem dX3_undo_38 : decode cX3_undo 38 = .ok (.ireturn, 1) := by decide +kernel
theorem dX3_digest_0 : decode cX3_digest 0 = .ok (.ldc2_w 190, 3) := by decide +kernel
theorem dX3_digest_3 : decode cX3_digest 3 = .ok (.aload_n 0, 1) := by decide +kernel
theorem dX3_digest_4 : decode cX3_digest 4 = .ok (.getfield 24, 3) := by decide +kernel
theorem dX3_digest_7 : decode cX3_digest 7 = .ok (.invokevirtual 182, 3) := by decide +kernel
theorem dX3_digest_10 : decode cX3_digest 10 = .ok (.i2l, 1) := by decide +kernel
theorem dX3_digest_11 : decode cX3_digest 11 = .ok (.invokestatic 192, 3) := by decide +kernel
theorem dX3_digest_14 : decode cX3_digest 14 = .ok (.lstore_n 1, 1) := by decide +kernel
theorem dX3_digest_15 : decode cX3_digest 15 = .ok (.lload_n 1, 1) := by decide +kernel
theorem dX3_digest_16 : decode cX3_digest 16 = .ok (.aload_n 0, 1) := by decide +kernel
theorem dX3_digest_17 : decode cX3_digest 17 = .ok (.getfield 20, 3) := by decide +kernel
theorem dX3_digest_20 : decode cX3_digest 20 = .ok (.bipush 8, 2) := by decide +kernel
theorem dX3_digest_22 : decode cX3_digest 22 = .ok (.invokevirtual 78, 3) := by decide +kernel
theorem dX3_digest_25 : decode cX3_digest 25 = .ok (.i2l, 1) := by decide +kernel
theorem dX3_digest_26 : decode cX3_digest 26 = .ok (.invokestatic 192, 3) := by decide +kernel
theorem dX3_digest_29 : decode cX3_digest 29 = .ok (.lstore_n 1, 1) := by decide +kernel
theorem dX3_digest_30 : decode cX3_digest 30 = .ok (.lload_n 1, 1) := by decide +kernel
theorem dX3_digest_31 : decode cX3_digest 31 = .ok (.aload_n 0, 1) := by decide +kernel
theorem dX3_digest_32 : decode cX3_digest 32 = .ok (.getfield 20, 3) := by decide +kernel
theorem dX3_digest_35 : decode cX3_digest 35 = .ok (.bipush 9, 2) := by decide +kernel
theorem dX3_digest_37 : decode cX3_digest 37 = .ok (.invokevirtual 78, 3) := by decide +kernel
theorem dX3_digest_40 : decode cX3_digest 40 = .ok (.i2l, 1) := by decide +kernel
theorem dX3_digest_41 : decode cX3_digest 41 = .ok (.invokestatic 192, 3) := by decide +kernel
theorem dX3_digest_44 : decode cX3_digest 44 = .ok (.lstore_n 1, 1) := by decide +kernel
theorem dX3_digest_45 : decode cX3_digest 45 = .ok (.lload_n 1, 1) := by decide +kernel
theorem dX3_digest_46 : decode cX3_digest 46 = .ok (.aload_n 0, 1) := by decide +kernel
theorem dX3_digest_47 : decode cX3_digest 47 = .ok (.getfield 20, 3) := by decide +kernel
theorem dX3_digest_50 : decode cX3_digest 50 = .ok (.bipush 10, 2) := by decide +kernel
theorem dX3_digest_52 : decode cX3_digest 52 = .ok (.invokevirtual 78, 3) := by decide +kernel
theorem dX3_digest_55 : decode cX3_digest 55 = .ok (.i2l, 1) := by decide +kernel
theorem dX3_digest_56 : decode cX3_digest 56 = .ok (.invokestatic 192, 3) := by decide +kernel
theorem dX3_digest_59 : decode cX3_digest 59 = .ok (.lstore_n 1, 1) := by decide +kernel
theorem dX3_digest_60 : decode cX3_digest 60 = .ok (.iconst 0, 1) := by decide +kernel
theorem dX3_digest_61 : decode cX3_digest 61 = .ok (.istore_n 3, 1) := by decide +kernel
theorem dX3_digest_62 : decode cX3_digest 62 = .ok (.iload_n 3, 1) := by decide +kernel
theorem dX3_digest_63 : decode cX3_digest 63 = .ok (.bipush 32, 2) := by decide +kernel
theorem dX3_digest_65 : decode cX3_digest 65 = .ok (.if_icmp .ge 16, 3) := by decide +kernel
theorem dX3_digest_68 : decode cX3_digest 68 = .ok (.aload_n 0, 1) := by decide +kernel
theorem dX3_digest_69 : decode cX3_digest 69 = .ok (.lload_n 1, 1) := by decide +kernel
theorem dX3_digest_70 : decode cX3_digest 70 = .ok (.iload_n 3, 1) := by decide +kernel
theorem dX3_digest_71 : decode cX3_digest 71 = .ok (.invokevirtual 196, 3) := by decide +kernel
theorem dX3_digest_74 : decode cX3_digest 74 = .ok (.lstore_n 1, 1) := by decide +kernel
theorem dX3_digest_75 : decode cX3_digest 75 = .ok (.iinc 3 1, 3) := by decide +kernel
theorem dX3_digest_78 : decode cX3_digest 78 = .ok (.goto (-16), 3) := by decide +kernel
theorem dX3_digest_81 : decode cX3_digest 81 = .ok (.iconst 0, 1) := by decide +kernel
theorem dX3_digest_82 : decode cX3_digest 82 = .ok (.istore_n 3, 1) := by decide +kernel
theorem dX3_digest_83 : decode cX3_digest 83 = .ok (.iload_n 3, 1) := by decide +kernel
theorem dX3_digest_84 : decode cX3_digest 84 = .ok (.iconst 4, 1) := by decide +kernel
theorem dX3_digest_85 : decode cX3_digest 85 = .ok (.if_icmp .ge 38, 3) := by decide +kernel
theorem dX3_digest_88 : decode cX3_digest 88 = .ok (.iconst 0, 1) := by decide +kernel
theorem dX3_digest_89 : decode cX3_digest 89 = .ok (.istore 4, 2) := by decide +kernel
theorem dX3_digest_91 : decode cX3_digest 91 = .ok (.iload 4, 2) := by decide +kernel
theorem dX3_digest_93 : decode cX3_digest 93 = .ok (.bipush 6, 2) := by decide +kernel
theorem dX3_digest_95 : decode cX3_digest 95 = .ok (.if_icmp .ge 22, 3) := by decide +kernel
theorem dX3_digest_98 : decode cX3_digest 98 = .ok (.lload_n 1, 1) := by decide +kernel
theorem dX3_digest_99 : decode cX3_digest 99 = .ok (.aload_n 0, 1) := by decide +kernel
theorem dX3_digest_100 : decode cX3_digest 100 = .ok (.iload_n 3, 1) := by decide +kernel
theorem dX3_digest_101 : decode cX3_digest 101 = .ok (.iload 4, 2) := by decide +kernel
theorem dX3_digest_103 : decode cX3_digest 103 = .ok (.invokevirtual 200, 3) := by decide +kernel
theorem dX3_digest_106 : decode cX3_digest 106 = .ok (.i2l, 1) := by decide +kernel
theorem dX3_digest_107 : decode cX3_digest 107 = .ok (.invokestatic 192, 3) := by decide +kernel
theorem dX3_digest_110 : decode cX3_digest 110 = .ok (.lstore_n 1, 1) := by decide +kernel
theorem dX3_digest_111 : decode cX3_digest 111 = .ok (.iinc 4 1, 3) := by decide +kernel
theorem dX3_digest_114 : decode cX3_digest 114 = .ok (.goto (-23), 3) := by decide +kernel
theorem dX3_digest_117 : decode cX3_digest 117 = .ok (.iinc 3 1, 3) := by decide +kernel
theorem dX3_digest_120 : decode cX3_digest 120 = .ok (.goto (-37), 3) := by decide +kernel
theorem dX3_digest_123 : decode cX3_digest 123 = .ok (.iconst 0, 1) := by decide +kernel
theorem dX3_digest_124 : decode cX3_digest 124 = .ok (.istore_n 3, 1) := by decide +kernel
theorem dX3_digest_125 : decode cX3_digest 125 = .ok (.iload_n 3, 1) := by decide +kernel
theorem dX3_digest_126 : decode cX3_digest 126 = .ok (.bipush 8, 2) := by decide +kernel
theorem dX3_digest_128 : decode cX3_digest 128 = .ok (.if_icmp .ge 23, 3) := by decide +kernel
theorem dX3_digest_131 : decode cX3_digest 131 = .ok (.lload_n 1, 1) := by decide +kernel
theorem dX3_digest_132 : decode cX3_digest 132 = .ok (.aload_n 0, 1) := by decide +kernel
theorem dX3_digest_133 : decode cX3_digest 133 = .ok (.getfield 20, 3) := by decide +kernel
theorem dX3_digest_136 : decode cX3_digest 136 = .ok (.iload_n 3, 1) := by decide +kernel
theorem dX3_digest_137 : decode cX3_digest 137 = .ok (.invokevirtual 78, 3) := by decide +kernel
theorem dX3_digest_140 : decode cX3_digest 140 = .ok (.i2l, 1) := by decide +kernel
theorem dX3_digest_141 : decode cX3_digest 141 = .ok (.invokestatic 192, 3) := by decide +kernel
theorem dX3_digest_144 : decode cX3_digest 144 = .ok (.lstore_n 1, 1) := by decide +kernel
theorem dX3_digest_145 : decode cX3_digest 145 = .ok (.iinc 3 1, 3) := by decide +kernel
theorem dX3_digest_148 : decode cX3_digest 148 = .ok (.goto (-23), 3) := by decide +kernel
theorem dX3_digest_151 : decode cX3_digest 151 = .ok (.lload_n 1, 1) := by decide +kernel
theorem dX3_digest_152 : decode cX3_digest 152 = .ok (.lreturn, 1) := by decide +kernel
theorem dX3_mixedWithMember_0 : decode cX3_mixedWithMember 0 = .ok (.lload_n 1, 1) := by decide +kernel
theorem dX3_mixedWithMember_1 : decode cX3_mixedWithMember 1 = .ok (.lstore 4, 2) := by decide +kernel
theorem dX3_mixedWithMember_3 : decode cX3_mixedWithMember 3 = .ok (.iconst 0, 1) := by decide +kernel
theorem dX3_mixedWithMember_4 : decode cX3_mixedWithMember 4 = .ok (.istore 6, 2) := by decide +kernel
theorem dX3_mixedWithMember_6 : decode cX3_mixedWithMember 6 = .ok (.iload 6, 2) := by decide +kernel
theorem dX3_mixedWithMember_8 : decode cX3_mixedWithMember 8 = .ok (.bipush 10, 2) := by decide +kernel
theorem dX3_mixedWithMember_10 : decode cX3_mixedWithMember 10 = .ok (.if_icmp .ge 27, 3) := by decide +kernel
theorem dX3_mixedWithMember_13 : decode cX3_mixedWithMember 13 = .ok (.lload 4, 2) := by decide +kernel
theorem dX3_mixedWithMember_15 : decode cX3_mixedWithMember 15 = .ok (.aload_n 0, 1) := by decide +kernel
theorem dX3_mixedWithMember_16 : decode cX3_mixedWithMember 16 = .ok (.getfield 20, 3) := by decide +kernel
theorem dX3_mixedWithMember_19 : decode cX3_mixedWithMember 19 = .ok (.iload_n 3, 1) := by decide +kernel
theorem dX3_mixedWithMember_20 : decode cX3_mixedWithMember 20 = .ok (.iload 6, 2) := by decide +kernel
theorem dX3_mixedWithMember_22 : decode cX3_mixedWithMember 22 = .ok (.invokevirtual 64, 3) := by decide +kernel
theorem dX3_mixedWithMember_25 : decode cX3_mixedWithMember 25 = .ok (.i2l, 1) := by decide +kernel
theorem dX3_mixedWithMember_26 : decode cX3_mixedWithMember 26 = .ok (.invokestatic 192, 3) := by decide +kernel
theorem dX3_mixedWithMember_29 : decode cX3_mixedWithMember 29 = .ok (.lstore 4, 2) := by decide +kernel
theorem dX3_mixedWithMember_31 : decode cX3_mixedWithMember 31 = .ok (.iinc 6 1, 3) := by decide +kernel
theorem dX3_mixedWithMember_34 : decode cX3_mixedWithMember 34 = .ok (.goto (-28), 3) := by decide +kernel
theorem dX3_mixedWithMember_37 : decode cX3_mixedWithMember 37 = .ok (.aload_n 0, 1) := by decide +kernel
theorem dX3_mixedWithMember_38 : decode cX3_mixedWithMember 38 = .ok (.iload_n 3, 1) := by decide +kernel
theorem dX3_mixedWithMember_39 : decode cX3_mixedWithMember 39 = .ok (.invokevirtual 36, 3) := by decide +kernel
theorem dX3_mixedWithMember_42 : decode cX3_mixedWithMember 42 = .ok (.ifCond .ne 6, 3) := by decide +kernel
theorem dX3_mixedWithMember_45 : decode cX3_mixedWithMember 45 = .ok (.lload 4, 2) := by decide +kernel
theorem dX3_mixedWithMember_47 : decode cX3_mixedWithMember 47 = .ok (.lreturn, 1) := by decide +kernel
theorem dX3_mixedWithMember_48 : decode cX3_mixedWithMember 48 = .ok (.lload 4, 2) := by decide +kernel
theorem dX3_mixedWithMember_50 : decode cX3_mixedWithMember 50 = .ok (.aload_n 0, 1) := by decide +kernel
theorem dX3_mixedWithMember_51 : decode cX3_mixedWithMember 51 = .ok (.iload_n 3, 1) := by decide +kernel
theorem dX3_mixedWithMember_52 : decode cX3_mixedWithMember 52 = .ok (.invokevirtual 203, 3) := by decide +kernel
theorem dX3_mixedWithMember_55 : decode cX3_mixedWithMember 55 = .ok (.i2l, 1) := by decide +kernel
theorem dX3_mixedWithMember_56 : decode cX3_mixedWithMember 56 = .ok (.invokestatic 192, 3) := by decide +kernel
theorem dX3_mixedWithMember_59 : decode cX3_mixedWithMember 59 = .ok (.lstore 4, 2) := by decide +kernel
theorem dX3_mixedWithMember_61 : decode cX3_mixedWithMember 61 = .ok (.lload 4, 2) := by decide +kernel
theorem dX3_mixedWithMember_63 : decode cX3_mixedWithMember 63 = .ok (.aload_n 0, 1) := by decide +kernel
theorem dX3_mixedWithMember_64 : decode cX3_mixedWithMember 64 = .ok (.getfield 10, 3) := by decide +kernel
theorem dX3_mixedWithMember_67 : decode cX3_mixedWithMember 67 = .ok (.iload_n 3, 1) := by decide +kernel
theorem dX3_mixedWithMember_68 : decode cX3_mixedWithMember 68 = .ok (.invokevirtual 164, 3) := by decide +kernel
theorem dX3_mixedWithMember_71 : decode cX3_mixedWithMember 71 = .ok (.i2l, 1) := by decide +kernel
theorem dX3_mixedWithMember_72 : decode cX3_mixedWithMember 72 = .ok (.invokestatic 192, 3) := by decide +kernel
theorem dX3_mixedWithMember_75 : decode cX3_mixedWithMember 75 = .ok (.lstore 4, 2) := by decide +kernel
theorem dX3_mixedWithMember_77 : decode cX3_mixedWithMember 77 = .ok (.iconst 0, 1) := by decide +kernel
theorem dX3_mixedWithMember_78 : decode cX3_mixedWithMember 78 = .ok (.istore 6, 2) := by decide +kernel
theorem dX3_mixedWithMember_80 : decode cX3_mixedWithMember 80 = .ok (.iload 6, 2) := by decide +kernel
theorem dX3_mixedWithMember_82 : decode cX3_mixedWithMember 82 = .ok (.iconst 4, 1) := by decide +kernel
theorem dX3_mixedWithMember_83 : decode cX3_mixedWithMember 83 = .ok (.if_icmp .ge 88, 3) := by decide +kernel
theorem dX3_mixedWithMember_86 : decode cX3_mixedWithMember 86 = .ok (.lload 4, 2) := by decide +kernel
theorem dX3_mixedWithMember_88 : decode cX3_mixedWithMember 88 = .ok (.aload_n 0, 1) := by decide +kernel
theorem dX3_mixedWithMember_89 : decode cX3_mixedWithMember 89 = .ok (.getfield 20, 3) := by decide +kernel
theorem dX3_mixedWithMember_92 : decode cX3_mixedWithMember 92 = .ok (.iload_n 3, 1) := by decide +kernel
theorem dX3_mixedWithMember_93 : decode cX3_mixedWithMember 93 = .ok (.iload 6, 2) := by decide +kernel
theorem dX3_mixedWithMember_95 : decode cX3_mixedWithMember 95 = .ok (.invokevirtual 103, 3) := by decide +kernel
theorem dX3_mixedWithMember_98 : decode cX3_mixedWithMember 98 = .ok (.i2l, 1) := by decide +kernel
theorem dX3_mixedWithMember_99 : decode cX3_mixedWithMember 99 = .ok (.invokestatic 192, 3) := by decide +kernel
theorem dX3_mixedWithMember_102 : decode cX3_mixedWithMember 102 = .ok (.lstore 4, 2) := by decide +kernel
theorem dX3_mixedWithMember_104 : decode cX3_mixedWithMember 104 = .ok (.lload 4, 2) := by decide +kernel
theorem dX3_mixedWithMember_106 : decode cX3_mixedWithMember 106 = .ok (.aload_n 0, 1) := by decide +kernel
theorem dX3_mixedWithMember_107 : decode cX3_mixedWithMember 107 = .ok (.getfield 10, 3) := by decide +kernel
theorem dX3_mixedWithMember_110 : decode cX3_mixedWithMember 110 = .ok (.iload_n 3, 1) := by decide +kernel
theorem dX3_mixedWithMember_111 : decode cX3_mixedWithMember 111 = .ok (.iload 6, 2) := by decide +kernel
theorem dX3_mixedWithMember_113 : decode cX3_mixedWithMember 113 = .ok (.invokevirtual 127, 3) := by decide +kernel
theorem dX3_mixedWithMember_116 : decode cX3_mixedWithMember 116 = .ok (.i2l, 1) := by decide +kernel
theorem dX3_mixedWithMember_117 : decode cX3_mixedWithMember 117 = .ok (.invokestatic 192, 3) := by decide +kernel
theorem dX3_mixedWithMember_120 : decode cX3_mixedWithMember 120 = .ok (.lstore 4, 2) := by decide +kernel
theorem dX3_mixedWithMember_122 : decode cX3_mixedWithMember 122 = .ok (.lload 4, 2) := by decide +kernel
theorem dX3_mixedWithMember_124 : decode cX3_mixedWithMember 124 = .ok (.aload_n 0, 1) := by decide +kernel
theorem dX3_mixedWithMember_125 : decode cX3_mixedWithMember 125 = .ok (.getfield 10, 3) := by decide +kernel
theorem dX3_mixedWithMember_128 : decode cX3_mixedWithMember 128 = .ok (.iload_n 3, 1) := by decide +kernel
theorem dX3_mixedWithMember_129 : decode cX3_mixedWithMember 129 = .ok (.iload 6, 2) := by decide +kernel
theorem dX3_mixedWithMember_131 : decode cX3_mixedWithMember 131 = .ok (.invokevirtual 145, 3) := by decide +kernel
theorem dX3_mixedWithMember_134 : decode cX3_mixedWithMember 134 = .ok (.i2l, 1) := by decide +kernel
theorem dX3_mixedWithMember_135 : decode cX3_mixedWithMember 135 = .ok (.invokestatic 192, 3) := by decide +kernel
theorem dX3_mixedWithMember_138 : decode cX3_mixedWithMember 138 = .ok (.lstore 4, 2) := by decide +kernel
theorem dX3_mixedWithMember_140 : decode cX3_mixedWithMember 140 = .ok (.lload 4, 2) := by decide +kernel
theorem dX3_mixedWithMember_142 : decode cX3_mixedWithMember 142 = .ok (.aload_n 0, 1) := by decide +kernel
theorem dX3_mixedWithMember_143 : decode cX3_mixedWithMember 143 = .ok (.getfield 10, 3) := by decide +kernel
theorem dX3_mixedWithMember_146 : decode cX3_mixedWithMember 146 = .ok (.iload_n 3, 1) := by decide +kernel
theorem dX3_mixedWithMember_147 : decode cX3_mixedWithMember 147 = .ok (.iload 6, 2) := by decide +kernel
theorem dX3_mixedWithMember_149 : decode cX3_mixedWithMember 149 = .ok (.invokevirtual 148, 3) := by decide +kernel
theorem dX3_mixedWithMember_152 : decode cX3_mixedWithMember 152 = .ok (.ifCond .eq 7, 3) := by decide +kernel
theorem dX3_mixedWithMember_155 : decode cX3_mixedWithMember 155 = .ok (.lconst 1, 1) := by decide +kernel
theorem dX3_mixedWithMember_156 : decode cX3_mixedWithMember 156 = .ok (.goto 4, 3) := by decide +kernel
theorem dX3_mixedWithMember_159 : decode cX3_mixedWithMember 159 = .ok (.lconst 0, 1) := by decide +kernel
theorem dX3_mixedWithMember_160 : decode cX3_mixedWithMember 160 = .ok (.invokestatic 192, 3) := by decide +kernel
theorem dX3_mixedWithMember_163 : decode cX3_mixedWithMember 163 = .ok (.lstore 4, 2) := by decide +kernel
theorem dX3_mixedWithMember_165 : decode cX3_mixedWithMember 165 = .ok (.iinc 6 1, 3) := by decide +kernel
theorem dX3_mixedWithMember_168 : decode cX3_mixedWithMember 168 = .ok (.goto (-88), 3) := by decide +kernel
theorem dX3_mixedWithMember_171 : decode cX3_mixedWithMember 171 = .ok (.lload 4, 2) := by decide +kernel
theorem dX3_mixedWithMember_173 : decode cX3_mixedWithMember 173 = .ok (.lreturn, 1) := by decide +kernel
theorem dX3_mixed_0 : decode cX3_mixed 0 = .ok (.ldc2_w 206, 3) := by decide +kernel
theorem dX3_mixed_3 : decode cX3_mixed 3 = .ok (.lload_n 0, 1) := by decide +kernel
theorem dX3_mixed_4 : decode cX3_mixed 4 = .ok (.lmul, 1) := by decide +kernel
theorem dX3_mixed_5 : decode cX3_mixed 5 = .ok (.lload_n 2, 1) := by decide +kernel
theorem dX3_mixed_6 : decode cX3_mixed 6 = .ok (.ladd, 1) := by decide +kernel
theorem dX3_mixed_7 : decode cX3_mixed 7 = .ok (.lreturn, 1) := by decide +kernel
theorem dX3_isJoined_0 : decode cX3_isJoined 0 = .ok (.aload_n 0, 1) := by decide +kernel
theorem dX3_isJoined_1 : decode cX3_isJoined 1 = .ok (.getfield 20, 3) := by decide +kernel
theorem dX3_isJoined_4 : decode cX3_isJoined 4 = .ok (.iload_n 1, 1) := by decide +kernel
theorem dX3_isJoined_5 : decode cX3_isJoined 5 = .ok (.iconst 0, 1) := by decide +kernel
theorem dX3_isJoined_6 : decode cX3_isJoined 6 = .ok (.invokevirtual 64, 3) := by decide +kernel
theorem dX3_isJoined_9 : decode cX3_isJoined 9 = .ok (.iconst 1, 1) := by decide +kernel
theorem dX3_isJoined_10 : decode cX3_isJoined 10 = .ok (.if_icmp .ne 7, 3) := by decide +kernel
theorem dX3_isJoined_13 : decode cX3_isJoined 13 = .ok (.iconst 1, 1) := by decide +kernel
theorem dX3_isJoined_14 : decode cX3_isJoined 14 = .ok (.goto 4, 3) := by decide +kernel
theorem dX3_isJoined_17 : decode cX3_isJoined 17 = .ok (.iconst 0, 1) := by decide +kernel
theorem dX3_isJoined_18 : decode cX3_isJoined 18 = .ok (.ireturn, 1) := by decide +kernel
theorem dX3_hasFailed_0 : decode cX3_hasFailed 0 = .ok (.aload_n 0, 1) := by decide +kernel
theorem dX3_hasFailed_1 : decode cX3_hasFailed 1 = .ok (.getfield 20, 3) := by decide +kernel
theorem dX3_hasFailed_4 : decode cX3_hasFailed 4 = .ok (.iload_n 1, 1) := by decide +kernel
theorem dX3_hasFailed_5 : decode cX3_hasFailed 5 = .ok (.iconst 3, 1) := by decide +kernel
theorem dX3_hasFailed_6 : decode cX3_hasFailed 6 = .ok (.invokevirtual 64, 3) := by decide +kernel
theorem dX3_hasFailed_9 : decode cX3_hasFailed 9 = .ok (.iconst 1, 1) := by decide +kernel
theorem dX3_hasFailed_10 : decode cX3_hasFailed 10 = .ok (.if_icmp .ne 7, 3) := by decide +kernel
theorem dX3_hasFailed_13 : decode cX3_hasFailed 13 = .ok (.iconst 1, 1) := by decide +kernel
theorem dX3_hasFailed_14 : decode cX3_hasFailed 14 = .ok (.goto 4, 3) := by decide +kernel
theorem dX3_hasFailed_17 : decode cX3_hasFailed 17 = .ok (.iconst 0, 1) := by decide +kernel
theorem dX3_hasFailed_18 : decode cX3_hasFailed 18 = .ok (.ireturn, 1) := by decide +kernel
theorem dX3_connectedStripes_0 : decode cX3_connectedStripes 0 = .ok (.iconst 0, 1) := by decide +kernel
theorem dX3_connectedStripes_1 : decode cX3_connectedStripes 1 = .ok (.istore_n 2, 1) := by decide +kernel
theorem dX3_connectedStripes_2 : decode cX3_connectedStripes 2 = .ok (.iconst 0, 1) := by decide +kernel
theorem dX3_connectedStripes_3 : decode cX3_connectedStripes 3 = .ok (.istore_n 3, 1) := by decide +kernel
theorem dX3_connectedStripes_4 : decode cX3_connectedStripes 4 = .ok (.iload_n 3, 1) := by decide +kernel
theorem dX3_connectedStripes_5 : decode cX3_connectedStripes 5 = .ok (.iconst 4, 1) := by decide +kernel
theorem dX3_connectedStripes_6 : decode cX3_connectedStripes 6 = .ok (.if_icmp .ge 25, 3) := by decide +kernel
theorem dX3_connectedStripes_9 : decode cX3_connectedStripes 9 = .ok (.aload_n 0, 1) := by decide +kernel
theorem dX3_connectedStripes_10 : decode cX3_connectedStripes 10 = .ok (.getfield 10, 3) := by decide +kernel
theorem dX3_connectedStripes_13 : decode cX3_connectedStripes 13 = .ok (.iload_n 1, 1) := by decide +kernel
theorem dX3_connectedStripes_14 : decode cX3_connectedStripes 14 = .ok (.iload_n 3, 1) := by decide +kernel
theorem dX3_connectedStripes_15 : decode cX3_connectedStripes 15 = .ok (.invokevirtual 127, 3) := by decide +kernel
theorem dX3_connectedStripes_18 : decode cX3_connectedStripes 18 = .ok (.iconst (-1), 1) := by decide +kernel
theorem dX3_connectedStripes_19 : decode cX3_connectedStripes 19 = .ok (.if_icmp .eq 6, 3) := by decide +kernel
theorem dX3_connectedStripes_22 : decode cX3_connectedStripes 22 = .ok (.iinc 2 1, 3) := by decide +kernel
theorem dX3_connectedStripes_25 : decode cX3_connectedStripes 25 = .ok (.iinc 3 1, 3) := by decide +kernel
theorem dX3_connectedStripes_28 : decode cX3_connectedStripes 28 = .ok (.goto (-24), 3) := by decide +kernel
theorem dX3_connectedStripes_31 : decode cX3_connectedStripes 31 = .ok (.iload_n 2, 1) := by decide +kernel
theorem dX3_connectedStripes_32 : decode cX3_connectedStripes 32 = .ok (.ireturn, 1) := by decide +kernel
theorem dX3_noticeFailures_0 : decode cX3_noticeFailures 0 = .ok (.iconst 0, 1) := by decide +kernel
theorem dX3_noticeFailures_1 : decode cX3_noticeFailures 1 = .ok (.istore_n 1, 1) := by decide +kernel
theorem dX3_noticeFailures_2 : decode cX3_noticeFailures 2 = .ok (.iload_n 1, 1) := by decide +kernel
theorem dX3_noticeFailures_3 : decode cX3_noticeFailures 3 = .ok (.bipush 32, 2) := by decide +kernel
theorem dX3_noticeFailures_5 : decode cX3_noticeFailures 5 = .ok (.if_icmp .ge 62, 3) := by decide +kernel
theorem dX3_noticeFailures_8 : decode cX3_noticeFailures 8 = .ok (.aload_n 0, 1) := by decide +kernel
theorem dX3_noticeFailures_9 : decode cX3_noticeFailures 9 = .ok (.iload_n 1, 1) := by decide +kernel
theorem dX3_noticeFailures_10 : decode cX3_noticeFailures 10 = .ok (.invokevirtual 73, 3) := by decide +kernel
theorem dX3_noticeFailures_13 : decode cX3_noticeFailures 13 = .ok (.ifCond .eq 48, 3) := by decide +kernel
theorem dX3_noticeFailures_16 : decode cX3_noticeFailures 16 = .ok (.aload_n 0, 1) := by decide +kernel
theorem dX3_noticeFailures_17 : decode cX3_noticeFailures 17 = .ok (.getfield 20, 3) := by decide +kernel
theorem dX3_noticeFailures_20 : decode cX3_noticeFailures 20 = .ok (.iload_n 1, 1) := by decide +kernel
theorem dX3_noticeFailures_21 : decode cX3_noticeFailures 21 = .ok (.iconst 4, 1) := by decide +kernel
theorem dX3_noticeFailures_22 : decode cX3_noticeFailures 22 = .ok (.invokevirtual 64, 3) := by decide +kernel
theorem dX3_noticeFailures_25 : decode cX3_noticeFailures 25 = .ok (.aload_n 0, 1) := by decide +kernel
theorem dX3_noticeFailures_26 : decode cX3_noticeFailures 26 = .ok (.getfield 20, 3) := by decide +kernel
theorem dX3_noticeFailures_29 : decode cX3_noticeFailures 29 = .ok (.bipush 8, 2) := by decide +kernel
theorem dX3_noticeFailures_31 : decode cX3_noticeFailures 31 = .ok (.invokevirtual 78, 3) := by decide +kernel
theorem dX3_noticeFailures_34 : decode cX3_noticeFailures 34 = .ok (.if_icmp .ne 27, 3) := by decide +kernel
theorem dX3_noticeFailures_37 : decode cX3_noticeFailures 37 = .ok (.aload_n 0, 1) := by decide +kernel
theorem dX3_noticeFailures_38 : decode cX3_noticeFailures 38 = .ok (.getfield 10, 3) := by decide +kernel
theorem dX3_noticeFailures_41 : decode cX3_noticeFailures 41 = .ok (.iload_n 1, 1) := by decide +kernel
theorem dX3_noticeFailures_42 : decode cX3_noticeFailures 42 = .ok (.invokevirtual 70, 3) := by decide +kernel
theorem dX3_noticeFailures_45 : decode cX3_noticeFailures 45 = .ok (.aload_n 0, 1) := by decide +kernel
theorem dX3_noticeFailures_46 : decode cX3_noticeFailures 46 = .ok (.getfield 10, 3) := by decide +kernel
theorem dX3_noticeFailures_49 : decode cX3_noticeFailures 49 = .ok (.invokevirtual 54, 3) := by decide +kernel
theorem dX3_noticeFailures_52 : decode cX3_noticeFailures 52 = .ok (.aload_n 0, 1) := by decide +kernel
theorem dX3_noticeFailures_53 : decode cX3_noticeFailures 53 = .ok (.getfield 20, 3) := by decide +kernel
theorem dX3_noticeFailures_56 : decode cX3_noticeFailures 56 = .ok (.iconst 5, 1) := by decide +kernel
theorem dX3_noticeFailures_57 : decode cX3_noticeFailures 57 = .ok (.iconst 1, 1) := by decide +kernel
theorem dX3_noticeFailures_58 : decode cX3_noticeFailures 58 = .ok (.invokevirtual 106, 3) := by decide +kernel
theorem dX3_noticeFailures_61 : decode cX3_noticeFailures 61 = .ok (.iinc 1 1, 3) := by decide +kernel
theorem dX3_noticeFailures_64 : decode cX3_noticeFailures 64 = .ok (.goto (-62), 3) := by decide +kernel
theorem dX3_noticeFailures_67 : decode cX3_noticeFailures 67 = .ok (.return_, 1) := by decide +kernel
theorem dX3_quietTicks_0 : decode cX3_quietTicks 0 = .ok (.sipush 200, 3) := by decide +kernel
theorem dX3_quietTicks_3 : decode cX3_quietTicks 3 = .ok (.istore_n 1, 1) := by decide +kernel
theorem dX3_quietTicks_4 : decode cX3_quietTicks 4 = .ok (.iconst 0, 1) := by decide +kernel
theorem dX3_quietTicks_5 : decode cX3_quietTicks 5 = .ok (.istore_n 2, 1) := by decide +kernel
theorem dX3_quietTicks_6 : decode cX3_quietTicks 6 = .ok (.iload_n 2, 1) := by decide +kernel
theorem dX3_quietTicks_7 : decode cX3_quietTicks 7 = .ok (.bipush 32, 2) := by decide +kernel
theorem dX3_quietTicks_9 : decode cX3_quietTicks 9 = .ok (.if_icmp .ge 43, 3) := by decide +kernel
theorem dX3_quietTicks_12 : decode cX3_quietTicks 12 = .ok (.aload_n 0, 1) := by decide +kernel
theorem dX3_quietTicks_13 : decode cX3_quietTicks 13 = .ok (.iload_n 2, 1) := by decide +kernel
theorem dX3_quietTicks_14 : decode cX3_quietTicks 14 = .ok (.invokevirtual 73, 3) := by decide +kernel
theorem dX3_quietTicks_17 : decode cX3_quietTicks 17 = .ok (.ifCond .eq 29, 3) := by decide +kernel
theorem dX3_quietTicks_20 : decode cX3_quietTicks 20 = .ok (.iload_n 1, 1) := by decide +kernel
theorem dX3_quietTicks_21 : decode cX3_quietTicks 21 = .ok (.aload_n 0, 1) := by decide +kernel
theorem dX3_quietTicks_22 : decode cX3_quietTicks 22 = .ok (.getfield 20, 3) := by decide +kernel
theorem dX3_quietTicks_25 : decode cX3_quietTicks 25 = .ok (.iload_n 2, 1) := by decide +kernel
theorem dX3_quietTicks_26 : decode cX3_quietTicks 26 = .ok (.iconst 4, 1) := by decide +kernel
theorem dX3_quietTicks_27 : decode cX3_quietTicks 27 = .ok (.invokevirtual 64, 3) := by decide +kernel
theorem dX3_quietTicks_30 : decode cX3_quietTicks 30 = .ok (.aload_n 0, 1) := by decide +kernel
theorem dX3_quietTicks_31 : decode cX3_quietTicks 31 = .ok (.getfield 20, 3) := by decide +kernel
theorem dX3_quietTicks_34 : decode cX3_quietTicks 34 = .ok (.bipush 8, 2) := by decide +kernel
theorem dX3_quietTicks_36 : decode cX3_quietTicks 36 = .ok (.invokevirtual 78, 3) := by decide +kernel
theorem dX3_quietTicks_39 : decode cX3_quietTicks 39 = .ok (.isub, 1) := by decide +kernel
theorem dX3_quietTicks_40 : decode cX3_quietTicks 40 = .ok (.iconst 1, 1) := by decide +kernel
theorem dX3_quietTicks_41 : decode cX3_quietTicks 41 = .ok (.isub, 1) := by decide +kernel
theorem dX3_quietTicks_42 : decode cX3_quietTicks 42 = .ok (.invokestatic 116, 3) := by decide +kernel
theorem dX3_quietTicks_45 : decode cX3_quietTicks 45 = .ok (.istore_n 1, 1) := by decide +kernel
theorem dX3_quietTicks_46 : decode cX3_quietTicks 46 = .ok (.iinc 2 1, 3) := by decide +kernel
theorem dX3_quietTicks_49 : decode cX3_quietTicks 49 = .ok (.goto (-43), 3) := by decide +kernel
theorem dX3_quietTicks_52 : decode cX3_quietTicks 52 = .ok (.iload_n 1, 1) := by decide +kernel
theorem dX3_quietTicks_53 : decode cX3_quietTicks 53 = .ok (.ireturn, 1) := by decide +kernel
theorem dX3_sendBlocks_0 : decode cX3_sendBlocks 0 = .ok (.iconst 0, 1) := by decide +kernel
theorem dX3_sendBlocks_1 : decode cX3_sendBlocks 1 = .ok (.istore_n 2, 1) := by decide +kernel
theorem dX3_sendBlocks_2 : decode cX3_sendBlocks 2 = .ok (.aload_n 0, 1) := by decide +kernel
theorem dX3_sendBlocks_3 : decode cX3_sendBlocks 3 = .ok (.getfield 20, 3) := by decide +kernel
theorem dX3_sendBlocks_6 : decode cX3_sendBlocks 6 = .ok (.iconst 1, 1) := by decide +kernel
theorem dX3_sendBlocks_7 : decode cX3_sendBlocks 7 = .ok (.iload_n 1, 1) := by decide +kernel
theorem dX3_sendBlocks_8 : decode cX3_sendBlocks 8 = .ok (.invokevirtual 106, 3) := by decide +kernel
theorem dX3_sendBlocks_11 : decode cX3_sendBlocks 11 = .ok (.iconst 0, 1) := by decide +kernel
theorem dX3_sendBlocks_12 : decode cX3_sendBlocks 12 = .ok (.istore_n 3, 1) := by decide +kernel
theorem dX3_sendBlocks_13 : decode cX3_sendBlocks 13 = .ok (.iload_n 3, 1) := by decide +kernel
theorem dX3_sendBlocks_14 : decode cX3_sendBlocks 14 = .ok (.bipush 32, 2) := by decide +kernel
theorem dX3_sendBlocks_16 : decode cX3_sendBlocks 16 = .ok (.if_icmp .ge 26, 3) := by decide +kernel
theorem dX3_sendBlocks_19 : decode cX3_sendBlocks 19 = .ok (.aload_n 0, 1) := by decide +kernel
theorem dX3_sendBlocks_20 : decode cX3_sendBlocks 20 = .ok (.iload_n 3, 1) := by decide +kernel
theorem dX3_sendBlocks_21 : decode cX3_sendBlocks 21 = .ok (.invokevirtual 36, 3) := by decide +kernel
theorem dX3_sendBlocks_24 : decode cX3_sendBlocks 24 = .ok (.ifCond .eq 12, 3) := by decide +kernel
theorem dX3_sendBlocks_27 : decode cX3_sendBlocks 27 = .ok (.iload_n 2, 1) := by decide +kernel
theorem dX3_sendBlocks_28 : decode cX3_sendBlocks 28 = .ok (.aload_n 0, 1) := by decide +kernel
theorem dX3_sendBlocks_29 : decode cX3_sendBlocks 29 = .ok (.iload_n 3, 1) := by decide +kernel
theorem dX3_sendBlocks_30 : decode cX3_sendBlocks 30 = .ok (.iload_n 1, 1) := by decide +kernel
theorem dX3_sendBlocks_31 : decode cX3_sendBlocks 31 = .ok (.invokevirtual 208, 3) := by decide +kernel
theorem dX3_sendBlocks_34 : decode cX3_sendBlocks 34 = .ok (.iadd, 1) := by decide +kernel
theorem dX3_sendBlocks_35 : decode cX3_sendBlocks 35 = .ok (.istore_n 2, 1) := by decide +kernel
theorem dX3_sendBlocks_36 : decode cX3_sendBlocks 36 = .ok (.iinc 3 1, 3) := by decide +kernel
theorem dX3_sendBlocks_39 : decode cX3_sendBlocks 39 = .ok (.goto (-26), 3) := by decide +kernel
theorem dX3_sendBlocks_42 : decode cX3_sendBlocks 42 = .ok (.iload_n 2, 1) := by decide +kernel
theorem dX3_sendBlocks_43 : decode cX3_sendBlocks 43 = .ok (.ireturn, 1) := by decide +kernel
theorem dX3_receiveBlocks_0 : decode cX3_receiveBlocks 0 = .ok (.aload_n 0, 1) := by decide +kernel
theorem dX3_receiveBlocks_1 : decode cX3_receiveBlocks 1 = .ok (.getfield 10, 3) := by decide +kernel
theorem dX3_receiveBlocks_4 : decode cX3_receiveBlocks 4 = .ok (.iload_n 1, 1) := by decide +kernel
theorem dX3_receiveBlocks_5 : decode cX3_receiveBlocks 5 = .ok (.invokevirtual 164, 3) := by decide +kernel
theorem dX3_receiveBlocks_8 : decode cX3_receiveBlocks 8 = .ok (.istore_n 3, 1) := by decide +kernel
theorem dX3_receiveBlocks_9 : decode cX3_receiveBlocks 9 = .ok (.aload_n 0, 1) := by decide +kernel
theorem dX3_receiveBlocks_10 : decode cX3_receiveBlocks 10 = .ok (.getfield 20, 3) := by decide +kernel
theorem dX3_receiveBlocks_13 : decode cX3_receiveBlocks 13 = .ok (.iload_n 1, 1) := by decide +kernel
theorem dX3_receiveBlocks_14 : decode cX3_receiveBlocks 14 = .ok (.bipush 7, 2) := by decide +kernel
theorem dX3_receiveBlocks_16 : decode cX3_receiveBlocks 16 = .ok (.iload_n 3, 1) := by decide +kernel
theorem dX3_receiveBlocks_17 : decode cX3_receiveBlocks 17 = .ok (.iload_n 2, 1) := by decide +kernel
theorem dX3_receiveBlocks_18 : decode cX3_receiveBlocks 18 = .ok (.imul, 1) := by decide +kernel
theorem dX3_receiveBlocks_19 : decode cX3_receiveBlocks 19 = .ok (.invokevirtual 211, 3) := by decide +kernel
theorem dX3_receiveBlocks_22 : decode cX3_receiveBlocks 22 = .ok (.aload_n 0, 1) := by decide +kernel
theorem dX3_receiveBlocks_23 : decode cX3_receiveBlocks 23 = .ok (.getfield 20, 3) := by decide +kernel
theorem dX3_receiveBlocks_26 : decode cX3_receiveBlocks 26 = .ok (.iconst 2, 1) := by decide +kernel
theorem dX3_receiveBlocks_27 : decode cX3_receiveBlocks 27 = .ok (.iload_n 3, 1) := by decide +kernel
theorem dX3_receiveBlocks_28 : decode cX3_receiveBlocks 28 = .ok (.iload_n 2, 1) := by decide +kernel
theorem dX3_receiveBlocks_29 : decode cX3_receiveBlocks 29 = .ok (.imul, 1) := by decide +kernel
theorem dX3_receiveBlocks_30 : decode cX3_receiveBlocks 30 = .ok (.invokevirtual 106, 3) := by decide +kernel
theorem dX3_receiveBlocks_33 : decode cX3_receiveBlocks 33 = .ok (.iload_n 3, 1) := by decide +kernel
theorem dX3_receiveBlocks_34 : decode cX3_receiveBlocks 34 = .ok (.iconst 3, 1) := by decide +kernel
theorem dX3_receiveBlocks_35 : decode cX3_receiveBlocks 35 = .ok (.if_icmp .lt 25, 3) := by decide +kernel
theorem dX3_receiveBlocks_38 : decode cX3_receiveBlocks 38 = .ok (.aload_n 0, 1) := by decide +kernel
theorem dX3_receiveBlocks_39 : decode cX3_receiveBlocks 39 = .ok (.getfield 20, 3) := by decide +kernel
theorem dX3_receiveBlocks_42 : decode cX3_receiveBlocks 42 = .ok (.iload_n 1, 1) := by decide +kernel
theorem dX3_receiveBlocks_43 : decode cX3_receiveBlocks 43 = .ok (.bipush 8, 2) := by decide +kernel
theorem dX3_receiveBlocks_45 : decode cX3_receiveBlocks 45 = .ok (.iload_n 2, 1) := by decide +kernel
theorem dX3_receiveBlocks_46 : decode cX3_receiveBlocks 46 = .ok (.invokevirtual 211, 3) := by decide +kernel
theorem dX3_receiveBlocks_49 : decode cX3_receiveBlocks 49 = .ok (.aload_n 0, 1) := by decide +kernel
theorem dX3_receiveBlocks_50 : decode cX3_receiveBlocks 50 = .ok (.getfield 20, 3) := by decide +kernel
theorem dX3_receiveBlocks_53 : decode cX3_receiveBlocks 53 = .ok (.iconst 3, 1) := by decide +kernel
theorem dX3_receiveBlocks_54 : decode cX3_receiveBlocks 54 = .ok (.iload_n 2, 1) := by decide +kernel
theorem dX3_receiveBlocks_55 : decode cX3_receiveBlocks 55 = .ok (.invokevirtual 106, 3) := by decide +kernel
theorem dX3_receiveBlocks_58 : decode cX3_receiveBlocks 58 = .ok (.iconst 0, 1) := by decide +kernel
theorem dX3_receiveBlocks_59 : decode cX3_receiveBlocks 59 = .ok (.ireturn, 1) := by decide +kernel
theorem dX3_receiveBlocks_60 : decode cX3_receiveBlocks 60 = .ok (.aload_n 0, 1) := by decide +kernel
theorem dX3_receiveBlocks_61 : decode cX3_receiveBlocks 61 = .ok (.iload_n 1, 1) := by decide +kernel
theorem dX3_receiveBlocks_62 : decode cX3_receiveBlocks 62 = .ok (.invokevirtual 73, 3) := by decide +kernel
theorem dX3_receiveBlocks_65 : decode cX3_receiveBlocks 65 = .ok (.ifCond .eq 5, 3) := by decide +kernel
theorem dX3_receiveBlocks_68 : decode cX3_receiveBlocks 68 = .ok (.iconst 0, 1) := by decide +kernel
theorem dX3_receiveBlocks_69 : decode cX3_receiveBlocks 69 = .ok (.ireturn, 1) := by decide +kernel
theorem dX3_receiveBlocks_70 : decode cX3_receiveBlocks 70 = .ok (.aload_n 0, 1) := by decide +kernel
theorem dX3_receiveBlocks_71 : decode cX3_receiveBlocks 71 = .ok (.getfield 20, 3) := by decide +kernel
theorem dX3_receiveBlocks_74 : decode cX3_receiveBlocks 74 = .ok (.iload_n 1, 1) := by decide +kernel
theorem dX3_receiveBlocks_75 : decode cX3_receiveBlocks 75 = .ok (.bipush 9, 2) := by decide +kernel
theorem dX3_receiveBlocks_77 : decode cX3_receiveBlocks 77 = .ok (.iload_n 2, 1) := by decide +kernel
theorem dX3_receiveBlocks_78 : decode cX3_receiveBlocks 78 = .ok (.invokevirtual 211, 3) := by decide +kernel
theorem dX3_receiveBlocks_81 : decode cX3_receiveBlocks 81 = .ok (.aload_n 0, 1) := by decide +kernel
theorem dX3_receiveBlocks_82 : decode cX3_receiveBlocks 82 = .ok (.getfield 20, 3) := by decide +kernel
theorem dX3_receiveBlocks_85 : decode cX3_receiveBlocks 85 = .ok (.iconst 4, 1) := by decide +kernel
theorem dX3_receiveBlocks_86 : decode cX3_receiveBlocks 86 = .ok (.iload_n 2, 1) := by decide +kernel
theorem dX3_receiveBlocks_87 : decode cX3_receiveBlocks 87 = .ok (.invokevirtual 106, 3) := by decide +kernel
theorem dX3_receiveBlocks_90 : decode cX3_receiveBlocks 90 = .ok (.iload_n 2, 1) := by decide +kernel
theorem dX3_receiveBlocks_91 : decode cX3_receiveBlocks 91 = .ok (.ireturn, 1) := by decide +kernel
theorem dX3_requireMember_0 : decode cX3_requireMember 0 = .ok (.iload_n 0, 1) := by decide +kernel
theorem dX3_requireMember_1 : decode cX3_requireMember 1 = .ok (.ifCond .lt 9, 3) := by decide +kernel
theorem dX3_requireMember_4 : decode cX3_requireMember 4 = .ok (.iload_n 0, 1) := by decide +kernel
theorem dX3_requireMember_5 : decode cX3_requireMember 5 = .ok (.bipush 32, 2) := by decide +kernel
theorem dX3_requireMember_7 : decode cX3_requireMember 7 = .ok (.if_icmp .lt 13, 3) := by decide +kernel
theorem dX3_requireMember_10 : decode cX3_requireMember 10 = .ok (.new 214, 3) := by decide +kernel
theorem dX3_requireMember_13 : decode cX3_requireMember 13 = .ok (.dup, 1) := by decide +kernel
theorem dX3_requireMember_14 : decode cX3_requireMember 14 = .ok (.ldc 216, 2) := by decide +kernel
theorem dX3_requireMember_16 : decode cX3_requireMember 16 = .ok (.invokespecial 218, 3) := by decide +kernel
theorem dX3_requireMember_19 : decode cX3_requireMember 19 = .ok (.athrow, 1) := by decide +kernel
theorem dX3_requireMember_20 : decode cX3_requireMember 20 = .ok (.return_, 1) := by decide +kernel
theorem dX3_requirePlace_0 : decode cX3_requirePlace 0 = .ok (.iload_n 0, 1) := by decide +kernel
theorem dX3_requirePlace_1 : decode cX3_requirePlace 1 = .ok (.bipush 100, 2) := by decide +kernel
theorem dX3_requirePlace_3 : decode cX3_requirePlace 3 = .ok (.if_icmp .eq 7, 3) := by decide +kernel
theorem dX3_requirePlace_6 : decode cX3_requirePlace 6 = .ok (.iload_n 0, 1) := by decide +kernel
theorem dX3_requirePlace_7 : decode cX3_requirePlace 7 = .ok (.invokestatic 28, 3) := by decide +kernel
theorem dX3_requirePlace_10 : decode cX3_requirePlace 10 = .ok (.return_, 1) := by decide +kernel
theorem dX3_requireStripe_0 : decode cX3_requireStripe 0 = .ok (.iload_n 0, 1) := by decide +kernel
theorem dX3_requireStripe_1 : decode cX3_requireStripe 1 = .ok (.ifCond .lt 8, 3) := by decide +kernel
theorem dX3_requireStripe_4 : decode cX3_requireStripe 4 = .ok (.iload_n 0, 1) := by decide +kernel
theorem dX3_requireStripe_5 : decode cX3_requireStripe 5 = .ok (.iconst 4, 1) := by decide +kernel
theorem dX3_requireStripe_6 : decode cX3_requireStripe 6 = .ok (.if_icmp .lt 13, 3) := by decide +kernel
theorem dX3_requireStripe_9 : decode cX3_requireStripe 9 = .ok (.new 214, 3) := by decide +kernel
theorem dX3_requireStripe_12 : decode cX3_requireStripe 12 = .ok (.dup, 1) := by decide +kernel
theorem dX3_requireStripe_13 : decode cX3_requireStripe 13 = .ok (.ldc 219, 2) := by decide +kernel
theorem dX3_requireStripe_15 : decode cX3_requireStripe 15 = .ok (.invokespecial 218, 3) := by decide +kernel
theorem dX3_requireStripe_18 : decode cX3_requireStripe 18 = .ok (.athrow, 1) := by decide +kernel
theorem dX3_requireStripe_19 : decode cX3_requireStripe 19 = .ok (.return_, 1) := by decide +kernel
theorem dX3_requireRange_0 : decode cX3_requireRange 0 = .ok (.iload_n 0, 1) := by decide +kernel
theorem dX3_requireRange_1 : decode cX3_requireRange 1 = .ok (.iload_n 1, 1) := by decide +kernel
theorem dX3_requireRange_2 : decode cX3_requireRange 2 = .ok (.if_icmp .lt 8, 3) := by decide +kernel
theorem dX3_requireRange_5 : decode cX3_requireRange 5 = .ok (.iload_n 0, 1) := by decide +kernel
theorem dX3_requireRange_6 : decode cX3_requireRange 6 = .ok (.iload_n 2, 1) := by decide +kernel
theorem dX3_requireRange_7 : decode cX3_requireRange 7 = .ok (.if_icmp .le 13, 3) := by decide +kernel
theorem dX3_requireRange_10 : decode cX3_requireRange 10 = .ok (.new 133, 3) := by decide +kernel
theorem dX3_requireRange_13 : decode cX3_requireRange 13 = .ok (.dup, 1) := by decide +kernel
theorem dX3_requireRange_14 : decode cX3_requireRange 14 = .ok (.ldc 221, 2) := by decide +kernel
theorem dX3_requireRange_16 : decode cX3_requireRange 16 = .ok (.invokespecial 137, 3) := by decide +kernel
theorem dX3_requireRange_19 : decode cX3_requireRange 19 = .ok (.athrow, 1) := by decide +kernel
theorem dX3_requireRange_20 : decode cX3_requireRange 20 = .ok (.return_, 1) := by decide +kernel
theorem dX3_requireJoined_0 : decode cX3_requireJoined 0 = .ok (.aload_n 0, 1) := by decide +kernel
theorem dX3_requireJoined_1 : decode cX3_requireJoined 1 = .ok (.iload_n 1, 1) := by decide +kernel
theorem dX3_requireJoined_2 : decode cX3_requireJoined 2 = .ok (.invokevirtual 36, 3) := by decide +kernel
theorem dX3_requireJoined_5 : decode cX3_requireJoined 5 = .ok (.ifCond .ne 13, 3) := by decide +kernel
theorem dX3_requireJoined_8 : decode cX3_requireJoined 8 = .ok (.new 40, 3) := by decide +kernel
theorem dX3_requireJoined_11 : decode cX3_requireJoined 11 = .ok (.dup, 1) := by decide +kernel
theorem dX3_requireJoined_12 : decode cX3_requireJoined 12 = .ok (.ldc 223, 2) := by decide +kernel
theorem dX3_requireJoined_14 : decode cX3_requireJoined 14 = .ok (.invokespecial 44, 3) := by decide +kernel
theorem dX3_requireJoined_17 : decode cX3_requireJoined 17 = .ok (.athrow, 1) := by decide +kernel
theorem dX3_requireJoined_18 : decode cX3_requireJoined 18 = .ok (.return_, 1) := by decide +kernel
theorem dX3_requireJoinedPlace_0 : decode cX3_requireJoinedPlace 0 = .ok (.iload_n 1, 1) := by decide +kernel
theorem dX3_requireJoinedPlace_1 : decode cX3_requireJoinedPlace 1 = .ok (.bipush 100, 2) := by decide +kernel
theorem dX3_requireJoinedPlace_3 : decode cX3_requireJoinedPlace 3 = .ok (.if_icmp .eq 8, 3) := by decide +kernel
theorem dX3_requireJoinedPlace_6 : decode cX3_requireJoinedPlace 6 = .ok (.aload_n 0, 1) := by decide +kernel
theorem dX3_requireJoinedPlace_7 : decode cX3_requireJoinedPlace 7 = .ok (.iload_n 1, 1) := by decide +kernel
theorem dX3_requireJoinedPlace_8 : decode cX3_requireJoinedPlace 8 = .ok (.invokevirtual 61, 3) := by decide +kernel
theorem dX3_requireJoinedPlace_11 : decode cX3_requireJoinedPlace 11 = .ok (.return_, 1) := by decide +kernel
theorem dX4_init_0 : decode cX4_init 0 = .ok (.aload_n 0, 1) := by decide +kernel
theorem dX4_init_1 : decode cX4_init 1 = .ok (.invokespecial 1, 3) := by decide +kernel
theorem dX4_init_4 : decode cX4_init 4 = .ok (.aload_n 0, 1) := by decide +kernel
theorem dX4_init_5 : decode cX4_init 5 = .ok (.sipush 395, 3) := by decide +kernel
theorem dX4_init_8 : decode cX4_init 8 = .ok (.newarray .int, 2) := by decide +kernel
theorem dX4_init_10 : decode cX4_init 10 = .ok (.putfield 7, 3) := by decide +kernel
theorem dX4_init_13 : decode cX4_init 13 = .ok (.aload_n 0, 1) := by decide +kernel
theorem dX4_init_14 : decode cX4_init 14 = .ok (.sipush 1580, 3) := by decide +kernel
theorem dX4_init_17 : decode cX4_init 17 = .ok (.newarray .int, 2) := by decide +kernel
theorem dX4_init_19 : decode cX4_init 19 = .ok (.putfield 13, 3) := by decide +kernel
theorem dX4_init_22 : decode cX4_init 22 = .ok (.aload_n 0, 1) := by decide +kernel
theorem dX4_init_23 : decode cX4_init 23 = .ok (.getfield 7, 3) := by decide +kernel
theorem dX4_init_26 : decode cX4_init 26 = .ok (.iconst 0, 1) := by decide +kernel
theorem dX4_init_27 : decode cX4_init 27 = .ok (.iconst 2, 1) := by decide +kernel
theorem dX4_init_28 : decode cX4_init 28 = .ok (.iastore, 1) := by decide +kernel
theorem dX4_init_29 : decode cX4_init 29 = .ok (.aload_n 0, 1) := by decide +kernel
theorem dX4_init_30 : decode cX4_init 30 = .ok (.getfield 7, 3) := by decide +kernel
theorem dX4_init_33 : decode cX4_init 33 = .ok (.iconst 1, 1) := by decide +kernel
theorem dX4_init_34 : decode cX4_init 34 = .ok (.iconst 3, 1) := by decide +kernel
theorem dX4_init_35 : decode cX4_init 35 = .ok (.iastore, 1) := by decide +kernel
theorem dX4_init_36 : decode cX4_init 36 = .ok (.return_, 1) := by decide +kernel
theorem dX4_thrown_0 : decode cX4_thrown 0 = .ok (.aload_n 0, 1) := by decide +kernel
theorem dX4_thrown_1 : decode cX4_thrown 1 = .ok (.getfield 16, 3) := by decide +kernel
theorem dX4_thrown_4 : decode cX4_thrown 4 = .ok (.ireturn, 1) := by decide +kernel
theorem dX4_in_0 : decode cX4_in 0 = .ok (.iload_n 0, 1) := by decide +kernel
theorem dX4_in_1 : decode cX4_in 1 = .ok (.iload_n 1, 1) := by decide +kernel
theorem dX4_in_2 : decode cX4_in 2 = .ok (.if_icmp .lt 12, 3) := by decide +kernel
theorem dX4_in_5 : decode cX4_in 5 = .ok (.iload_n 0, 1) := by decide +kernel
theorem dX4_in_6 : decode cX4_in 6 = .ok (.iload_n 2, 1) := by decide +kernel
theorem dX4_in_7 : decode cX4_in 7 = .ok (.if_icmp .gt 7, 3) := by decide +kernel
theorem dX4_in_10 : decode cX4_in 10 = .ok (.iconst 1, 1) := by decide +kernel
theorem dX4_in_11 : decode cX4_in 11 = .ok (.goto 4, 3) := by decide +kernel
theorem dX4_in_14 : decode cX4_in 14 = .ok (.iconst 0, 1) := by decide +kernel
theorem dX4_in_15 : decode cX4_in 15 = .ok (.ireturn, 1) := by decide +kernel
theorem dX4_keep_0 : decode cX4_keep 0 = .ok (.aload_n 0, 1) := by decide +kernel
theorem dX4_keep_1 : decode cX4_keep 1 = .ok (.getfield 20, 3) := by decide +kernel
theorem dX4_keep_4 : decode cX4_keep 4 = .ok (.iconst 4, 1) := by decide +kernel
theorem dX4_keep_5 : decode cX4_keep 5 = .ok (.if_icmp .ne 44, 3) := by decide +kernel
theorem dX4_keep_8 : decode cX4_keep 8 = .ok (.iconst 0, 1) := by decide +kernel
theorem dX4_keep_9 : decode cX4_keep 9 = .ok (.istore_n 1, 1) := by decide +kernel
theorem dX4_keep_10 : decode cX4_keep 10 = .ok (.iload_n 1, 1) := by decide +kernel
theorem dX4_keep_11 : decode cX4_keep 11 = .ok (.sipush 1185, 3) := by decide +kernel
theorem dX4_keep_14 : decode cX4_keep 14 = .ok (.if_icmp .ge 25, 3) := by decide +kernel
theorem dX4_keep_17 : decode cX4_keep 17 = .ok (.aload_n 0, 1) := by decide +kernel
theorem dX4_keep_18 : decode cX4_keep 18 = .ok (.getfield 13, 3) := by decide +kernel
theorem dX4_keep_21 : decode cX4_keep 21 = .ok (.iload_n 1, 1) := by decide +kernel
theorem dX4_keep_22 : decode cX4_keep 22 = .ok (.aload_n 0, 1) := by decide +kernel
theorem dX4_keep_23 : decode cX4_keep 23 = .ok (.getfield 13, 3) := by decide +kernel
theorem dX4_keep_26 : decode cX4_keep 26 = .ok (.iload_n 1, 1) := by decide +kernel
theorem dX4_keep_27 : decode cX4_keep 27 = .ok (.sipush 395, 3) := by decide +kernel
theorem dX4_keep_30 : decode cX4_keep 30 = .ok (.iadd, 1) := by decide +kernel
theorem dX4_keep_31 : decode cX4_keep 31 = .ok (.iaload, 1) := by decide +kernel
theorem dX4_keep_32 : decode cX4_keep 32 = .ok (.iastore, 1) := by decide +kernel
theorem dX4_keep_33 : decode cX4_keep 33 = .ok (.iinc 1 1, 3) := by decide +kernel
theorem dX4_keep_36 : decode cX4_keep 36 = .ok (.goto (-26), 3) := by decide +kernel
theorem dX4_keep_39 : decode cX4_keep 39 = .ok (.aload_n 0, 1) := by decide +kernel
theorem dX4_keep_40 : decode cX4_keep 40 = .ok (.dup, 1) := by decide +kernel
theorem dX4_keep_41 : decode cX4_keep 41 = .ok (.getfield 20, 3) := by decide +kernel
theorem dX4_keep_44 : decode cX4_keep 44 = .ok (.iconst 1, 1) := by decide +kernel
theorem dX4_keep_45 : decode cX4_keep 45 = .ok (.isub, 1) := by decide +kernel
theorem dX4_keep_46 : decode cX4_keep 46 = .ok (.putfield 20, 3) := by decide +kernel
theorem dX4_keep_49 : decode cX4_keep 49 = .ok (.iconst 0, 1) := by decide +kernel
theorem dX4_keep_50 : decode cX4_keep 50 = .ok (.istore_n 1, 1) := by decide +kernel
theorem dX4_keep_51 : decode cX4_keep 51 = .ok (.iload_n 1, 1) := by decide +kernel
theorem dX4_keep_52 : decode cX4_keep 52 = .ok (.sipush 395, 3) := by decide +kernel
theorem dX4_keep_55 : decode cX4_keep 55 = .ok (.if_icmp .ge 30, 3) := by decide +kernel
theorem dX4_keep_58 : decode cX4_keep 58 = .ok (.aload_n 0, 1) := by decide +kernel
theorem dX4_keep_59 : decode cX4_keep 59 = .ok (.getfield 13, 3) := by decide +kernel
theorem dX4_keep_62 : decode cX4_keep 62 = .ok (.sipush 395, 3) := by decide +kernel
theorem dX4_keep_65 : decode cX4_keep 65 = .ok (.aload_n 0, 1) := by decide +kernel
theorem dX4_keep_66 : decode cX4_keep 66 = .ok (.getfield 20, 3) := by decide +kernel
theorem dX4_keep_69 : decode cX4_keep 69 = .ok (.imul, 1) := by decide +kernel
theorem dX4_keep_70 : decode cX4_keep 70 = .ok (.iload_n 1, 1) := by decide +kernel
theorem dX4_keep_71 : decode cX4_keep 71 = .ok (.iadd, 1) := by decide +kernel
theorem dX4_keep_72 : decode cX4_keep 72 = .ok (.aload_n 0, 1) := by decide +kernel
theorem dX4_keep_73 : decode cX4_keep 73 = .ok (.getfield 7, 3) := by decide +kernel
theorem dX4_keep_76 : decode cX4_keep 76 = .ok (.iload_n 1, 1) := by decide +kernel
theorem dX4_keep_77 : decode cX4_keep 77 = .ok (.iaload, 1) := by decide +kernel
theorem dX4_keep_78 : decode cX4_keep 78 = .ok (.iastore, 1) := by decide +kernel
theorem dX4_keep_79 : decode cX4_keep 79 = .ok (.iinc 1 1, 3) := by decide +kernel
theorem dX4_keep_82 : decode cX4_keep 82 = .ok (.goto (-31), 3) := by decide +kernel
theorem dX4_keep_85 : decode cX4_keep 85 = .ok (.aload_n 0, 1) := by decide +kernel
theorem dX4_keep_86 : decode cX4_keep 86 = .ok (.dup, 1) := by decide +kernel
theorem dX4_keep_87 : decode cX4_keep 87 = .ok (.getfield 20, 3) := by decide +kernel
theorem dX4_keep_90 : decode cX4_keep 90 = .ok (.iconst 1, 1) := by decide +kernel
theorem dX4_keep_91 : decode cX4_keep 91 = .ok (.iadd, 1) := by decide +kernel
theorem dX4_keep_92 : decode cX4_keep 92 = .ok (.putfield 20, 3) := by decide +kernel
theorem dX4_keep_95 : decode cX4_keep 95 = .ok (.return_, 1) := by decide +kernel
theorem dX4_isMember_0 : decode cX4_isMember 0 = .ok (.iload_n 0, 1) := by decide +kernel
theorem dX4_isMember_1 : decode cX4_isMember 1 = .ok (.iconst 0, 1) := by decide +kernel
theorem dX4_isMember_2 : decode cX4_isMember 2 = .ok (.bipush 31, 2) := by decide +kernel
theorem dX4_isMember_4 : decode cX4_isMember 4 = .ok (.invokestatic 23, 3) := by decide +kernel
theorem dX4_isMember_7 : decode cX4_isMember 7 = .ok (.ireturn, 1) := by decide +kernel
theorem dX4_isStripe_0 : decode cX4_isStripe 0 = .ok (.iload_n 0, 1) := by decide +kernel
theorem dX4_isStripe_1 : decode cX4_isStripe 1 = .ok (.iconst 0, 1) := by decide +kernel
theorem dX4_isStripe_2 : decode cX4_isStripe 2 = .ok (.iconst 3, 1) := by decide +kernel
theorem dX4_isStripe_3 : decode cX4_isStripe 3 = .ok (.invokestatic 23, 3) := by decide +kernel
theorem dX4_isStripe_6 : decode cX4_isStripe 6 = .ok (.ireturn, 1) := by decide +kernel
theorem dX4_of_0 : decode cX4_of 0 = .ok (.aload_n 0, 1) := by decide +kernel
theorem dX4_of_1 : decode cX4_of 1 = .ok (.getfield 7, 3) := by decide +kernel
theorem dX4_of_4 : decode cX4_of 4 = .ok (.bipush 11, 2) := by decide +kernel
theorem dX4_of_6 : decode cX4_of 6 = .ok (.bipush 12, 2) := by decide +kernel
theorem dX4_of_8 : decode cX4_of 8 = .ok (.iload_n 1, 1) := by decide +kernel
theorem dX4_of_9 : decode cX4_of 9 = .ok (.imul, 1) := by decide +kernel
theorem dX4_of_10 : decode cX4_of 10 = .ok (.iadd, 1) := by decide +kernel
theorem dX4_of_11 : decode cX4_of 11 = .ok (.iload_n 2, 1) := by decide +kernel
theorem dX4_of_12 : decode cX4_of 12 = .ok (.iadd, 1) := by decide +kernel
theorem dX4_of_13 : decode cX4_of 13 = .ok (.iaload, 1) := by decide +kernel
theorem dX4_of_14 : decode cX4_of 14 = .ok (.ireturn, 1) := by decide +kernel
theorem dX4_put_0 : decode cX4_put 0 = .ok (.aload_n 0, 1) := by decide +kernel
theorem dX4_put_1 : decode cX4_put 1 = .ok (.getfield 7, 3) := by decide +kernel
theorem dX4_put_4 : decode cX4_put 4 = .ok (.bipush 11, 2) := by decide +kernel
theorem dX4_put_6 : decode cX4_put 6 = .ok (.bipush 12, 2) := by decide +kernel
theorem dX4_put_8 : decode cX4_put 8 = .ok (.iload_n 1, 1) := by decide +kernel
theorem dX4_put_9 : decode cX4_put 9 = .ok (.imul, 1) := by decide +kernel
theorem dX4_put_10 : decode cX4_put 10 = .ok (.iadd, 1) := by decide +kernel
theorem dX4_put_11 : decode cX4_put 11 = .ok (.iload_n 2, 1) := by decide +kernel
theorem dX4_put_12 : decode cX4_put 12 = .ok (.iadd, 1) := by decide +kernel
theorem dX4_put_13 : decode cX4_put 13 = .ok (.iload_n 3, 1) := by decide +kernel
theorem dX4_put_14 : decode cX4_put 14 = .ok (.iastore, 1) := by decide +kernel
theorem dX4_put_15 : decode cX4_put 15 = .ok (.return_, 1) := by decide +kernel
theorem dX4_isJoined_0 : decode cX4_isJoined 0 = .ok (.aload_n 0, 1) := by decide +kernel
theorem dX4_isJoined_1 : decode cX4_isJoined 1 = .ok (.iload_n 1, 1) := by decide +kernel
theorem dX4_isJoined_2 : decode cX4_isJoined 2 = .ok (.iconst 0, 1) := by decide +kernel
theorem dX4_isJoined_3 : decode cX4_isJoined 3 = .ok (.invokevirtual 27, 3) := by decide +kernel
theorem dX4_isJoined_6 : decode cX4_isJoined 6 = .ok (.iconst 1, 1) := by decide +kernel
theorem dX4_isJoined_7 : decode cX4_isJoined 7 = .ok (.if_icmp .ne 7, 3) := by decide +kernel
theorem dX4_isJoined_10 : decode cX4_isJoined 10 = .ok (.iconst 1, 1) := by decide +kernel
theorem dX4_isJoined_11 : decode cX4_isJoined 11 = .ok (.goto 4, 3) := by decide +kernel
theorem dX4_isJoined_14 : decode cX4_isJoined 14 = .ok (.iconst 0, 1) := by decide +kernel
theorem dX4_isJoined_15 : decode cX4_isJoined 15 = .ok (.ireturn, 1) := by decide +kernel
theorem dX4_isChild_0 : decode cX4_isChild 0 = .ok (.aload_n 0, 1) := by decide +kernel
theorem dX4_isChild_1 : decode cX4_isChild 1 = .ok (.iload_n 1, 1) := by decide +kernel
theorem dX4_isChild_2 : decode cX4_isChild 2 = .ok (.invokevirtual 31, 3) := by decide +kernel
theorem dX4_isChild_5 : decode cX4_isChild 5 = .ok (.ifCond .eq 20, 3) := by decide +kernel
theorem dX4_isChild_8 : decode cX4_isChild 8 = .ok (.aload_n 0, 1) := by decide +kernel
theorem dX4_isChild_9 : decode cX4_isChild 9 = .ok (.iload_n 1, 1) := by decide +kernel
theorem dX4_isChild_10 : decode cX4_isChild 10 = .ok (.bipush 8, 2) := by decide +kernel
theorem dX4_isChild_12 : decode cX4_isChild 12 = .ok (.iload_n 3, 1) := by decide +kernel
theorem dX4_isChild_13 : decode cX4_isChild 13 = .ok (.iadd, 1) := by decide +kernel
theorem dX4_isChild_14 : decode cX4_isChild 14 = .ok (.invokevirtual 27, 3) := by decide +kernel
theorem dX4_isChild_17 : decode cX4_isChild 17 = .ok (.iload_n 2, 1) := by decide +kernel
theorem dX4_isChild_18 : decode cX4_isChild 18 = .ok (.if_icmp .ne 7, 3) := by decide +kernel
theorem dX4_isChild_21 : decode cX4_isChild 21 = .ok (.iconst 1, 1) := by decide +kernel
theorem dX4_isChild_22 : decode cX4_isChild 22 = .ok (.goto 4, 3) := by decide +kernel
theorem dX4_isChild_25 : decode cX4_isChild 25 = .ok (.iconst 0, 1) := by decide +kernel
theorem dX4_isChild_26 : decode cX4_isChild 26 = .ok (.ireturn, 1) := by decide +kernel
theorem dX4_childrenIn_0 : decode cX4_childrenIn 0 = .ok (.iconst 0, 1) := by decide +kernel
theorem dX4_childrenIn_1 : decode cX4_childrenIn 1 = .ok (.istore_n 3, 1) := by decide +kernel
theorem dX4_childrenIn_2 : decode cX4_childrenIn 2 = .ok (.iconst 0, 1) := by decide +kernel
theorem dX4_childrenIn_3 : decode cX4_childrenIn 3 = .ok (.istore 4, 2) := by decide +kernel
theorem dX4_childrenIn_5 : decode cX4_childrenIn 5 = .ok (.iload 4, 2) := by decide +kernel
theorem dX4_childrenIn_7 : decode cX4_childrenIn 7 = .ok (.bipush 32, 2) := by decide +kernel
theorem dX4_childrenIn_9 : decode cX4_childrenIn 9 = .ok (.if_icmp .ge 28, 3) := by decide +kernel
theorem dX4_childrenIn_12 : decode cX4_childrenIn 12 = .ok (.iload_n 3, 1) := by decide +kernel
theorem dX4_childrenIn_13 : decode cX4_childrenIn 13 = .ok (.aload_n 0, 1) := by decide +kernel
theorem dX4_childrenIn_14 : decode cX4_childrenIn 14 = .ok (.iload 4, 2) := by decide +kernel
theorem dX4_childrenIn_16 : decode cX4_childrenIn 16 = .ok (.iload_n 1, 1) := by decide +kernel
theorem dX4_childrenIn_17 : decode cX4_childrenIn 17 = .ok (.iload_n 2, 1) := by decide +kernel
theorem dX4_childrenIn_18 : decode cX4_childrenIn 18 = .ok (.invokevirtual 35, 3) := by decide +kernel
theorem dX4_childrenIn_21 : decode cX4_childrenIn 21 = .ok (.ifCond .eq 7, 3) := by decide +kernel
theorem dX4_childrenIn_24 : decode cX4_childrenIn 24 = .ok (.iconst 1, 1) := by decide +kernel
theorem dX4_childrenIn_25 : decode cX4_childrenIn 25 = .ok (.goto 4, 3) := by decide +kernel
theorem dX4_childrenIn_28 : decode cX4_childrenIn 28 = .ok (.iconst 0, 1) := by decide +kernel
theorem dX4_childrenIn_29 : decode cX4_childrenIn 29 = .ok (.iadd, 1) := by decide +kernel
theorem dX4_childrenIn_30 : decode cX4_childrenIn 30 = .ok (.istore_n 3, 1) := by decide +kernel
theorem dX4_childrenIn_31 : decode cX4_childrenIn 31 = .ok (.iinc 4 1, 3) := by decide +kernel
theorem dX4_childrenIn_34 : decode cX4_childrenIn 34 = .ok (.goto (-29), 3) := by decide +kernel
theorem dX4_childrenIn_37 : decode cX4_childrenIn 37 = .ok (.iload_n 3, 1) := by decide +kernel
theorem dX4_childrenIn_38 : decode cX4_childrenIn 38 = .ok (.ireturn, 1) := by decide +kernel
theorem dX4_childrenOf_0 : decode cX4_childrenOf 0 = .ok (.iconst 0, 1) := by decide +kernel
theorem dX4_childrenOf_1 : decode cX4_childrenOf 1 = .ok (.istore_n 2, 1) := by decide +kernel
theorem dX4_childrenOf_2 : decode cX4_childrenOf 2 = .ok (.iconst 0, 1) := by decide +kernel
theorem dX4_childrenOf_3 : decode cX4_childrenOf 3 = .ok (.istore_n 3, 1) := by decide +kernel
theorem dX4_childrenOf_4 : decode cX4_childrenOf 4 = .ok (.iload_n 3, 1) := by decide +kernel
theorem dX4_childrenOf_5 : decode cX4_childrenOf 5 = .ok (.iconst 4, 1) := by decide +kernel
theorem dX4_childrenOf_6 : decode cX4_childrenOf 6 = .ok (.if_icmp .ge 18, 3) := by decide +kernel
theorem dX4_childrenOf_9 : decode cX4_childrenOf 9 = .ok (.iload_n 2, 1) := by decide +kernel
theorem dX4_childrenOf_10 : decode cX4_childrenOf 10 = .ok (.aload_n 0, 1) := by decide +kernel
theorem dX4_childrenOf_11 : decode cX4_childrenOf 11 = .ok (.iload_n 1, 1) := by decide +kernel
theorem dX4_childrenOf_12 : decode cX4_childrenOf 12 = .ok (.iload_n 3, 1) := by decide +kernel
theorem dX4_childrenOf_13 : decode cX4_childrenOf 13 = .ok (.invokevirtual 38, 3) := by decide +kernel
theorem dX4_childrenOf_16 : decode cX4_childrenOf 16 = .ok (.iadd, 1) := by decide +kernel
theorem dX4_childrenOf_17 : decode cX4_childrenOf 17 = .ok (.istore_n 2, 1) := by decide +kernel
theorem dX4_childrenOf_18 : decode cX4_childrenOf 18 = .ok (.iinc 3 1, 3) := by decide +kernel
theorem dX4_childrenOf_21 : decode cX4_childrenOf 21 = .ok (.goto (-17), 3) := by decide +kernel
theorem dX4_childrenOf_24 : decode cX4_childrenOf 24 = .ok (.iload_n 2, 1) := by decide +kernel
theorem dX4_childrenOf_25 : decode cX4_childrenOf 25 = .ok (.ireturn, 1) := by decide +kernel
theorem dX4_depthOf_0 : decode cX4_depthOf 0 = .ok (.iconst 0, 1) := by decide +kernel
theorem dX4_depthOf_1 : decode cX4_depthOf 1 = .ok (.istore_n 3, 1) := by decide +kernel
theorem dX4_depthOf_2 : decode cX4_depthOf 2 = .ok (.iload_n 1, 1) := by decide +kernel
theorem dX4_depthOf_3 : decode cX4_depthOf 3 = .ok (.istore 4, 2) := by decide +kernel
theorem dX4_depthOf_5 : decode cX4_depthOf 5 = .ok (.iload 4, 2) := by decide +kernel
theorem dX4_depthOf_7 : decode cX4_depthOf 7 = .ok (.bipush 100, 2) := by decide +kernel
theorem dX4_depthOf_9 : decode cX4_depthOf 9 = .ok (.if_icmp .eq 27, 3) := by decide +kernel
theorem dX4_depthOf_12 : decode cX4_depthOf 12 = .ok (.iload 4, 2) := by decide +kernel
theorem dX4_depthOf_14 : decode cX4_depthOf 14 = .ok (.iconst (-1), 1) := by decide +kernel
theorem dX4_depthOf_15 : decode cX4_depthOf 15 = .ok (.if_icmp .eq 21, 3) := by decide +kernel
theorem dX4_depthOf_18 : decode cX4_depthOf 18 = .ok (.aload_n 0, 1) := by decide +kernel
theorem dX4_depthOf_19 : decode cX4_depthOf 19 = .ok (.iload 4, 2) := by decide +kernel
theorem dX4_depthOf_21 : decode cX4_depthOf 21 = .ok (.bipush 8, 2) := by decide +kernel
theorem dX4_depthOf_23 : decode cX4_depthOf 23 = .ok (.iload_n 2, 1) := by decide +kernel
theorem dX4_depthOf_24 : decode cX4_depthOf 24 = .ok (.iadd, 1) := by decide +kernel
theorem dX4_depthOf_25 : decode cX4_depthOf 25 = .ok (.invokevirtual 27, 3) := by decide +kernel
theorem dX4_depthOf_28 : decode cX4_depthOf 28 = .ok (.istore 4, 2) := by decide +kernel
theorem dX4_depthOf_30 : decode cX4_depthOf 30 = .ok (.iinc 3 1, 3) := by decide +kernel
theorem dX4_depthOf_33 : decode cX4_depthOf 33 = .ok (.goto (-28), 3) := by decide +kernel
theorem dX4_depthOf_36 : decode cX4_depthOf 36 = .ok (.iload 4, 2) := by decide +kernel
theorem dX4_depthOf_38 : decode cX4_depthOf 38 = .ok (.bipush 100, 2) := by decide +kernel
theorem dX4_depthOf_40 : decode cX4_depthOf 40 = .ok (.if_icmp .ne 7, 3) := by decide +kernel
theorem dX4_depthOf_43 : decode cX4_depthOf 43 = .ok (.iload_n 3, 1) := by decide +kernel
theorem dX4_depthOf_44 : decode cX4_depthOf 44 = .ok (.goto 4, 3) := by decide +kernel
theorem dX4_depthOf_47 : decode cX4_depthOf 47 = .ok (.iconst (-1), 1) := by decide +kernel
theorem dX4_depthOf_48 : decode cX4_depthOf 48 = .ok (.ireturn, 1) := by decide +kernel
theorem dX4_isUnder_0 : decode cX4_isUnder 0 = .ok (.iload_n 1, 1) := by decide +kernel
theorem dX4_isUnder_1 : decode cX4_isUnder 1 = .ok (.istore 4, 2) := by decide +kernel
theorem dX4_isUnder_3 : decode cX4_isUnder 3 = .ok (.iload 4, 2) := by decide +kernel
theorem dX4_isUnder_5 : decode cX4_isUnder 5 = .ok (.bipush 100, 2) := by decide +kernel
theorem dX4_isUnder_7 : decode cX4_isUnder 7 = .ok (.if_icmp .eq 30, 3) := by decide +kernel
theorem dX4_isUnder_10 : decode cX4_isUnder 10 = .ok (.iload 4, 2) := by decide +kernel
theorem dX4_isUnder_12 : decode cX4_isUnder 12 = .ok (.iconst (-1), 1) := by decide +kernel
theorem dX4_isUnder_13 : decode cX4_isUnder 13 = .ok (.if_icmp .eq 24, 3) := by decide +kernel
theorem dX4_isUnder_16 : decode cX4_isUnder 16 = .ok (.iload 4, 2) := by decide +kernel
theorem dX4_isUnder_18 : decode cX4_isUnder 18 = .ok (.iload_n 2, 1) := by decide +kernel
theorem dX4_isUnder_19 : decode cX4_isUnder 19 = .ok (.if_icmp .eq 18, 3) := by decide +kernel
theorem dX4_isUnder_22 : decode cX4_isUnder 22 = .ok (.aload_n 0, 1) := by decide +kernel
theorem dX4_isUnder_23 : decode cX4_isUnder 23 = .ok (.iload 4, 2) := by decide +kernel
theorem dX4_isUnder_25 : decode cX4_isUnder 25 = .ok (.bipush 8, 2) := by decide +kernel
theorem dX4_isUnder_27 : decode cX4_isUnder 27 = .ok (.iload_n 3, 1) := by decide +kernel
theorem dX4_isUnder_28 : decode cX4_isUnder 28 = .ok (.iadd, 1) := by decide +kernel
theorem dX4_isUnder_29 : decode cX4_isUnder 29 = .ok (.invokevirtual 27, 3) := by decide +kernel
theorem dX4_isUnder_32 : decode cX4_isUnder 32 = .ok (.istore 4, 2) := by decide +kernel
theorem dX4_isUnder_34 : decode cX4_isUnder 34 = .ok (.goto (-31), 3) := by decide +kernel
theorem dX4_isUnder_37 : decode cX4_isUnder 37 = .ok (.iload 4, 2) := by decide +kernel
theorem dX4_isUnder_39 : decode cX4_isUnder 39 = .ok (.iload_n 2, 1) := by decide +kernel
theorem dX4_isUnder_40 : decode cX4_isUnder 40 = .ok (.if_icmp .ne 7, 3) := by decide +kernel
theorem dX4_isUnder_43 : decode cX4_isUnder 43 = .ok (.iconst 1, 1) := by decide +kernel
theorem dX4_isUnder_44 : decode cX4_isUnder 44 = .ok (.goto 4, 3) := by decide +kernel
theorem dX4_isUnder_47 : decode cX4_isUnder 47 = .ok (.iconst 0, 1) := by decide +kernel
theorem dX4_isUnder_48 : decode cX4_isUnder 48 = .ok (.ireturn, 1) := by decide +kernel
theorem dX4_isInnerElsewhere_0 : decode cX4_isInnerElsewhere 0 = .ok (.aload_n 0, 1) := by decide +kernel
theorem dX4_isInnerElsewhere_1 : decode cX4_isInnerElsewhere 1 = .ok (.iload_n 1, 1) := by decide +kernel
theorem dX4_isInnerElsewhere_2 : decode cX4_isInnerElsewhere 2 = .ok (.invokevirtual 41, 3) := by decide +kernel
theorem dX4_isInnerElsewhere_5 : decode cX4_isInnerElsewhere 5 = .ok (.aload_n 0, 1) := by decide +kernel
theorem dX4_isInnerElsewhere_6 : decode cX4_isInnerElsewhere 6 = .ok (.iload_n 1, 1) := by decide +kernel
theorem dX4_isInnerElsewhere_7 : decode cX4_isInnerElsewhere 7 = .ok (.iload_n 2, 1) := by decide +kernel
theorem dX4_isInnerElsewhere_8 : decode cX4_isInnerElsewhere 8 = .ok (.invokevirtual 38, 3) := by decide +kernel
theorem dX4_isInnerElsewhere_11 : decode cX4_isInnerElsewhere 11 = .ok (.if_icmp .le 7, 3) := by decide +kernel
theorem dX4_isInnerElsewhere_14 : decode cX4_isInnerElsewhere 14 = .ok (.iconst 1, 1) := by decide +kernel
theorem dX4_isInnerElsewhere_15 : decode cX4_isInnerElsewhere 15 = .ok (.goto 4, 3) := by decide +kernel
theorem dX4_isInnerElsewhere_18 : decode cX4_isInnerElsewhere 18 = .ok (.iconst 0, 1) := by decide +kernel
theorem dX4_isInnerElsewhere_19 : decode cX4_isInnerElsewhere 19 = .ok (.ireturn, 1) := by decide +kernel
theorem dX4_canBeInner_0 : decode cX4_canBeInner 0 = .ok (.aload_n 0, 1) := by decide +kernel
theorem dX4_canBeInner_1 : decode cX4_canBeInner 1 = .ok (.iload_n 1, 1) := by decide +kernel
theorem dX4_canBeInner_2 : decode cX4_canBeInner 2 = .ok (.iconst 1, 1) := by decide +kernel
theorem dX4_canBeInner_3 : decode cX4_canBeInner 3 = .ok (.invokevirtual 27, 3) := by decide +kernel
theorem dX4_canBeInner_6 : decode cX4_canBeInner 6 = .ok (.ifCond .le 16, 3) := by decide +kernel
theorem dX4_canBeInner_9 : decode cX4_canBeInner 9 = .ok (.aload_n 0, 1) := by decide +kernel
theorem dX4_canBeInner_10 : decode cX4_canBeInner 10 = .ok (.iload_n 1, 1) := by decide +kernel
theorem dX4_canBeInner_11 : decode cX4_canBeInner 11 = .ok (.iload_n 2, 1) := by decide +kernel
theorem dX4_canBeInner_12 : decode cX4_canBeInner 12 = .ok (.invokevirtual 45, 3) := by decide +kernel
theorem dX4_canBeInner_15 : decode cX4_canBeInner 15 = .ok (.ifCond .ne 7, 3) := by decide +kernel
theorem dX4_canBeInner_18 : decode cX4_canBeInner 18 = .ok (.iconst 1, 1) := by decide +kernel
theorem dX4_canBeInner_19 : decode cX4_canBeInner 19 = .ok (.goto 4, 3) := by decide +kernel
theorem dX4_canBeInner_22 : decode cX4_canBeInner 22 = .ok (.iconst 0, 1) := by decide +kernel
theorem dX4_canBeInner_23 : decode cX4_canBeInner 23 = .ok (.ireturn, 1) := by decide +kernel
theorem dX4_isRoomy_0 : decode cX4_isRoomy 0 = .ok (.iload_n 1, 1) := by decide +kernel
theorem dX4_isRoomy_1 : decode cX4_isRoomy 1 = .ok (.bipush 100, 2) := by decide +kernel
theorem dX4_isRoomy_3 : decode cX4_isRoomy 3 = .ok (.if_icmp .ne 25, 3) := by decide +kernel
theorem dX4_isRoomy_6 : decode cX4_isRoomy 6 = .ok (.aload_n 0, 1) := by decide +kernel
theorem dX4_isRoomy_7 : decode cX4_isRoomy 7 = .ok (.bipush 100, 2) := by decide +kernel
theorem dX4_isRoomy_9 : decode cX4_isRoomy 9 = .ok (.iload_n 2, 1) := by decide +kernel
theorem dX4_isRoomy_10 : decode cX4_isRoomy 10 = .ok (.invokevirtual 38, 3) := by decide +kernel
theorem dX4_isRoomy_13 : decode cX4_isRoomy 13 = .ok (.aload_n 0, 1) := by decide +kernel
theorem dX4_isRoomy_14 : decode cX4_isRoomy 14 = .ok (.getfield 7, 3) := by decide +kernel
theorem dX4_isRoomy_17 : decode cX4_isRoomy 17 = .ok (.iconst 0, 1) := by decide +kernel
theorem dX4_isRoomy_18 : decode cX4_isRoomy 18 = .ok (.iaload, 1) := by decide +kernel
theorem dX4_isRoomy_19 : decode cX4_isRoomy 19 = .ok (.if_icmp .ge 7, 3) := by decide +kernel
theorem dX4_isRoomy_22 : decode cX4_isRoomy 22 = .ok (.iconst 1, 1) := by decide +kernel
theorem dX4_isRoomy_23 : decode cX4_isRoomy 23 = .ok (.goto 4, 3) := by decide +kernel
theorem dX4_isRoomy_26 : decode cX4_isRoomy 26 = .ok (.iconst 0, 1) := by decide +kernel
theorem dX4_isRoomy_27 : decode cX4_isRoomy 27 = .ok (.ireturn, 1) := by decide +kernel
theorem dX4_isRoomy_28 : decode cX4_isRoomy 28 = .ok (.aload_n 0, 1) := by decide +kernel
theorem dX4_isRoomy_29 : decode cX4_isRoomy 29 = .ok (.iload_n 1, 1) := by decide +kernel
theorem dX4_isRoomy_30 : decode cX4_isRoomy 30 = .ok (.iload_n 2, 1) := by decide +kernel
theorem dX4_isRoomy_31 : decode cX4_isRoomy 31 = .ok (.invokevirtual 49, 3) := by decide +kernel
theorem dX4_isRoomy_34 : decode cX4_isRoomy 34 = .ok (.iconst (-1), 1) := by decide +kernel
theorem dX4_isRoomy_35 : decode cX4_isRoomy 35 = .ok (.if_icmp .eq 30, 3) := by decide +kernel
theorem dX4_isRoomy_38 : decode cX4_isRoomy 38 = .ok (.aload_n 0, 1) := by decide +kernel
theorem dX4_isRoomy_39 : decode cX4_isRoomy 39 = .ok (.iload_n 1, 1) := by decide +kernel
theorem dX4_isRoomy_40 : decode cX4_isRoomy 40 = .ok (.invokevirtual 41, 3) := by decide +kernel
theorem dX4_isRoomy_43 : decode cX4_isRoomy 43 = .ok (.aload_n 0, 1) := by decide +kernel
theorem dX4_isRoomy_44 : decode cX4_isRoomy 44 = .ok (.iload_n 1, 1) := by decide +kernel
theorem dX4_isRoomy_45 : decode cX4_isRoomy 45 = .ok (.iconst 1, 1) := by decide +kernel
theorem dX4_isRoomy_46 : decode cX4_isRoomy 46 = .ok (.invokevirtual 27, 3) := by decide +kernel
theorem dX4_isRoomy_49 : decode cX4_isRoomy 49 = .ok (.if_icmp .ge 16, 3) := by decide +kernel
theorem dX4_isRoomy_52 : decode cX4_isRoomy 52 = .ok (.aload_n 0, 1) := by decide +kernel
theorem dX4_isRoomy_53 : decode cX4_isRoomy 53 = .ok (.iload_n 1, 1) := by decide +kernel
theorem dX4_isRoomy_54 : decode cX4_isRoomy 54 = .ok (.iload_n 2, 1) := by decide +kernel
theorem dX4_isRoomy_55 : decode cX4_isRoomy 55 = .ok (.invokevirtual 45, 3) := by decide +kernel
theorem dX4_isRoomy_58 : decode cX4_isRoomy 58 = .ok (.ifCond .ne 7, 3) := by decide +kernel
theorem dX4_isRoomy_61 : decode cX4_isRoomy 61 = .ok (.iconst 1, 1) := by decide +kernel
theorem dX4_isRoomy_62 : decode cX4_isRoomy 62 = .ok (.goto 4, 3) := by decide +kernel
theorem dX4_isRoomy_65 : decode cX4_isRoomy 65 = .ok (.iconst 0, 1) := by decide +kernel
theorem dX4_isRoomy_66 : decode cX4_isRoomy 66 = .ok (.ireturn, 1) := by decide +kernel
theorem dX4_isAhead_0 : decode cX4_isAhead 0 = .ok (.aload_n 0, 1) := by decide +kernel
theorem dX4_isAhead_1 : decode cX4_isAhead 1 = .ok (.iload_n 1, 1) := by decide +kernel
theorem dX4_isAhead_2 : decode cX4_isAhead 2 = .ok (.iconst 2, 1) := by decide +kernel
theorem dX4_isAhead_3 : decode cX4_isAhead 3 = .ok (.invokevirtual 27, 3) := by decide +kernel
theorem dX4_isAhead_6 : decode cX4_isAhead 6 = .ok (.iload_n 3, 1) := by decide +kernel
theorem dX4_isAhead_7 : decode cX4_isAhead 7 = .ok (.if_icmp .ne 7, 3) := by decide +kernel
theorem dX4_isAhead_10 : decode cX4_isAhead 10 = .ok (.iconst 1, 1) := by decide +kernel
theorem dX4_isAhead_11 : decode cX4_isAhead 11 = .ok (.goto 4, 3) := by decide +kernel
theorem dX4_isAhead_14 : decode cX4_isAhead 14 = .ok (.iconst 0, 1) := by decide +kernel
theorem dX4_isAhead_15 : decode cX4_isAhead 15 = .ok (.istore 4, 2) := by decide +kernel
theorem dX4_isAhead_17 : decode cX4_isAhead 17 = .ok (.aload_n 0, 1) := by decide +kernel
theorem dX4_isAhead_18 : decode cX4_isAhead 18 = .ok (.iload_n 2, 1) := by decide +kernel
theorem dX4_isAhead_19 : decode cX4_isAhead 19 = .ok (.iconst 2, 1) := by decide +kernel
theorem dX4_isAhead_20 : decode cX4_isAhead 20 = .ok (.invokevirtual 27, 3) := by decide +kernel
theorem dX4_isAhead_23 : decode cX4_isAhead 23 = .ok (.iload_n 3, 1) := by decide +kernel
theorem dX4_isAhead_24 : decode cX4_isAhead 24 = .ok (.if_icmp .ne 7, 3) := by decide +kernel
theorem dX4_isAhead_27 : decode cX4_isAhead 27 = .ok (.iconst 1, 1) := by decide +kernel
theorem dX4_isAhead_28 : decode cX4_isAhead 28 = .ok (.goto 4, 3) := by decide +kernel
theorem dX4_isAhead_31 : decode cX4_isAhead 31 = .ok (.iconst 0, 1) := by decide +kernel
theorem dX4_isAhead_32 : decode cX4_isAhead 32 = .ok (.istore 5, 2) := by decide +kernel
theorem dX4_isAhead_34 : decode cX4_isAhead 34 = .ok (.iload 4, 2) := by decide +kernel
theorem dX4_isAhead_36 : decode cX4_isAhead 36 = .ok (.iload 5, 2) := by decide +kernel
theorem dX4_isAhead_38 : decode cX4_isAhead 38 = .ok (.if_icmp .eq 6, 3) := by decide +kernel
theorem dX4_isAhead_41 : decode cX4_isAhead 41 = .ok (.iload 4, 2) := by decide +kernel
theorem dX4_isAhead_43 : decode cX4_isAhead 43 = .ok (.ireturn, 1) := by decide +kernel
theorem dX4_isAhead_44 : decode cX4_isAhead 44 = .ok (.aload_n 0, 1) := by decide +kernel
theorem dX4_isAhead_45 : decode cX4_isAhead 45 = .ok (.iload_n 1, 1) := by decide +kernel
theorem dX4_isAhead_46 : decode cX4_isAhead 46 = .ok (.iconst 1, 1) := by decide +kernel
theorem dX4_isAhead_47 : decode cX4_isAhead 47 = .ok (.invokevirtual 27, 3) := by decide +kernel
theorem dX4_isAhead_50 : decode cX4_isAhead 50 = .ok (.aload_n 0, 1) := by decide +kernel
theorem dX4_isAhead_51 : decode cX4_isAhead 51 = .ok (.iload_n 2, 1) := by decide +kernel
theorem dX4_isAhead_52 : decode cX4_isAhead 52 = .ok (.iconst 1, 1) := by decide +kernel
theorem dX4_isAhead_53 : decode cX4_isAhead 53 = .ok (.invokevirtual 27, 3) := by decide +kernel
theorem dX4_isAhead_56 : decode cX4_isAhead 56 = .ok (.if_icmp .eq 26, 3) := by decide +kernel
theorem dX4_isAhead_59 : decode cX4_isAhead 59 = .ok (.aload_n 0, 1) := by decide +kernel
theorem dX4_isAhead_60 : decode cX4_isAhead 60 = .ok (.iload_n 1, 1) := by decide +kernel
theorem dX4_isAhead_61 : decode cX4_isAhead 61 = .ok (.iconst 1, 1) := by decide +kernel
theorem dX4_isAhead_62 : decode cX4_isAhead 62 = .ok (.invokevirtual 27, 3) := by decide +kernel
theorem dX4_isAhead_65 : decode cX4_isAhead 65 = .ok (.aload_n 0, 1) := by decide +kernel
theorem dX4_isAhead_66 : decode cX4_isAhead 66 = .ok (.iload_n 2, 1) := by decide +kernel
theorem dX4_isAhead_67 : decode cX4_isAhead 67 = .ok (.iconst 1, 1) := by decide +kernel
theorem dX4_isAhead_68 : decode cX4_isAhead 68 = .ok (.invokevirtual 27, 3) := by decide +kernel
theorem dX4_isAhead_71 : decode cX4_isAhead 71 = .ok (.if_icmp .le 7, 3) := by decide +kernel
theorem dX4_isAhead_74 : decode cX4_isAhead 74 = .ok (.iconst 1, 1) := by decide +kernel
theorem dX4_isAhead_75 : decode cX4_isAhead 75 = .ok (.goto 17, 3) := by decide +kernel
theorem dX4_isAhead_78 : decode cX4_isAhead 78 = .ok (.iconst 0, 1) := by decide +kernel
theorem dX4_isAhead_79 : decode cX4_isAhead 79 = .ok (.goto 13, 3) := by decide +kernel
theorem dX4_isAhead_82 : decode cX4_isAhead 82 = .ok (.iload_n 1, 1) := by decide +kernel
theorem dX4_isAhead_83 : decode cX4_isAhead 83 = .ok (.iload_n 2, 1) := by decide +kernel
theorem dX4_isAhead_84 : decode cX4_isAhead 84 = .ok (.if_icmp .ge 7, 3) := by decide +kernel
theorem dX4_isAhead_87 : decode cX4_isAhead 87 = .ok (.iconst 1, 1) := by decide +kernel
theorem dX4_isAhead_88 : decode cX4_isAhead 88 = .ok (.goto 4, 3) := by decide +kernel
theorem dX4_isAhead_91 : decode cX4_isAhead 91 = .ok (.iconst 0, 1) := by decide +kernel
theorem dX4_isAhead_92 : decode cX4_isAhead 92 = .ok (.ireturn, 1) := by decide +kernel
theorem dX4_lastChild_0 : decode cX4_lastChild 0 = .ok (.iconst (-1), 1) := by decide +kernel
theorem dX4_lastChild_1 : decode cX4_lastChild 1 = .ok (.istore_n 3, 1) := by decide +kernel
theorem dX4_lastChild_2 : decode cX4_lastChild 2 = .ok (.iconst 0, 1) := by decide +kernel
theorem dX4_lastChild_3 : decode cX4_lastChild 3 = .ok (.istore 4, 2) := by decide +kernel
theorem dX4_lastChild_5 : decode cX4_lastChild 5 = .ok (.iload 4, 2) := by decide +kernel
theorem dX4_lastChild_7 : decode cX4_lastChild 7 = .ok (.bipush 32, 2) := by decide +kernel
theorem dX4_lastChild_9 : decode cX4_lastChild 9 = .ok (.if_icmp .ge 43, 3) := by decide +kernel
theorem dX4_lastChild_12 : decode cX4_lastChild 12 = .ok (.aload_n 0, 1) := by decide +kernel
theorem dX4_lastChild_13 : decode cX4_lastChild 13 = .ok (.iload 4, 2) := by decide +kernel
theorem dX4_lastChild_15 : decode cX4_lastChild 15 = .ok (.iload_n 1, 1) := by decide +kernel
theorem dX4_lastChild_16 : decode cX4_lastChild 16 = .ok (.iload_n 2, 1) := by decide +kernel
theorem dX4_lastChild_17 : decode cX4_lastChild 17 = .ok (.invokevirtual 35, 3) := by decide +kernel
theorem dX4_lastChild_20 : decode cX4_lastChild 20 = .ok (.ifCond .eq 24, 3) := by decide +kernel
theorem dX4_lastChild_23 : decode cX4_lastChild 23 = .ok (.iload_n 3, 1) := by decide +kernel
theorem dX4_lastChild_24 : decode cX4_lastChild 24 = .ok (.iconst (-1), 1) := by decide +kernel
theorem dX4_lastChild_25 : decode cX4_lastChild 25 = .ok (.if_icmp .eq 14, 3) := by decide +kernel
theorem dX4_lastChild_28 : decode cX4_lastChild 28 = .ok (.aload_n 0, 1) := by decide +kernel
theorem dX4_lastChild_29 : decode cX4_lastChild 29 = .ok (.iload_n 3, 1) := by decide +kernel
theorem dX4_lastChild_30 : decode cX4_lastChild 30 = .ok (.iload 4, 2) := by decide +kernel
theorem dX4_lastChild_32 : decode cX4_lastChild 32 = .ok (.iload_n 2, 1) := by decide +kernel
theorem dX4_lastChild_33 : decode cX4_lastChild 33 = .ok (.invokevirtual 52, 3) := by decide +kernel
theorem dX4_lastChild_36 : decode cX4_lastChild 36 = .ok (.ifCond .eq 8, 3) := by decide +kernel
theorem dX4_lastChild_39 : decode cX4_lastChild 39 = .ok (.iload 4, 2) := by decide +kernel
theorem dX4_lastChild_41 : decode cX4_lastChild 41 = .ok (.goto 4, 3) := by decide +kernel
theorem dX4_lastChild_44 : decode cX4_lastChild 44 = .ok (.iload_n 3, 1) := by decide +kernel
theorem dX4_lastChild_45 : decode cX4_lastChild 45 = .ok (.istore_n 3, 1) := by decide +kernel
theorem dX4_lastChild_46 : decode cX4_lastChild 46 = .ok (.iinc 4 1, 3) := by decide +kernel
theorem dX4_lastChild_49 : decode cX4_lastChild 49 = .ok (.goto (-44), 3) := by decide +kernel
theorem dX4_lastChild_52 : decode cX4_lastChild 52 = .ok (.iload_n 3, 1) := by decide +kernel
theorem dX4_lastChild_53 : decode cX4_lastChild 53 = .ok (.ireturn, 1) := by decide +kernel
theorem dX4_firstInner_0 : decode cX4_firstInner 0 = .ok (.iconst (-1), 1) := by decide +kernel
theorem dX4_firstInner_1 : decode cX4_firstInner 1 = .ok (.istore_n 3, 1) := by decide +kernel
theorem dX4_firstInner_2 : decode cX4_firstInner 2 = .ok (.iconst 0, 1) := by decide +kernel
theorem dX4_firstInner_3 : decode cX4_firstInner 3 = .ok (.istore 4, 2) := by decide +kernel
theorem dX4_firstInner_5 : decode cX4_firstInner 5 = .ok (.iload 4, 2) := by decide +kernel
theorem dX4_firstInner_7 : decode cX4_firstInner 7 = .ok (.bipush 32, 2) := by decide +kernel
theorem dX4_firstInner_9 : decode cX4_firstInner 9 = .ok (.if_icmp .ge 53, 3) := by decide +kernel
theorem dX4_firstInner_12 : decode cX4_firstInner 12 = .ok (.aload_n 0, 1) := by decide +kernel
theorem dX4_firstInner_13 : decode cX4_firstInner 13 = .ok (.iload 4, 2) := by decide +kernel
theorem dX4_firstInner_15 : decode cX4_firstInner 15 = .ok (.iload_n 1, 1) := by decide +kernel
theorem dX4_firstInner_16 : decode cX4_firstInner 16 = .ok (.iload_n 2, 1) := by decide +kernel
theorem dX4_firstInner_17 : decode cX4_firstInner 17 = .ok (.invokevirtual 35, 3) := by decide +kernel
theorem dX4_firstInner_20 : decode cX4_firstInner 20 = .ok (.ifCond .eq 34, 3) := by decide +kernel
theorem dX4_firstInner_23 : decode cX4_firstInner 23 = .ok (.aload_n 0, 1) := by decide +kernel
theorem dX4_firstInner_24 : decode cX4_firstInner 24 = .ok (.iload 4, 2) := by decide +kernel
theorem dX4_firstInner_26 : decode cX4_firstInner 26 = .ok (.iload_n 2, 1) := by decide +kernel
theorem dX4_firstInner_27 : decode cX4_firstInner 27 = .ok (.invokevirtual 55, 3) := by decide +kernel
theorem dX4_firstInner_30 : decode cX4_firstInner 30 = .ok (.ifCond .eq 24, 3) := by decide +kernel
theorem dX4_firstInner_33 : decode cX4_firstInner 33 = .ok (.iload_n 3, 1) := by decide +kernel
theorem dX4_firstInner_34 : decode cX4_firstInner 34 = .ok (.iconst (-1), 1) := by decide +kernel
theorem dX4_firstInner_35 : decode cX4_firstInner 35 = .ok (.if_icmp .eq 14, 3) := by decide +kernel
theorem dX4_firstInner_38 : decode cX4_firstInner 38 = .ok (.aload_n 0, 1) := by decide +kernel
theorem dX4_firstInner_39 : decode cX4_firstInner 39 = .ok (.iload 4, 2) := by decide +kernel
theorem dX4_firstInner_41 : decode cX4_firstInner 41 = .ok (.iload_n 3, 1) := by decide +kernel
theorem dX4_firstInner_42 : decode cX4_firstInner 42 = .ok (.iload_n 2, 1) := by decide +kernel
theorem dX4_firstInner_43 : decode cX4_firstInner 43 = .ok (.invokevirtual 52, 3) := by decide +kernel
theorem dX4_firstInner_46 : decode cX4_firstInner 46 = .ok (.ifCond .eq 8, 3) := by decide +kernel
theorem dX4_firstInner_49 : decode cX4_firstInner 49 = .ok (.iload 4, 2) := by decide +kernel
theorem dX4_firstInner_51 : decode cX4_firstInner 51 = .ok (.goto 4, 3) := by decide +kernel
theorem dX4_firstInner_54 : decode cX4_firstInner 54 = .ok (.iload_n 3, 1) := by decide +kernel
theorem dX4_firstInner_55 : decode cX4_firstInner 55 = .ok (.istore_n 3, 1) := by decide +kernel
theorem dX4_firstInner_56 : decode cX4_firstInner 56 = .ok (.iinc 4 1, 3) := by decide +kernel
theorem dX4_firstInner_59 : decode cX4_firstInner 59 = .ok (.goto (-54), 3) := by decide +kernel
theorem dX4_firstInner_62 : decode cX4_firstInner 62 = .ok (.iload_n 3, 1) := by decide +kernel
theorem dX4_firstInner_63 : decode cX4_firstInner 63 = .ok (.ireturn, 1) := by decide +kernel
theorem dX4_nearestRoom_0 : decode cX4_nearestRoom 0 = .ok (.iconst (-1), 1) := by decide +kernel
theorem dX4_nearestRoom_1 : decode cX4_nearestRoom 1 = .ok (.istore_n 3, 1) := by decide +kernel
theorem dX4_nearestRoom_2 : decode cX4_nearestRoom 2 = .ok (.iconst 0, 1) := by decide +kernel
theorem dX4_nearestRoom_3 : decode cX4_nearestRoom 3 = .ok (.istore 4, 2) := by decide +kernel
theorem dX4_nearestRoom_5 : decode cX4_nearestRoom 5 = .ok (.iconst 0, 1) := by decide +kernel
theorem dX4_nearestRoom_6 : decode cX4_nearestRoom 6 = .ok (.istore 5, 2) := by decide +kernel
theorem dX4_nearestRoom_8 : decode cX4_nearestRoom 8 = .ok (.iload 5, 2) := by decide +kernel
theorem dX4_nearestRoom_10 : decode cX4_nearestRoom 10 = .ok (.bipush 32, 2) := by decide +kernel
theorem dX4_nearestRoom_12 : decode cX4_nearestRoom 12 = .ok (.if_icmp .ge 68, 3) := by decide +kernel
theorem dX4_nearestRoom_15 : decode cX4_nearestRoom 15 = .ok (.aload_n 0, 1) := by decide +kernel
theorem dX4_nearestRoom_16 : decode cX4_nearestRoom 16 = .ok (.iload 5, 2) := by decide +kernel
theorem dX4_nearestRoom_18 : decode cX4_nearestRoom 18 = .ok (.invokevirtual 31, 3) := by decide +kernel
theorem dX4_nearestRoom_21 : decode cX4_nearestRoom 21 = .ok (.ifCond .eq 53, 3) := by decide +kernel
theorem dX4_nearestRoom_24 : decode cX4_nearestRoom 24 = .ok (.aload_n 0, 1) := by decide +kernel
theorem dX4_nearestRoom_25 : decode cX4_nearestRoom 25 = .ok (.iload 5, 2) := by decide +kernel
theorem dX4_nearestRoom_27 : decode cX4_nearestRoom 27 = .ok (.iload_n 2, 1) := by decide +kernel
theorem dX4_nearestRoom_28 : decode cX4_nearestRoom 28 = .ok (.invokevirtual 58, 3) := by decide +kernel
theorem dX4_nearestRoom_31 : decode cX4_nearestRoom 31 = .ok (.ifCond .eq 43, 3) := by decide +kernel
theorem dX4_nearestRoom_34 : decode cX4_nearestRoom 34 = .ok (.aload_n 0, 1) := by decide +kernel
theorem dX4_nearestRoom_35 : decode cX4_nearestRoom 35 = .ok (.iload 5, 2) := by decide +kernel
theorem dX4_nearestRoom_37 : decode cX4_nearestRoom 37 = .ok (.iload_n 1, 1) := by decide +kernel
theorem dX4_nearestRoom_38 : decode cX4_nearestRoom 38 = .ok (.iload_n 2, 1) := by decide +kernel
theorem dX4_nearestRoom_39 : decode cX4_nearestRoom 39 = .ok (.invokevirtual 61, 3) := by decide +kernel
theorem dX4_nearestRoom_42 : decode cX4_nearestRoom 42 = .ok (.ifCond .ne 32, 3) := by decide +kernel
theorem dX4_nearestRoom_45 : decode cX4_nearestRoom 45 = .ok (.iload_n 3, 1) := by decide +kernel
theorem dX4_nearestRoom_46 : decode cX4_nearestRoom 46 = .ok (.iconst (-1), 1) := by decide +kernel
theorem dX4_nearestRoom_47 : decode cX4_nearestRoom 47 = .ok (.if_icmp .eq 15, 3) := by decide +kernel
theorem dX4_nearestRoom_50 : decode cX4_nearestRoom 50 = .ok (.aload_n 0, 1) := by decide +kernel
theorem dX4_nearestRoom_51 : decode cX4_nearestRoom 51 = .ok (.iload 5, 2) := by decide +kernel
theorem dX4_nearestRoom_53 : decode cX4_nearestRoom 53 = .ok (.iload_n 2, 1) := by decide +kernel
theorem dX4_nearestRoom_54 : decode cX4_nearestRoom 54 = .ok (.invokevirtual 49, 3) := by decide +kernel
theorem dX4_nearestRoom_57 : decode cX4_nearestRoom 57 = .ok (.iload 4, 2) := by decide +kernel
theorem dX4_nearestRoom_59 : decode cX4_nearestRoom 59 = .ok (.if_icmp .ge 15, 3) := by decide +kernel
theorem dX4_nearestRoom_62 : decode cX4_nearestRoom 62 = .ok (.iload 5, 2) := by decide +kernel
theorem dX4_nearestRoom_64 : decode cX4_nearestRoom 64 = .ok (.istore_n 3, 1) := by decide +kernel
theorem dX4_nearestRoom_65 : decode cX4_nearestRoom 65 = .ok (.aload_n 0, 1) := by decide +kernel
theorem dX4_nearestRoom_66 : decode cX4_nearestRoom 66 = .ok (.iload 5, 2) := by decide +kernel
theorem dX4_nearestRoom_68 : decode cX4_nearestRoom 68 = .ok (.iload_n 2, 1) := by decide +kernel
theorem dX4_nearestRoom_69 : decode cX4_nearestRoom 69 = .ok (.invokevirtual 49, 3) := by decide +kernel
theorem dX4_nearestRoom_72 : decode cX4_nearestRoom 72 = .ok (.istore 4, 2) := by decide +kernel
theorem dX4_nearestRoom_74 : decode cX4_nearestRoom 74 = .ok (.iinc 5 1, 3) := by decide +kernel
theorem dX4_nearestRoom_77 : decode cX4_nearestRoom 77 = .ok (.goto (-69), 3) := by decide +kernel
theorem dX4_nearestRoom_80 : decode cX4_nearestRoom 80 = .ok (.iload_n 3, 1) := by decide +kernel
theorem dX4_nearestRoom_81 : decode cX4_nearestRoom 81 = .ok (.ireturn, 1) := by decide +kernel
theorem dX4_attach_0 : decode cX4_attach 0 = .ok (.iload_n 1, 1) := by decide +kernel
theorem dX4_attach_1 : decode cX4_attach 1 = .ok (.istore_n 3, 1) := by decide +kernel
theorem dX4_attach_2 : decode cX4_attach 2 = .ok (.bipush 100, 2) := by decide +kernel
theorem dX4_attach_4 : decode cX4_attach 4 = .ok (.istore 4, 2) := by decide +kernel
theorem dX4_attach_6 : decode cX4_attach 6 = .ok (.iload 4, 2) := by decide +kernel
theorem dX4_attach_8 : decode cX4_attach 8 = .ok (.iconst (-1), 1) := by decide +kernel
theorem dX4_attach_9 : decode cX4_attach 9 = .ok (.if_icmp .eq 102, 3) := by decide +kernel
theorem dX4_attach_12 : decode cX4_attach 12 = .ok (.aload_n 0, 1) := by decide +kernel
theorem dX4_attach_13 : decode cX4_attach 13 = .ok (.iload 4, 2) := by decide +kernel
theorem dX4_attach_15 : decode cX4_attach 15 = .ok (.iload_n 2, 1) := by decide +kernel
theorem dX4_attach_16 : decode cX4_attach 16 = .ok (.invokevirtual 58, 3) := by decide +kernel
theorem dX4_attach_19 : decode cX4_attach 19 = .ok (.ifCond .ne 92, 3) := by decide +kernel
theorem dX4_attach_22 : decode cX4_attach 22 = .ok (.aload_n 0, 1) := by decide +kernel
theorem dX4_attach_23 : decode cX4_attach 23 = .ok (.iload 4, 2) := by decide +kernel
theorem dX4_attach_25 : decode cX4_attach 25 = .ok (.iload_n 2, 1) := by decide +kernel
theorem dX4_attach_26 : decode cX4_attach 26 = .ok (.invokevirtual 64, 3) := by decide +kernel
theorem dX4_attach_29 : decode cX4_attach 29 = .ok (.istore 5, 2) := by decide +kernel
theorem dX4_attach_31 : decode cX4_attach 31 = .ok (.iload 5, 2) := by decide +kernel
theorem dX4_attach_33 : decode cX4_attach 33 = .ok (.iconst (-1), 1) := by decide +kernel
theorem dX4_attach_34 : decode cX4_attach 34 = .ok (.if_icmp .eq 65, 3) := by decide +kernel
theorem dX4_attach_37 : decode cX4_attach 37 = .ok (.aload_n 0, 1) := by decide +kernel
theorem dX4_attach_38 : decode cX4_attach 38 = .ok (.iload_n 3, 1) := by decide +kernel
theorem dX4_attach_39 : decode cX4_attach 39 = .ok (.iload 5, 2) := by decide +kernel
theorem dX4_attach_41 : decode cX4_attach 41 = .ok (.iload_n 2, 1) := by decide +kernel
theorem dX4_attach_42 : decode cX4_attach 42 = .ok (.invokevirtual 52, 3) := by decide +kernel
theorem dX4_attach_45 : decode cX4_attach 45 = .ok (.ifCond .eq 54, 3) := by decide +kernel
theorem dX4_attach_48 : decode cX4_attach 48 = .ok (.aload_n 0, 1) := by decide +kernel
theorem dX4_attach_49 : decode cX4_attach 49 = .ok (.iload_n 3, 1) := by decide +kernel
theorem dX4_attach_50 : decode cX4_attach 50 = .ok (.iload_n 2, 1) := by decide +kernel
theorem dX4_attach_51 : decode cX4_attach 51 = .ok (.invokevirtual 55, 3) := by decide +kernel
theorem dX4_attach_54 : decode cX4_attach 54 = .ok (.ifCond .eq 45, 3) := by decide +kernel
theorem dX4_attach_57 : decode cX4_attach 57 = .ok (.aload_n 0, 1) := by decide +kernel
theorem dX4_attach_58 : decode cX4_attach 58 = .ok (.iload_n 3, 1) := by decide +kernel
theorem dX4_attach_59 : decode cX4_attach 59 = .ok (.bipush 8, 2) := by decide +kernel
theorem dX4_attach_61 : decode cX4_attach 61 = .ok (.iload_n 2, 1) := by decide +kernel
theorem dX4_attach_62 : decode cX4_attach 62 = .ok (.iadd, 1) := by decide +kernel
theorem dX4_attach_63 : decode cX4_attach 63 = .ok (.iload 4, 2) := by decide +kernel
theorem dX4_attach_65 : decode cX4_attach 65 = .ok (.invokevirtual 67, 3) := by decide +kernel
theorem dX4_attach_68 : decode cX4_attach 68 = .ok (.aload_n 0, 1) := by decide +kernel
theorem dX4_attach_69 : decode cX4_attach 69 = .ok (.iload 5, 2) := by decide +kernel
theorem dX4_attach_71 : decode cX4_attach 71 = .ok (.bipush 8, 2) := by decide +kernel
theorem dX4_attach_73 : decode cX4_attach 73 = .ok (.iload_n 2, 1) := by decide +kernel
theorem dX4_attach_74 : decode cX4_attach 74 = .ok (.iadd, 1) := by decide +kernel
theorem dX4_attach_75 : decode cX4_attach 75 = .ok (.iconst (-1), 1) := by decide +kernel
theorem dX4_attach_76 : decode cX4_attach 76 = .ok (.invokevirtual 67, 3) := by decide +kernel
theorem dX4_attach_79 : decode cX4_attach 79 = .ok (.aload_n 0, 1) := by decide +kernel
theorem dX4_attach_80 : decode cX4_attach 80 = .ok (.getfield 7, 3) := by decide +kernel
theorem dX4_attach_83 : decode cX4_attach 83 = .ok (.bipush 9, 2) := by decide +kernel
theorem dX4_attach_85 : decode cX4_attach 85 = .ok (.dup2, 1) := by decide +kernel
theorem dX4_attach_86 : decode cX4_attach 86 = .ok (.iaload, 1) := by decide +kernel
theorem dX4_attach_87 : decode cX4_attach 87 = .ok (.iconst 1, 1) := by decide +kernel
theorem dX4_attach_88 : decode cX4_attach 88 = .ok (.iadd, 1) := by decide +kernel
theorem dX4_attach_89 : decode cX4_attach 89 = .ok (.iastore, 1) := by decide +kernel
theorem dX4_attach_90 : decode cX4_attach 90 = .ok (.iload_n 3, 1) := by decide +kernel
theorem dX4_attach_91 : decode cX4_attach 91 = .ok (.istore 4, 2) := by decide +kernel
theorem dX4_attach_93 : decode cX4_attach 93 = .ok (.iload 5, 2) := by decide +kernel
theorem dX4_attach_95 : decode cX4_attach 95 = .ok (.istore_n 3, 1) := by decide +kernel
theorem dX4_attach_96 : decode cX4_attach 96 = .ok (.goto 12, 3) := by decide +kernel
theorem dX4_attach_99 : decode cX4_attach 99 = .ok (.aload_n 0, 1) := by decide +kernel
theorem dX4_attach_100 : decode cX4_attach 100 = .ok (.iload 4, 2) := by decide +kernel
theorem dX4_attach_102 : decode cX4_attach 102 = .ok (.iload_n 2, 1) := by decide +kernel
theorem dX4_attach_103 : decode cX4_attach 103 = .ok (.invokevirtual 71, 3) := by decide +kernel
theorem dX4_attach_106 : decode cX4_attach 106 = .ok (.istore 4, 2) := by decide +kernel
theorem dX4_attach_108 : decode cX4_attach 108 = .ok (.goto (-102), 3) := by decide +kernel
theorem dX4_attach_111 : decode cX4_attach 111 = .ok (.iload 4, 2) := by decide +kernel
theorem dX4_attach_113 : decode cX4_attach 113 = .ok (.iconst (-1), 1) := by decide +kernel
theorem dX4_attach_114 : decode cX4_attach 114 = .ok (.if_icmp .ne 32, 3) := by decide +kernel
theorem dX4_attach_117 : decode cX4_attach 117 = .ok (.aload_n 0, 1) := by decide +kernel
theorem dX4_attach_118 : decode cX4_attach 118 = .ok (.iload_n 3, 1) := by decide +kernel
theorem dX4_attach_119 : decode cX4_attach 119 = .ok (.iload_n 2, 1) := by decide +kernel
theorem dX4_attach_120 : decode cX4_attach 120 = .ok (.invokevirtual 74, 3) := by decide +kernel
theorem dX4_attach_123 : decode cX4_attach 123 = .ok (.istore 4, 2) := by decide +kernel
theorem dX4_attach_125 : decode cX4_attach 125 = .ok (.aload_n 0, 1) := by decide +kernel
theorem dX4_attach_126 : decode cX4_attach 126 = .ok (.getfield 7, 3) := by decide +kernel
theorem dX4_attach_129 : decode cX4_attach 129 = .ok (.bipush 10, 2) := by decide +kernel
theorem dX4_attach_131 : decode cX4_attach 131 = .ok (.dup2, 1) := by decide +kernel
theorem dX4_attach_132 : decode cX4_attach 132 = .ok (.iaload, 1) := by decide +kernel
theorem dX4_attach_133 : decode cX4_attach 133 = .ok (.iload 4, 2) := by decide +kernel
theorem dX4_attach_135 : decode cX4_attach 135 = .ok (.iconst (-1), 1) := by decide +kernel
theorem dX4_attach_136 : decode cX4_attach 136 = .ok (.if_icmp .ne 7, 3) := by decide +kernel
theorem dX4_attach_139 : decode cX4_attach 139 = .ok (.iconst 0, 1) := by decide +kernel
theorem dX4_attach_140 : decode cX4_attach 140 = .ok (.goto 4, 3) := by decide +kernel
theorem dX4_attach_143 : decode cX4_attach 143 = .ok (.iconst 1, 1) := by decide +kernel
theorem dX4_attach_144 : decode cX4_attach 144 = .ok (.iadd, 1) := by decide +kernel
theorem dX4_attach_145 : decode cX4_attach 145 = .ok (.iastore, 1) := by decide +kernel
theorem dX4_attach_146 : decode cX4_attach 146 = .ok (.aload_n 0, 1) := by decide +kernel
theorem dX4_attach_147 : decode cX4_attach 147 = .ok (.iload_n 3, 1) := by decide +kernel
theorem dX4_attach_148 : decode cX4_attach 148 = .ok (.bipush 8, 2) := by decide +kernel
theorem dX4_attach_150 : decode cX4_attach 150 = .ok (.iload_n 2, 1) := by decide +kernel
theorem dX4_attach_151 : decode cX4_attach 151 = .ok (.iadd, 1) := by decide +kernel
theorem dX4_attach_152 : decode cX4_attach 152 = .ok (.iload 4, 2) := by decide +kernel
theorem dX4_attach_154 : decode cX4_attach 154 = .ok (.invokevirtual 67, 3) := by decide +kernel
theorem dX4_attach_157 : decode cX4_attach 157 = .ok (.return_, 1) := by decide +kernel
theorem dX4_attachAll_0 : decode cX4_attachAll 0 = .ok (.iconst 0, 1) := by decide +kernel
theorem dX4_attachAll_1 : decode cX4_attachAll 1 = .ok (.istore_n 1, 1) := by decide +kernel
theorem dX4_attachAll_2 : decode cX4_attachAll 2 = .ok (.iload_n 1, 1) := by decide +kernel
theorem dX4_attachAll_3 : decode cX4_attachAll 3 = .ok (.iconst 4, 1) := by decide +kernel
theorem dX4_attachAll_4 : decode cX4_attachAll 4 = .ok (.if_icmp .ge 39, 3) := by decide +kernel
theorem dX4_attachAll_7 : decode cX4_attachAll 7 = .ok (.iconst 0, 1) := by decide +kernel
theorem dX4_attachAll_8 : decode cX4_attachAll 8 = .ok (.istore_n 2, 1) := by decide +kernel
theorem dX4_attachAll_9 : decode cX4_attachAll 9 = .ok (.iload_n 2, 1) := by decide +kernel
theorem dX4_attachAll_10 : decode cX4_attachAll 10 = .ok (.bipush 32, 2) := by decide +kernel
theorem dX4_attachAll_12 : decode cX4_attachAll 12 = .ok (.if_icmp .ge 25, 3) := by decide +kernel
theorem dX4_attachAll_15 : decode cX4_attachAll 15 = .ok (.aload_n 0, 1) := by decide +kernel
theorem dX4_attachAll_16 : decode cX4_attachAll 16 = .ok (.iload_n 2, 1) := by decide +kernel
theorem dX4_attachAll_17 : decode cX4_attachAll 17 = .ok (.iconst (-1), 1) := by decide +kernel
theorem dX4_attachAll_18 : decode cX4_attachAll 18 = .ok (.iload_n 1, 1) := by decide +kernel
theorem dX4_attachAll_19 : decode cX4_attachAll 19 = .ok (.invokevirtual 35, 3) := by decide +kernel
theorem dX4_attachAll_22 : decode cX4_attachAll 22 = .ok (.ifCond .eq 9, 3) := by decide +kernel
theorem dX4_attachAll_25 : decode cX4_attachAll 25 = .ok (.aload_n 0, 1) := by decide +kernel
theorem dX4_attachAll_26 : decode cX4_attachAll 26 = .ok (.iload_n 2, 1) := by decide +kernel
theorem dX4_attachAll_27 : decode cX4_attachAll 27 = .ok (.iload_n 1, 1) := by decide +kernel
theorem dX4_attachAll_28 : decode cX4_attachAll 28 = .ok (.invokevirtual 77, 3) := by decide +kernel
theorem dX4_attachAll_31 : decode cX4_attachAll 31 = .ok (.iinc 2 1, 3) := by decide +kernel
theorem dX4_attachAll_34 : decode cX4_attachAll 34 = .ok (.goto (-25), 3) := by decide +kernel
theorem dX4_attachAll_37 : decode cX4_attachAll 37 = .ok (.iinc 1 1, 3) := by decide +kernel
theorem dX4_attachAll_40 : decode cX4_attachAll 40 = .ok (.goto (-38), 3) := by decide +kernel
theorem dX4_attachAll_43 : decode cX4_attachAll 43 = .ok (.return_, 1) := by decide +kernel
theorem dX4_orphans_0 : decode cX4_orphans 0 = .ok (.aload_n 0, 1) := by decide +kernel
theorem dX4_orphans_1 : decode cX4_orphans 1 = .ok (.iconst (-1), 1) := by decide +kernel
theorem dX4_orphans_2 : decode cX4_orphans 2 = .ok (.iload_n 1, 1) := by decide +kernel
theorem dX4_orphans_3 : decode cX4_orphans 3 = .ok (.invokevirtual 38, 3) := by decide +kernel
theorem dX4_orphans_6 : decode cX4_orphans 6 = .ok (.ireturn, 1) := by decide +kernel
theorem dX4_join_0 : decode cX4_join 0 = .ok (.aload_n 0, 1) := by decide +kernel
theorem dX4_join_1 : decode cX4_join 1 = .ok (.iload_n 1, 1) := by decide +kernel
theorem dX4_join_2 : decode cX4_join 2 = .ok (.invokestatic 81, 3) := by decide +kernel
theorem dX4_join_5 : decode cX4_join 5 = .ok (.ifCond .ne 7, 3) := by decide +kernel
theorem dX4_join_8 : decode cX4_join 8 = .ok (.iconst 1, 1) := by decide +kernel
theorem dX4_join_9 : decode cX4_join 9 = .ok (.goto 37, 3) := by decide +kernel
theorem dX4_join_12 : decode cX4_join 12 = .ok (.iload_n 2, 1) := by decide +kernel
theorem dX4_join_13 : decode cX4_join 13 = .ok (.iconst 0, 1) := by decide +kernel
theorem dX4_join_14 : decode cX4_join 14 = .ok (.bipush 8, 2) := by decide +kernel
theorem dX4_join_16 : decode cX4_join 16 = .ok (.invokestatic 23, 3) := by decide +kernel
theorem dX4_join_19 : decode cX4_join 19 = .ok (.ifCond .eq 10, 3) := by decide +kernel
theorem dX4_join_22 : decode cX4_join 22 = .ok (.iload_n 3, 1) := by decide +kernel
theorem dX4_join_23 : decode cX4_join 23 = .ok (.invokestatic 84, 3) := by decide +kernel
theorem dX4_join_26 : decode cX4_join 26 = .ok (.ifCond .ne 7, 3) := by decide +kernel
theorem dX4_join_29 : decode cX4_join 29 = .ok (.iconst 2, 1) := by decide +kernel
theorem dX4_join_30 : decode cX4_join 30 = .ok (.goto 16, 3) := by decide +kernel
theorem dX4_join_33 : decode cX4_join 33 = .ok (.aload_n 0, 1) := by decide +kernel
theorem dX4_join_34 : decode cX4_join 34 = .ok (.iload_n 1, 1) := by decide +kernel
theorem dX4_join_35 : decode cX4_join 35 = .ok (.invokevirtual 31, 3) := by decide +kernel
theorem dX4_join_38 : decode cX4_join 38 = .ok (.ifCond .eq 7, 3) := by decide +kernel
theorem dX4_join_41 : decode cX4_join 41 = .ok (.iconst 3, 1) := by decide +kernel
theorem dX4_join_42 : decode cX4_join 42 = .ok (.goto 4, 3) := by decide +kernel
theorem dX4_join_45 : decode cX4_join 45 = .ok (.iconst 0, 1) := by decide +kernel
theorem dX4_join_46 : decode cX4_join 46 = .ok (.putfield 16, 3) := by decide +kernel
theorem dX4_join_49 : decode cX4_join 49 = .ok (.aload_n 0, 1) := by decide +kernel
theorem dX4_join_50 : decode cX4_join 50 = .ok (.getfield 16, 3) := by decide +kernel
theorem dX4_join_53 : decode cX4_join 53 = .ok (.ifCond .eq 5, 3) := by decide +kernel
theorem dX4_join_56 : decode cX4_join 56 = .ok (.iconst 0, 1) := by decide +kernel
theorem dX4_join_57 : decode cX4_join 57 = .ok (.ireturn, 1) := by decide +kernel
theorem dX4_join_58 : decode cX4_join 58 = .ok (.aload_n 0, 1) := by decide +kernel
theorem dX4_join_59 : decode cX4_join 59 = .ok (.invokevirtual 87, 3) := by decide +kernel
theorem dX4_join_62 : decode cX4_join 62 = .ok (.iconst 0, 1) := by decide +kernel
theorem dX4_join_63 : decode cX4_join 63 = .ok (.istore 4, 2) := by decide +kernel
theorem dX4_join_65 : decode cX4_join 65 = .ok (.iload 4, 2) := by decide +kernel
theorem dX4_join_67 : decode cX4_join 67 = .ok (.bipush 12, 2) := by decide +kernel
theorem dX4_join_69 : decode cX4_join 69 = .ok (.if_icmp .ge 17, 3) := by decide +kernel
theorem dX4_join_72 : decode cX4_join 72 = .ok (.aload_n 0, 1) := by decide +kernel
theorem dX4_join_73 : decode cX4_join 73 = .ok (.iload_n 1, 1) := by decide +kernel
theorem dX4_join_74 : decode cX4_join 74 = .ok (.iload 4, 2) := by decide +kernel
theorem dX4_join_76 : decode cX4_join 76 = .ok (.iconst 0, 1) := by decide +kernel
theorem dX4_join_77 : decode cX4_join 77 = .ok (.invokevirtual 67, 3) := by decide +kernel
theorem dX4_join_80 : decode cX4_join 80 = .ok (.iinc 4 1, 3) := by decide +kernel
theorem dX4_join_83 : decode cX4_join 83 = .ok (.goto (-18), 3) := by decide +kernel
theorem dX4_join_86 : decode cX4_join 86 = .ok (.aload_n 0, 1) := by decide +kernel
theorem dX4_join_87 : decode cX4_join 87 = .ok (.iload_n 1, 1) := by decide +kernel
theorem dX4_join_88 : decode cX4_join 88 = .ok (.iconst 0, 1) := by decide +kernel
theorem dX4_join_89 : decode cX4_join 89 = .ok (.iconst 1, 1) := by decide +kernel
theorem dX4_join_90 : decode cX4_join 90 = .ok (.invokevirtual 67, 3) := by decide +kernel
theorem dX4_join_93 : decode cX4_join 93 = .ok (.aload_n 0, 1) := by decide +kernel
theorem dX4_join_94 : decode cX4_join 94 = .ok (.iload_n 1, 1) := by decide +kernel
theorem dX4_join_95 : decode cX4_join 95 = .ok (.iconst 1, 1) := by decide +kernel
theorem dX4_join_96 : decode cX4_join 96 = .ok (.iload_n 2, 1) := by decide +kernel
theorem dX4_join_97 : decode cX4_join 97 = .ok (.invokevirtual 67, 3) := by decide +kernel
theorem dX4_join_100 : decode cX4_join 100 = .ok (.aload_n 0, 1) := by decide +kernel
theorem dX4_join_101 : decode cX4_join 101 = .ok (.iload_n 1, 1) := by decide +kernel
theorem dX4_join_102 : decode cX4_join 102 = .ok (.iconst 2, 1) := by decide +kernel
theorem dX4_join_103 : decode cX4_join 103 = .ok (.iload_n 3, 1) := by decide +kernel
theorem dX4_join_104 : decode cX4_join 104 = .ok (.invokevirtual 67, 3) := by decide +kernel
theorem dX4_join_107 : decode cX4_join 107 = .ok (.iconst 0, 1) := by decide +kernel
theorem dX4_join_108 : decode cX4_join 108 = .ok (.istore 4, 2) := by decide +kernel
theorem dX4_join_110 : decode cX4_join 110 = .ok (.iload 4, 2) := by decide +kernel
theorem dX4_join_112 : decode cX4_join 112 = .ok (.iconst 4, 1) := by decide +kernel
theorem dX4_join_113 : decode cX4_join 113 = .ok (.if_icmp .ge 20, 3) := by decide +kernel
theorem dX4_join_116 : decode cX4_join 116 = .ok (.aload_n 0, 1) := by decide +kernel
theorem dX4_join_117 : decode cX4_join 117 = .ok (.iload_n 1, 1) := by decide +kernel
theorem dX4_join_118 : decode cX4_join 118 = .ok (.bipush 8, 2) := by decide +kernel
theorem dX4_join_120 : decode cX4_join 120 = .ok (.iload 4, 2) := by decide +kernel
theorem dX4_join_122 : decode cX4_join 122 = .ok (.iadd, 1) := by decide +kernel
theorem dX4_join_123 : decode cX4_join 123 = .ok (.iconst (-1), 1) := by decide +kernel
theorem dX4_join_124 : decode cX4_join 124 = .ok (.invokevirtual 67, 3) := by decide +kernel
theorem dX4_join_127 : decode cX4_join 127 = .ok (.iinc 4 1, 3) := by decide +kernel
theorem dX4_join_130 : decode cX4_join 130 = .ok (.goto (-20), 3) := by decide +kernel
theorem dX4_join_133 : decode cX4_join 133 = .ok (.aload_n 0, 1) := by decide +kernel
theorem dX4_join_134 : decode cX4_join 134 = .ok (.invokevirtual 90, 3) := by decide +kernel
theorem dX4_join_137 : decode cX4_join 137 = .ok (.iconst 0, 1) := by decide +kernel
theorem dX4_join_138 : decode cX4_join 138 = .ok (.istore 4, 2) := by decide +kernel
theorem dX4_join_140 : decode cX4_join 140 = .ok (.iconst 0, 1) := by decide +kernel
end
section
theorem dX4_join_141 : decode cX4_join 141 = .ok (.istore 5, 2) := by decide +kernel
theorem dX4_join_143 : decode cX4_join 143 = .ok (.iload 5, 2) := by decide +kernel
theorem dX4_join_145 : decode cX4_join 145 = .ok (.iconst 4, 1) := by decide +kernel
theorem dX4_join_146 : decode cX4_join 146 = .ok (.if_icmp .ge 30, 3) := by decide +kernel
theorem dX4_join_149 : decode cX4_join 149 = .ok (.iload 4, 2) := by decide +kernel
theorem dX4_join_151 : decode cX4_join 151 = .ok (.aload_n 0, 1) := by decide +kernel
theorem dX4_join_152 : decode cX4_join 152 = .ok (.iload_n 1, 1) := by decide +kernel
theorem dX4_join_153 : decode cX4_join 153 = .ok (.iload 5, 2) := by decide +kernel
theorem dX4_join_155 : decode cX4_join 155 = .ok (.invokevirtual 49, 3) := by decide +kernel
theorem dX4_join_158 : decode cX4_join 158 = .ok (.iconst (-1), 1) := by decide +kernel
theorem dX4_join_159 : decode cX4_join 159 = .ok (.if_icmp .ne 7, 3) := by decide +kernel
theorem dX4_join_162 : decode cX4_join 162 = .ok (.iconst 0, 1) := by decide +kernel
theorem dX4_join_163 : decode cX4_join 163 = .ok (.goto 4, 3) := by decide +kernel
theorem dX4_join_166 : decode cX4_join 166 = .ok (.iconst 1, 1) := by decide +kernel
theorem dX4_join_167 : decode cX4_join 167 = .ok (.iadd, 1) := by decide +kernel
theorem dX4_join_168 : decode cX4_join 168 = .ok (.istore 4, 2) := by decide +kernel
theorem dX4_join_170 : decode cX4_join 170 = .ok (.iinc 5 1, 3) := by decide +kernel
theorem dX4_join_173 : decode cX4_join 173 = .ok (.goto (-30), 3) := by decide +kernel
theorem dX4_join_176 : decode cX4_join 176 = .ok (.iload 4, 2) := by decide +kernel
theorem dX4_join_178 : decode cX4_join 178 = .ok (.ireturn, 1) := by decide +kernel
theorem dX4_goes_0 : decode cX4_goes 0 = .ok (.iconst 0, 1) := by decide +kernel
theorem dX4_goes_1 : decode cX4_goes 1 = .ok (.istore_n 2, 1) := by decide +kernel
theorem dX4_goes_2 : decode cX4_goes 2 = .ok (.iload_n 2, 1) := by decide +kernel
theorem dX4_goes_3 : decode cX4_goes 3 = .ok (.iconst 4, 1) := by decide +kernel
theorem dX4_goes_4 : decode cX4_goes 4 = .ok (.if_icmp .ge 43, 3) := by decide +kernel
theorem dX4_goes_7 : decode cX4_goes 7 = .ok (.iconst 0, 1) := by decide +kernel
theorem dX4_goes_8 : decode cX4_goes 8 = .ok (.istore_n 3, 1) := by decide +kernel
theorem dX4_goes_9 : decode cX4_goes 9 = .ok (.iload_n 3, 1) := by decide +kernel
theorem dX4_goes_10 : decode cX4_goes 10 = .ok (.bipush 32, 2) := by decide +kernel
theorem dX4_goes_12 : decode cX4_goes 12 = .ok (.if_icmp .ge 29, 3) := by decide +kernel
theorem dX4_goes_15 : decode cX4_goes 15 = .ok (.aload_n 0, 1) := by decide +kernel
theorem dX4_goes_16 : decode cX4_goes 16 = .ok (.iload_n 3, 1) := by decide +kernel
theorem dX4_goes_17 : decode cX4_goes 17 = .ok (.iload_n 1, 1) := by decide +kernel
theorem dX4_goes_18 : decode cX4_goes 18 = .ok (.iload_n 2, 1) := by decide +kernel
theorem dX4_goes_19 : decode cX4_goes 19 = .ok (.invokevirtual 35, 3) := by decide +kernel
theorem dX4_goes_22 : decode cX4_goes 22 = .ok (.ifCond .eq 13, 3) := by decide +kernel
theorem dX4_goes_25 : decode cX4_goes 25 = .ok (.aload_n 0, 1) := by decide +kernel
theorem dX4_goes_26 : decode cX4_goes 26 = .ok (.iload_n 3, 1) := by decide +kernel
theorem dX4_goes_27 : decode cX4_goes 27 = .ok (.bipush 8, 2) := by decide +kernel
theorem dX4_goes_29 : decode cX4_goes 29 = .ok (.iload_n 2, 1) := by decide +kernel
theorem dX4_goes_30 : decode cX4_goes 30 = .ok (.iadd, 1) := by decide +kernel
theorem dX4_goes_31 : decode cX4_goes 31 = .ok (.iconst (-1), 1) := by decide +kernel
theorem dX4_goes_32 : decode cX4_goes 32 = .ok (.invokevirtual 67, 3) := by decide +kernel
theorem dX4_goes_35 : decode cX4_goes 35 = .ok (.iinc 3 1, 3) := by decide +kernel
theorem dX4_goes_38 : decode cX4_goes 38 = .ok (.goto (-29), 3) := by decide +kernel
theorem dX4_goes_41 : decode cX4_goes 41 = .ok (.iinc 2 1, 3) := by decide +kernel
theorem dX4_goes_44 : decode cX4_goes 44 = .ok (.goto (-42), 3) := by decide +kernel
theorem dX4_goes_47 : decode cX4_goes 47 = .ok (.iconst 0, 1) := by decide +kernel
theorem dX4_goes_48 : decode cX4_goes 48 = .ok (.istore_n 2, 1) := by decide +kernel
theorem dX4_goes_49 : decode cX4_goes 49 = .ok (.iload_n 2, 1) := by decide +kernel
theorem dX4_goes_50 : decode cX4_goes 50 = .ok (.bipush 12, 2) := by decide +kernel
theorem dX4_goes_52 : decode cX4_goes 52 = .ok (.if_icmp .ge 16, 3) := by decide +kernel
theorem dX4_goes_55 : decode cX4_goes 55 = .ok (.aload_n 0, 1) := by decide +kernel
theorem dX4_goes_56 : decode cX4_goes 56 = .ok (.iload_n 1, 1) := by decide +kernel
theorem dX4_goes_57 : decode cX4_goes 57 = .ok (.iload_n 2, 1) := by decide +kernel
theorem dX4_goes_58 : decode cX4_goes 58 = .ok (.iconst 0, 1) := by decide +kernel
theorem dX4_goes_59 : decode cX4_goes 59 = .ok (.invokevirtual 67, 3) := by decide +kernel
theorem dX4_goes_62 : decode cX4_goes 62 = .ok (.iinc 2 1, 3) := by decide +kernel
theorem dX4_goes_65 : decode cX4_goes 65 = .ok (.goto (-16), 3) := by decide +kernel
theorem dX4_goes_68 : decode cX4_goes 68 = .ok (.aload_n 0, 1) := by decide +kernel
theorem dX4_goes_69 : decode cX4_goes 69 = .ok (.invokevirtual 90, 3) := by decide +kernel
theorem dX4_goes_72 : decode cX4_goes 72 = .ok (.return_, 1) := by decide +kernel
theorem dX4_leave_0 : decode cX4_leave 0 = .ok (.aload_n 0, 1) := by decide +kernel
theorem dX4_leave_1 : decode cX4_leave 1 = .ok (.iload_n 1, 1) := by decide +kernel
theorem dX4_leave_2 : decode cX4_leave 2 = .ok (.invokestatic 81, 3) := by decide +kernel
theorem dX4_leave_5 : decode cX4_leave 5 = .ok (.ifCond .ne 7, 3) := by decide +kernel
theorem dX4_leave_8 : decode cX4_leave 8 = .ok (.iconst 1, 1) := by decide +kernel
theorem dX4_leave_9 : decode cX4_leave 9 = .ok (.goto 16, 3) := by decide +kernel
theorem dX4_leave_12 : decode cX4_leave 12 = .ok (.aload_n 0, 1) := by decide +kernel
theorem dX4_leave_13 : decode cX4_leave 13 = .ok (.iload_n 1, 1) := by decide +kernel
theorem dX4_leave_14 : decode cX4_leave 14 = .ok (.invokevirtual 31, 3) := by decide +kernel
theorem dX4_leave_17 : decode cX4_leave 17 = .ok (.ifCond .eq 7, 3) := by decide +kernel
theorem dX4_leave_20 : decode cX4_leave 20 = .ok (.iconst 0, 1) := by decide +kernel
theorem dX4_leave_21 : decode cX4_leave 21 = .ok (.goto 4, 3) := by decide +kernel
theorem dX4_leave_24 : decode cX4_leave 24 = .ok (.iconst 2, 1) := by decide +kernel
theorem dX4_leave_25 : decode cX4_leave 25 = .ok (.putfield 16, 3) := by decide +kernel
theorem dX4_leave_28 : decode cX4_leave 28 = .ok (.aload_n 0, 1) := by decide +kernel
theorem dX4_leave_29 : decode cX4_leave 29 = .ok (.getfield 16, 3) := by decide +kernel
theorem dX4_leave_32 : decode cX4_leave 32 = .ok (.ifCond .eq 5, 3) := by decide +kernel
theorem dX4_leave_35 : decode cX4_leave 35 = .ok (.iconst 0, 1) := by decide +kernel
theorem dX4_leave_36 : decode cX4_leave 36 = .ok (.ireturn, 1) := by decide +kernel
theorem dX4_leave_37 : decode cX4_leave 37 = .ok (.aload_n 0, 1) := by decide +kernel
theorem dX4_leave_38 : decode cX4_leave 38 = .ok (.invokevirtual 87, 3) := by decide +kernel
theorem dX4_leave_41 : decode cX4_leave 41 = .ok (.aload_n 0, 1) := by decide +kernel
theorem dX4_leave_42 : decode cX4_leave 42 = .ok (.iload_n 1, 1) := by decide +kernel
theorem dX4_leave_43 : decode cX4_leave 43 = .ok (.invokevirtual 41, 3) := by decide +kernel
theorem dX4_leave_46 : decode cX4_leave 46 = .ok (.istore_n 2, 1) := by decide +kernel
theorem dX4_leave_47 : decode cX4_leave 47 = .ok (.aload_n 0, 1) := by decide +kernel
theorem dX4_leave_48 : decode cX4_leave 48 = .ok (.iload_n 1, 1) := by decide +kernel
theorem dX4_leave_49 : decode cX4_leave 49 = .ok (.invokevirtual 93, 3) := by decide +kernel
theorem dX4_leave_52 : decode cX4_leave 52 = .ok (.iload_n 2, 1) := by decide +kernel
theorem dX4_leave_53 : decode cX4_leave 53 = .ok (.ireturn, 1) := by decide +kernel
theorem dX4_fail_0 : decode cX4_fail 0 = .ok (.aload_n 0, 1) := by decide +kernel
theorem dX4_fail_1 : decode cX4_fail 1 = .ok (.iload_n 1, 1) := by decide +kernel
theorem dX4_fail_2 : decode cX4_fail 2 = .ok (.invokestatic 81, 3) := by decide +kernel
theorem dX4_fail_5 : decode cX4_fail 5 = .ok (.ifCond .ne 7, 3) := by decide +kernel
theorem dX4_fail_8 : decode cX4_fail 8 = .ok (.iconst 1, 1) := by decide +kernel
theorem dX4_fail_9 : decode cX4_fail 9 = .ok (.goto 25, 3) := by decide +kernel
theorem dX4_fail_12 : decode cX4_fail 12 = .ok (.aload_n 0, 1) := by decide +kernel
theorem dX4_fail_13 : decode cX4_fail 13 = .ok (.iload_n 1, 1) := by decide +kernel
theorem dX4_fail_14 : decode cX4_fail 14 = .ok (.invokevirtual 31, 3) := by decide +kernel
theorem dX4_fail_17 : decode cX4_fail 17 = .ok (.ifCond .eq 16, 3) := by decide +kernel
theorem dX4_fail_20 : decode cX4_fail 20 = .ok (.aload_n 0, 1) := by decide +kernel
theorem dX4_fail_21 : decode cX4_fail 21 = .ok (.iload_n 1, 1) := by decide +kernel
theorem dX4_fail_22 : decode cX4_fail 22 = .ok (.iconst 3, 1) := by decide +kernel
theorem dX4_fail_23 : decode cX4_fail 23 = .ok (.invokevirtual 27, 3) := by decide +kernel
theorem dX4_fail_26 : decode cX4_fail 26 = .ok (.ifCond .ne 7, 3) := by decide +kernel
theorem dX4_fail_29 : decode cX4_fail 29 = .ok (.iconst 0, 1) := by decide +kernel
theorem dX4_fail_30 : decode cX4_fail 30 = .ok (.goto 4, 3) := by decide +kernel
theorem dX4_fail_33 : decode cX4_fail 33 = .ok (.iconst 2, 1) := by decide +kernel
theorem dX4_fail_34 : decode cX4_fail 34 = .ok (.putfield 16, 3) := by decide +kernel
theorem dX4_fail_37 : decode cX4_fail 37 = .ok (.aload_n 0, 1) := by decide +kernel
theorem dX4_fail_38 : decode cX4_fail 38 = .ok (.getfield 16, 3) := by decide +kernel
theorem dX4_fail_41 : decode cX4_fail 41 = .ok (.ifCond .eq 5, 3) := by decide +kernel
theorem dX4_fail_44 : decode cX4_fail 44 = .ok (.iconst 0, 1) := by decide +kernel
theorem dX4_fail_45 : decode cX4_fail 45 = .ok (.ireturn, 1) := by decide +kernel
theorem dX4_fail_46 : decode cX4_fail 46 = .ok (.aload_n 0, 1) := by decide +kernel
theorem dX4_fail_47 : decode cX4_fail 47 = .ok (.invokevirtual 87, 3) := by decide +kernel
theorem dX4_fail_50 : decode cX4_fail 50 = .ok (.aload_n 0, 1) := by decide +kernel
theorem dX4_fail_51 : decode cX4_fail 51 = .ok (.iload_n 1, 1) := by decide +kernel
theorem dX4_fail_52 : decode cX4_fail 52 = .ok (.iconst 3, 1) := by decide +kernel
theorem dX4_fail_53 : decode cX4_fail 53 = .ok (.iconst 1, 1) := by decide +kernel
theorem dX4_fail_54 : decode cX4_fail 54 = .ok (.invokevirtual 67, 3) := by decide +kernel
theorem dX4_fail_57 : decode cX4_fail 57 = .ok (.aload_n 0, 1) := by decide +kernel
theorem dX4_fail_58 : decode cX4_fail 58 = .ok (.iload_n 1, 1) := by decide +kernel
theorem dX4_fail_59 : decode cX4_fail 59 = .ok (.iconst 4, 1) := by decide +kernel
theorem dX4_fail_60 : decode cX4_fail 60 = .ok (.aload_n 0, 1) := by decide +kernel
theorem dX4_fail_61 : decode cX4_fail 61 = .ok (.getfield 7, 3) := by decide +kernel
theorem dX4_fail_64 : decode cX4_fail 64 = .ok (.iconst 2, 1) := by decide +kernel
theorem dX4_fail_65 : decode cX4_fail 65 = .ok (.iaload, 1) := by decide +kernel
theorem dX4_fail_66 : decode cX4_fail 66 = .ok (.aload_n 0, 1) := by decide +kernel
theorem dX4_fail_67 : decode cX4_fail 67 = .ok (.getfield 7, 3) := by decide +kernel
theorem dX4_fail_70 : decode cX4_fail 70 = .ok (.iconst 1, 1) := by decide +kernel
theorem dX4_fail_71 : decode cX4_fail 71 = .ok (.iaload, 1) := by decide +kernel
theorem dX4_fail_72 : decode cX4_fail 72 = .ok (.iadd, 1) := by decide +kernel
theorem dX4_fail_73 : decode cX4_fail 73 = .ok (.invokevirtual 67, 3) := by decide +kernel
theorem dX4_fail_76 : decode cX4_fail 76 = .ok (.aload_n 0, 1) := by decide +kernel
theorem dX4_fail_77 : decode cX4_fail 77 = .ok (.getfield 7, 3) := by decide +kernel
theorem dX4_fail_80 : decode cX4_fail 80 = .ok (.iconst 2, 1) := by decide +kernel
theorem dX4_fail_81 : decode cX4_fail 81 = .ok (.iaload, 1) := by decide +kernel
theorem dX4_fail_82 : decode cX4_fail 82 = .ok (.aload_n 0, 1) := by decide +kernel
theorem dX4_fail_83 : decode cX4_fail 83 = .ok (.getfield 7, 3) := by decide +kernel
theorem dX4_fail_86 : decode cX4_fail 86 = .ok (.iconst 1, 1) := by decide +kernel
theorem dX4_fail_87 : decode cX4_fail 87 = .ok (.iaload, 1) := by decide +kernel
theorem dX4_fail_88 : decode cX4_fail 88 = .ok (.iadd, 1) := by decide +kernel
theorem dX4_fail_89 : decode cX4_fail 89 = .ok (.ireturn, 1) := by decide +kernel
theorem dX4_cut_0 : decode cX4_cut 0 = .ok (.aload_n 0, 1) := by decide +kernel
theorem dX4_cut_1 : decode cX4_cut 1 = .ok (.iload_n 1, 1) := by decide +kernel
theorem dX4_cut_2 : decode cX4_cut 2 = .ok (.iload_n 2, 1) := by decide +kernel
theorem dX4_cut_3 : decode cX4_cut 3 = .ok (.invokevirtual 38, 3) := by decide +kernel
theorem dX4_cut_6 : decode cX4_cut 6 = .ok (.iload_n 3, 1) := by decide +kernel
theorem dX4_cut_7 : decode cX4_cut 7 = .ok (.if_icmp .le 21, 3) := by decide +kernel
theorem dX4_cut_10 : decode cX4_cut 10 = .ok (.aload_n 0, 1) := by decide +kernel
theorem dX4_cut_11 : decode cX4_cut 11 = .ok (.aload_n 0, 1) := by decide +kernel
theorem dX4_cut_12 : decode cX4_cut 12 = .ok (.iload_n 1, 1) := by decide +kernel
theorem dX4_cut_13 : decode cX4_cut 13 = .ok (.iload_n 2, 1) := by decide +kernel
theorem dX4_cut_14 : decode cX4_cut 14 = .ok (.invokevirtual 64, 3) := by decide +kernel
theorem dX4_cut_17 : decode cX4_cut 17 = .ok (.bipush 8, 2) := by decide +kernel
theorem dX4_cut_19 : decode cX4_cut 19 = .ok (.iload_n 2, 1) := by decide +kernel
theorem dX4_cut_20 : decode cX4_cut 20 = .ok (.iadd, 1) := by decide +kernel
theorem dX4_cut_21 : decode cX4_cut 21 = .ok (.iconst (-1), 1) := by decide +kernel
theorem dX4_cut_22 : decode cX4_cut 22 = .ok (.invokevirtual 67, 3) := by decide +kernel
theorem dX4_cut_25 : decode cX4_cut 25 = .ok (.goto (-25), 3) := by decide +kernel
theorem dX4_cut_28 : decode cX4_cut 28 = .ok (.return_, 1) := by decide +kernel
theorem dX4_setBound_0 : decode cX4_setBound 0 = .ok (.aload_n 0, 1) := by decide +kernel
theorem dX4_setBound_1 : decode cX4_setBound 1 = .ok (.iload_n 1, 1) := by decide +kernel
theorem dX4_setBound_2 : decode cX4_setBound 2 = .ok (.invokestatic 81, 3) := by decide +kernel
theorem dX4_setBound_5 : decode cX4_setBound 5 = .ok (.ifCond .ne 7, 3) := by decide +kernel
theorem dX4_setBound_8 : decode cX4_setBound 8 = .ok (.iconst 1, 1) := by decide +kernel
theorem dX4_setBound_9 : decode cX4_setBound 9 = .ok (.goto 30, 3) := by decide +kernel
theorem dX4_setBound_12 : decode cX4_setBound 12 = .ok (.iload_n 2, 1) := by decide +kernel
theorem dX4_setBound_13 : decode cX4_setBound 13 = .ok (.iconst 0, 1) := by decide +kernel
theorem dX4_setBound_14 : decode cX4_setBound 14 = .ok (.bipush 8, 2) := by decide +kernel
theorem dX4_setBound_16 : decode cX4_setBound 16 = .ok (.invokestatic 23, 3) := by decide +kernel
theorem dX4_setBound_19 : decode cX4_setBound 19 = .ok (.ifCond .ne 7, 3) := by decide +kernel
theorem dX4_setBound_22 : decode cX4_setBound 22 = .ok (.iconst 2, 1) := by decide +kernel
theorem dX4_setBound_23 : decode cX4_setBound 23 = .ok (.goto 16, 3) := by decide +kernel
theorem dX4_setBound_26 : decode cX4_setBound 26 = .ok (.aload_n 0, 1) := by decide +kernel
theorem dX4_setBound_27 : decode cX4_setBound 27 = .ok (.iload_n 1, 1) := by decide +kernel
theorem dX4_setBound_28 : decode cX4_setBound 28 = .ok (.invokevirtual 31, 3) := by decide +kernel
theorem dX4_setBound_31 : decode cX4_setBound 31 = .ok (.ifCond .eq 7, 3) := by decide +kernel
theorem dX4_setBound_34 : decode cX4_setBound 34 = .ok (.iconst 0, 1) := by decide +kernel
theorem dX4_setBound_35 : decode cX4_setBound 35 = .ok (.goto 4, 3) := by decide +kernel
theorem dX4_setBound_38 : decode cX4_setBound 38 = .ok (.iconst 3, 1) := by decide +kernel
theorem dX4_setBound_39 : decode cX4_setBound 39 = .ok (.putfield 16, 3) := by decide +kernel
theorem dX4_setBound_42 : decode cX4_setBound 42 = .ok (.aload_n 0, 1) := by decide +kernel
theorem dX4_setBound_43 : decode cX4_setBound 43 = .ok (.getfield 16, 3) := by decide +kernel
theorem dX4_setBound_46 : decode cX4_setBound 46 = .ok (.ifCond .eq 5, 3) := by decide +kernel
theorem dX4_setBound_49 : decode cX4_setBound 49 = .ok (.iconst 0, 1) := by decide +kernel
theorem dX4_setBound_50 : decode cX4_setBound 50 = .ok (.ireturn, 1) := by decide +kernel
theorem dX4_setBound_51 : decode cX4_setBound 51 = .ok (.aload_n 0, 1) := by decide +kernel
theorem dX4_setBound_52 : decode cX4_setBound 52 = .ok (.invokevirtual 87, 3) := by decide +kernel
theorem dX4_setBound_55 : decode cX4_setBound 55 = .ok (.aload_n 0, 1) := by decide +kernel
theorem dX4_setBound_56 : decode cX4_setBound 56 = .ok (.iload_n 1, 1) := by decide +kernel
theorem dX4_setBound_57 : decode cX4_setBound 57 = .ok (.iconst 1, 1) := by decide +kernel
theorem dX4_setBound_58 : decode cX4_setBound 58 = .ok (.invokevirtual 27, 3) := by decide +kernel
theorem dX4_setBound_61 : decode cX4_setBound 61 = .ok (.istore_n 3, 1) := by decide +kernel
theorem dX4_setBound_62 : decode cX4_setBound 62 = .ok (.aload_n 0, 1) := by decide +kernel
theorem dX4_setBound_63 : decode cX4_setBound 63 = .ok (.iload_n 1, 1) := by decide +kernel
theorem dX4_setBound_64 : decode cX4_setBound 64 = .ok (.iconst 1, 1) := by decide +kernel
theorem dX4_setBound_65 : decode cX4_setBound 65 = .ok (.iload_n 2, 1) := by decide +kernel
theorem dX4_setBound_66 : decode cX4_setBound 66 = .ok (.invokevirtual 67, 3) := by decide +kernel
theorem dX4_setBound_69 : decode cX4_setBound 69 = .ok (.iconst 0, 1) := by decide +kernel
theorem dX4_setBound_70 : decode cX4_setBound 70 = .ok (.istore 4, 2) := by decide +kernel
theorem dX4_setBound_72 : decode cX4_setBound 72 = .ok (.iload 4, 2) := by decide +kernel
theorem dX4_setBound_74 : decode cX4_setBound 74 = .ok (.iconst 4, 1) := by decide +kernel
theorem dX4_setBound_75 : decode cX4_setBound 75 = .ok (.if_icmp .ge 17, 3) := by decide +kernel
theorem dX4_setBound_78 : decode cX4_setBound 78 = .ok (.aload_n 0, 1) := by decide +kernel
theorem dX4_setBound_79 : decode cX4_setBound 79 = .ok (.iload_n 1, 1) := by decide +kernel
theorem dX4_setBound_80 : decode cX4_setBound 80 = .ok (.iload 4, 2) := by decide +kernel
theorem dX4_setBound_82 : decode cX4_setBound 82 = .ok (.iload_n 2, 1) := by decide +kernel
theorem dX4_setBound_83 : decode cX4_setBound 83 = .ok (.invokevirtual 97, 3) := by decide +kernel
theorem dX4_setBound_86 : decode cX4_setBound 86 = .ok (.iinc 4 1, 3) := by decide +kernel
theorem dX4_setBound_89 : decode cX4_setBound 89 = .ok (.goto (-17), 3) := by decide +kernel
theorem dX4_setBound_92 : decode cX4_setBound 92 = .ok (.aload_n 0, 1) := by decide +kernel
theorem dX4_setBound_93 : decode cX4_setBound 93 = .ok (.invokevirtual 90, 3) := by decide +kernel
theorem dX4_setBound_96 : decode cX4_setBound 96 = .ok (.iload_n 3, 1) := by decide +kernel
theorem dX4_setBound_97 : decode cX4_setBound 97 = .ok (.ireturn, 1) := by decide +kernel
theorem dX4_setSource_0 : decode cX4_setSource 0 = .ok (.aload_n 0, 1) := by decide +kernel
theorem dX4_setSource_1 : decode cX4_setSource 1 = .ok (.iload_n 1, 1) := by decide +kernel
theorem dX4_setSource_2 : decode cX4_setSource 2 = .ok (.iconst 1, 1) := by decide +kernel
theorem dX4_setSource_3 : decode cX4_setSource 3 = .ok (.bipush 8, 2) := by decide +kernel
theorem dX4_setSource_5 : decode cX4_setSource 5 = .ok (.invokestatic 23, 3) := by decide +kernel
theorem dX4_setSource_8 : decode cX4_setSource 8 = .ok (.ifCond .eq 7, 3) := by decide +kernel
theorem dX4_setSource_11 : decode cX4_setSource 11 = .ok (.iconst 0, 1) := by decide +kernel
theorem dX4_setSource_12 : decode cX4_setSource 12 = .ok (.goto 4, 3) := by decide +kernel
theorem dX4_setSource_15 : decode cX4_setSource 15 = .ok (.iconst 1, 1) := by decide +kernel
theorem dX4_setSource_16 : decode cX4_setSource 16 = .ok (.putfield 16, 3) := by decide +kernel
theorem dX4_setSource_19 : decode cX4_setSource 19 = .ok (.aload_n 0, 1) := by decide +kernel
theorem dX4_setSource_20 : decode cX4_setSource 20 = .ok (.getfield 16, 3) := by decide +kernel
theorem dX4_setSource_23 : decode cX4_setSource 23 = .ok (.ifCond .eq 5, 3) := by decide +kernel
theorem dX4_setSource_26 : decode cX4_setSource 26 = .ok (.iconst 0, 1) := by decide +kernel
theorem dX4_setSource_27 : decode cX4_setSource 27 = .ok (.ireturn, 1) := by decide +kernel
theorem dX4_setSource_28 : decode cX4_setSource 28 = .ok (.aload_n 0, 1) := by decide +kernel
theorem dX4_setSource_29 : decode cX4_setSource 29 = .ok (.invokevirtual 87, 3) := by decide +kernel
theorem dX4_setSource_32 : decode cX4_setSource 32 = .ok (.aload_n 0, 1) := by decide +kernel
theorem dX4_setSource_33 : decode cX4_setSource 33 = .ok (.getfield 7, 3) := by decide +kernel
theorem dX4_setSource_36 : decode cX4_setSource 36 = .ok (.iconst 0, 1) := by decide +kernel
theorem dX4_setSource_37 : decode cX4_setSource 37 = .ok (.iaload, 1) := by decide +kernel
theorem dX4_setSource_38 : decode cX4_setSource 38 = .ok (.istore_n 2, 1) := by decide +kernel
theorem dX4_setSource_39 : decode cX4_setSource 39 = .ok (.aload_n 0, 1) := by decide +kernel
theorem dX4_setSource_40 : decode cX4_setSource 40 = .ok (.getfield 7, 3) := by decide +kernel
theorem dX4_setSource_43 : decode cX4_setSource 43 = .ok (.iconst 0, 1) := by decide +kernel
theorem dX4_setSource_44 : decode cX4_setSource 44 = .ok (.iload_n 1, 1) := by decide +kernel
theorem dX4_setSource_45 : decode cX4_setSource 45 = .ok (.iastore, 1) := by decide +kernel
theorem dX4_setSource_46 : decode cX4_setSource 46 = .ok (.iconst 0, 1) := by decide +kernel
theorem dX4_setSource_47 : decode cX4_setSource 47 = .ok (.istore_n 3, 1) := by decide +kernel
theorem dX4_setSource_48 : decode cX4_setSource 48 = .ok (.iload_n 3, 1) := by decide +kernel
theorem dX4_setSource_49 : decode cX4_setSource 49 = .ok (.iconst 4, 1) := by decide +kernel
theorem dX4_setSource_50 : decode cX4_setSource 50 = .ok (.if_icmp .ge 17, 3) := by decide +kernel
theorem dX4_setSource_53 : decode cX4_setSource 53 = .ok (.aload_n 0, 1) := by decide +kernel
theorem dX4_setSource_54 : decode cX4_setSource 54 = .ok (.bipush 100, 2) := by decide +kernel
theorem dX4_setSource_56 : decode cX4_setSource 56 = .ok (.iload_n 3, 1) := by decide +kernel
theorem dX4_setSource_57 : decode cX4_setSource 57 = .ok (.iload_n 1, 1) := by decide +kernel
theorem dX4_setSource_58 : decode cX4_setSource 58 = .ok (.invokevirtual 97, 3) := by decide +kernel
theorem dX4_setSource_61 : decode cX4_setSource 61 = .ok (.iinc 3 1, 3) := by decide +kernel
theorem dX4_setSource_64 : decode cX4_setSource 64 = .ok (.goto (-16), 3) := by decide +kernel
theorem dX4_setSource_67 : decode cX4_setSource 67 = .ok (.aload_n 0, 1) := by decide +kernel
theorem dX4_setSource_68 : decode cX4_setSource 68 = .ok (.invokevirtual 90, 3) := by decide +kernel
theorem dX4_setSource_71 : decode cX4_setSource 71 = .ok (.iload_n 2, 1) := by decide +kernel
theorem dX4_setSource_72 : decode cX4_setSource 72 = .ok (.ireturn, 1) := by decide +kernel
theorem dX4_setDelay_0 : decode cX4_setDelay 0 = .ok (.aload_n 0, 1) := by decide +kernel
theorem dX4_setDelay_1 : decode cX4_setDelay 1 = .ok (.iload_n 1, 1) := by decide +kernel
theorem dX4_setDelay_2 : decode cX4_setDelay 2 = .ok (.iconst 1, 1) := by decide +kernel
theorem dX4_setDelay_3 : decode cX4_setDelay 3 = .ok (.bipush 20, 2) := by decide +kernel
theorem dX4_setDelay_5 : decode cX4_setDelay 5 = .ok (.invokestatic 23, 3) := by decide +kernel
theorem dX4_setDelay_8 : decode cX4_setDelay 8 = .ok (.ifCond .eq 7, 3) := by decide +kernel
theorem dX4_setDelay_11 : decode cX4_setDelay 11 = .ok (.iconst 0, 1) := by decide +kernel
theorem dX4_setDelay_12 : decode cX4_setDelay 12 = .ok (.goto 4, 3) := by decide +kernel
theorem dX4_setDelay_15 : decode cX4_setDelay 15 = .ok (.iconst 1, 1) := by decide +kernel
theorem dX4_setDelay_16 : decode cX4_setDelay 16 = .ok (.putfield 16, 3) := by decide +kernel
theorem dX4_setDelay_19 : decode cX4_setDelay 19 = .ok (.aload_n 0, 1) := by decide +kernel
theorem dX4_setDelay_20 : decode cX4_setDelay 20 = .ok (.getfield 16, 3) := by decide +kernel
theorem dX4_setDelay_23 : decode cX4_setDelay 23 = .ok (.ifCond .eq 5, 3) := by decide +kernel
theorem dX4_setDelay_26 : decode cX4_setDelay 26 = .ok (.iconst 0, 1) := by decide +kernel
theorem dX4_setDelay_27 : decode cX4_setDelay 27 = .ok (.ireturn, 1) := by decide +kernel
theorem dX4_setDelay_28 : decode cX4_setDelay 28 = .ok (.aload_n 0, 1) := by decide +kernel
theorem dX4_setDelay_29 : decode cX4_setDelay 29 = .ok (.invokevirtual 87, 3) := by decide +kernel
theorem dX4_setDelay_32 : decode cX4_setDelay 32 = .ok (.aload_n 0, 1) := by decide +kernel
theorem dX4_setDelay_33 : decode cX4_setDelay 33 = .ok (.getfield 7, 3) := by decide +kernel
theorem dX4_setDelay_36 : decode cX4_setDelay 36 = .ok (.iconst 1, 1) := by decide +kernel
theorem dX4_setDelay_37 : decode cX4_setDelay 37 = .ok (.iaload, 1) := by decide +kernel
theorem dX4_setDelay_38 : decode cX4_setDelay 38 = .ok (.istore_n 2, 1) := by decide +kernel
theorem dX4_setDelay_39 : decode cX4_setDelay 39 = .ok (.aload_n 0, 1) := by decide +kernel
theorem dX4_setDelay_40 : decode cX4_setDelay 40 = .ok (.getfield 7, 3) := by decide +kernel
theorem dX4_setDelay_43 : decode cX4_setDelay 43 = .ok (.iconst 1, 1) := by decide +kernel
theorem dX4_setDelay_44 : decode cX4_setDelay 44 = .ok (.iload_n 1, 1) := by decide +kernel
theorem dX4_setDelay_45 : decode cX4_setDelay 45 = .ok (.iastore, 1) := by decide +kernel
theorem dX4_setDelay_46 : decode cX4_setDelay 46 = .ok (.iload_n 2, 1) := by decide +kernel
theorem dX4_setDelay_47 : decode cX4_setDelay 47 = .ok (.ireturn, 1) := by decide +kernel
theorem dX4_repair_0 : decode cX4_repair 0 = .ok (.aload_n 0, 1) := by decide +kernel
theorem dX4_repair_1 : decode cX4_repair 1 = .ok (.iconst 0, 1) := by decide +kernel
theorem dX4_repair_2 : decode cX4_repair 2 = .ok (.putfield 16, 3) := by decide +kernel
theorem dX4_repair_5 : decode cX4_repair 5 = .ok (.aload_n 0, 1) := by decide +kernel
theorem dX4_repair_6 : decode cX4_repair 6 = .ok (.invokevirtual 87, 3) := by decide +kernel
theorem dX4_repair_9 : decode cX4_repair 9 = .ok (.aload_n 0, 1) := by decide +kernel
theorem dX4_repair_10 : decode cX4_repair 10 = .ok (.invokevirtual 90, 3) := by decide +kernel
theorem dX4_repair_13 : decode cX4_repair 13 = .ok (.aload_n 0, 1) := by decide +kernel
theorem dX4_repair_14 : decode cX4_repair 14 = .ok (.iconst 0, 1) := by decide +kernel
theorem dX4_repair_15 : decode cX4_repair 15 = .ok (.invokevirtual 100, 3) := by decide +kernel
theorem dX4_repair_18 : decode cX4_repair 18 = .ok (.aload_n 0, 1) := by decide +kernel
theorem dX4_repair_19 : decode cX4_repair 19 = .ok (.iconst 1, 1) := by decide +kernel
theorem dX4_repair_20 : decode cX4_repair 20 = .ok (.invokevirtual 100, 3) := by decide +kernel
theorem dX4_repair_23 : decode cX4_repair 23 = .ok (.iadd, 1) := by decide +kernel
theorem dX4_repair_24 : decode cX4_repair 24 = .ok (.aload_n 0, 1) := by decide +kernel
theorem dX4_repair_25 : decode cX4_repair 25 = .ok (.iconst 2, 1) := by decide +kernel
theorem dX4_repair_26 : decode cX4_repair 26 = .ok (.invokevirtual 100, 3) := by decide +kernel
theorem dX4_repair_29 : decode cX4_repair 29 = .ok (.iadd, 1) := by decide +kernel
theorem dX4_repair_30 : decode cX4_repair 30 = .ok (.aload_n 0, 1) := by decide +kernel
theorem dX4_repair_31 : decode cX4_repair 31 = .ok (.iconst 3, 1) := by decide +kernel
theorem dX4_repair_32 : decode cX4_repair 32 = .ok (.invokevirtual 100, 3) := by decide +kernel
theorem dX4_repair_35 : decode cX4_repair 35 = .ok (.iadd, 1) := by decide +kernel
theorem dX4_repair_36 : decode cX4_repair 36 = .ok (.ireturn, 1) := by decide +kernel
theorem dX4_rejoin_0 : decode cX4_rejoin 0 = .ok (.aload_n 0, 1) := by decide +kernel
theorem dX4_rejoin_1 : decode cX4_rejoin 1 = .ok (.iload_n 1, 1) := by decide +kernel
theorem dX4_rejoin_2 : decode cX4_rejoin 2 = .ok (.invokestatic 81, 3) := by decide +kernel
theorem dX4_rejoin_5 : decode cX4_rejoin 5 = .ok (.ifCond .eq 10, 3) := by decide +kernel
theorem dX4_rejoin_8 : decode cX4_rejoin 8 = .ok (.iload_n 2, 1) := by decide +kernel
theorem dX4_rejoin_9 : decode cX4_rejoin 9 = .ok (.invokestatic 84, 3) := by decide +kernel
theorem dX4_rejoin_12 : decode cX4_rejoin 12 = .ok (.ifCond .ne 7, 3) := by decide +kernel
theorem dX4_rejoin_15 : decode cX4_rejoin 15 = .ok (.iconst 1, 1) := by decide +kernel
theorem dX4_rejoin_16 : decode cX4_rejoin 16 = .ok (.goto 16, 3) := by decide +kernel
theorem dX4_rejoin_19 : decode cX4_rejoin 19 = .ok (.aload_n 0, 1) := by decide +kernel
theorem dX4_rejoin_20 : decode cX4_rejoin 20 = .ok (.iload_n 1, 1) := by decide +kernel
theorem dX4_rejoin_21 : decode cX4_rejoin 21 = .ok (.invokevirtual 31, 3) := by decide +kernel
theorem dX4_rejoin_24 : decode cX4_rejoin 24 = .ok (.ifCond .eq 7, 3) := by decide +kernel
theorem dX4_rejoin_27 : decode cX4_rejoin 27 = .ok (.iconst 0, 1) := by decide +kernel
theorem dX4_rejoin_28 : decode cX4_rejoin 28 = .ok (.goto 4, 3) := by decide +kernel
theorem dX4_rejoin_31 : decode cX4_rejoin 31 = .ok (.iconst 2, 1) := by decide +kernel
theorem dX4_rejoin_32 : decode cX4_rejoin 32 = .ok (.putfield 16, 3) := by decide +kernel
theorem dX4_rejoin_35 : decode cX4_rejoin 35 = .ok (.aload_n 0, 1) := by decide +kernel
theorem dX4_rejoin_36 : decode cX4_rejoin 36 = .ok (.getfield 16, 3) := by decide +kernel
theorem dX4_rejoin_39 : decode cX4_rejoin 39 = .ok (.ifCond .eq 5, 3) := by decide +kernel
theorem dX4_rejoin_42 : decode cX4_rejoin 42 = .ok (.iconst 0, 1) := by decide +kernel
theorem dX4_rejoin_43 : decode cX4_rejoin 43 = .ok (.ireturn, 1) := by decide +kernel
theorem dX4_rejoin_44 : decode cX4_rejoin 44 = .ok (.aload_n 0, 1) := by decide +kernel
theorem dX4_rejoin_45 : decode cX4_rejoin 45 = .ok (.invokevirtual 87, 3) := by decide +kernel
theorem dX4_rejoin_48 : decode cX4_rejoin 48 = .ok (.aload_n 0, 1) := by decide +kernel
theorem dX4_rejoin_49 : decode cX4_rejoin 49 = .ok (.iload_n 1, 1) := by decide +kernel
theorem dX4_rejoin_50 : decode cX4_rejoin 50 = .ok (.bipush 8, 2) := by decide +kernel
theorem dX4_rejoin_52 : decode cX4_rejoin 52 = .ok (.iload_n 2, 1) := by decide +kernel
theorem dX4_rejoin_53 : decode cX4_rejoin 53 = .ok (.iadd, 1) := by decide +kernel
theorem dX4_rejoin_54 : decode cX4_rejoin 54 = .ok (.iconst (-1), 1) := by decide +kernel
theorem dX4_rejoin_55 : decode cX4_rejoin 55 = .ok (.invokevirtual 67, 3) := by decide +kernel
theorem dX4_rejoin_58 : decode cX4_rejoin 58 = .ok (.aload_n 0, 1) := by decide +kernel
theorem dX4_rejoin_59 : decode cX4_rejoin 59 = .ok (.iload_n 1, 1) := by decide +kernel
theorem dX4_rejoin_60 : decode cX4_rejoin 60 = .ok (.iload_n 2, 1) := by decide +kernel
theorem dX4_rejoin_61 : decode cX4_rejoin 61 = .ok (.invokevirtual 77, 3) := by decide +kernel
theorem dX4_rejoin_64 : decode cX4_rejoin 64 = .ok (.aload_n 0, 1) := by decide +kernel
theorem dX4_rejoin_65 : decode cX4_rejoin 65 = .ok (.iload_n 1, 1) := by decide +kernel
theorem dX4_rejoin_66 : decode cX4_rejoin 66 = .ok (.bipush 8, 2) := by decide +kernel
theorem dX4_rejoin_68 : decode cX4_rejoin 68 = .ok (.iload_n 2, 1) := by decide +kernel
theorem dX4_rejoin_69 : decode cX4_rejoin 69 = .ok (.iadd, 1) := by decide +kernel
theorem dX4_rejoin_70 : decode cX4_rejoin 70 = .ok (.invokevirtual 27, 3) := by decide +kernel
theorem dX4_rejoin_73 : decode cX4_rejoin 73 = .ok (.ireturn, 1) := by decide +kernel
theorem dX4_gets_0 : decode cX4_gets 0 = .ok (.iload_n 1, 1) := by decide +kernel
theorem dX4_gets_1 : decode cX4_gets 1 = .ok (.istore 4, 2) := by decide +kernel
theorem dX4_gets_3 : decode cX4_gets 3 = .ok (.iload 4, 2) := by decide +kernel
theorem dX4_gets_5 : decode cX4_gets 5 = .ok (.bipush 100, 2) := by decide +kernel
theorem dX4_gets_7 : decode cX4_gets 7 = .ok (.if_icmp .eq 40, 3) := by decide +kernel
theorem dX4_gets_10 : decode cX4_gets 10 = .ok (.iload 4, 2) := by decide +kernel
theorem dX4_gets_12 : decode cX4_gets 12 = .ok (.iconst (-1), 1) := by decide +kernel
theorem dX4_gets_13 : decode cX4_gets 13 = .ok (.if_icmp .eq 34, 3) := by decide +kernel
theorem dX4_gets_16 : decode cX4_gets 16 = .ok (.aload_n 0, 1) := by decide +kernel
theorem dX4_gets_17 : decode cX4_gets 17 = .ok (.iload 4, 2) := by decide +kernel
theorem dX4_gets_19 : decode cX4_gets 19 = .ok (.iconst 3, 1) := by decide +kernel
theorem dX4_gets_20 : decode cX4_gets 20 = .ok (.invokevirtual 27, 3) := by decide +kernel
theorem dX4_gets_23 : decode cX4_gets 23 = .ok (.ifCond .ne 24, 3) := by decide +kernel
theorem dX4_gets_26 : decode cX4_gets 26 = .ok (.iload 4, 2) := by decide +kernel
theorem dX4_gets_28 : decode cX4_gets 28 = .ok (.iload_n 3, 1) := by decide +kernel
theorem dX4_gets_29 : decode cX4_gets 29 = .ok (.if_icmp .eq 18, 3) := by decide +kernel
theorem dX4_gets_32 : decode cX4_gets 32 = .ok (.aload_n 0, 1) := by decide +kernel
theorem dX4_gets_33 : decode cX4_gets 33 = .ok (.iload 4, 2) := by decide +kernel
theorem dX4_gets_35 : decode cX4_gets 35 = .ok (.bipush 8, 2) := by decide +kernel
theorem dX4_gets_37 : decode cX4_gets 37 = .ok (.iload_n 2, 1) := by decide +kernel
theorem dX4_gets_38 : decode cX4_gets 38 = .ok (.iadd, 1) := by decide +kernel
theorem dX4_gets_39 : decode cX4_gets 39 = .ok (.invokevirtual 27, 3) := by decide +kernel
theorem dX4_gets_42 : decode cX4_gets 42 = .ok (.istore 4, 2) := by decide +kernel
theorem dX4_gets_44 : decode cX4_gets 44 = .ok (.goto (-41), 3) := by decide +kernel
theorem dX4_gets_47 : decode cX4_gets 47 = .ok (.iload 4, 2) := by decide +kernel
theorem dX4_gets_49 : decode cX4_gets 49 = .ok (.bipush 100, 2) := by decide +kernel
theorem dX4_gets_51 : decode cX4_gets 51 = .ok (.if_icmp .ne 7, 3) := by decide +kernel
theorem dX4_gets_54 : decode cX4_gets 54 = .ok (.iconst 1, 1) := by decide +kernel
theorem dX4_gets_55 : decode cX4_gets 55 = .ok (.goto 4, 3) := by decide +kernel
theorem dX4_gets_58 : decode cX4_gets 58 = .ok (.iconst 0, 1) := by decide +kernel
theorem dX4_gets_59 : decode cX4_gets 59 = .ok (.ireturn, 1) := by decide +kernel
theorem dX4_piecesOf_0 : decode cX4_piecesOf 0 = .ok (.iconst 0, 1) := by decide +kernel
theorem dX4_piecesOf_1 : decode cX4_piecesOf 1 = .ok (.istore_n 3, 1) := by decide +kernel
theorem dX4_piecesOf_2 : decode cX4_piecesOf 2 = .ok (.iconst 0, 1) := by decide +kernel
theorem dX4_piecesOf_3 : decode cX4_piecesOf 3 = .ok (.istore 4, 2) := by decide +kernel
theorem dX4_piecesOf_5 : decode cX4_piecesOf 5 = .ok (.iload 4, 2) := by decide +kernel
theorem dX4_piecesOf_7 : decode cX4_piecesOf 7 = .ok (.iconst 4, 1) := by decide +kernel
theorem dX4_piecesOf_8 : decode cX4_piecesOf 8 = .ok (.if_icmp .ge 28, 3) := by decide +kernel
theorem dX4_piecesOf_11 : decode cX4_piecesOf 11 = .ok (.iload_n 3, 1) := by decide +kernel
theorem dX4_piecesOf_12 : decode cX4_piecesOf 12 = .ok (.aload_n 0, 1) := by decide +kernel
theorem dX4_piecesOf_13 : decode cX4_piecesOf 13 = .ok (.iload_n 1, 1) := by decide +kernel
theorem dX4_piecesOf_14 : decode cX4_piecesOf 14 = .ok (.iload 4, 2) := by decide +kernel
theorem dX4_piecesOf_16 : decode cX4_piecesOf 16 = .ok (.iload_n 2, 1) := by decide +kernel
theorem dX4_piecesOf_17 : decode cX4_piecesOf 17 = .ok (.invokevirtual 103, 3) := by decide +kernel
theorem dX4_piecesOf_20 : decode cX4_piecesOf 20 = .ok (.ifCond .eq 7, 3) := by decide +kernel
theorem dX4_piecesOf_23 : decode cX4_piecesOf 23 = .ok (.iconst 1, 1) := by decide +kernel
theorem dX4_piecesOf_24 : decode cX4_piecesOf 24 = .ok (.goto 4, 3) := by decide +kernel
theorem dX4_piecesOf_27 : decode cX4_piecesOf 27 = .ok (.iconst 0, 1) := by decide +kernel
theorem dX4_piecesOf_28 : decode cX4_piecesOf 28 = .ok (.iadd, 1) := by decide +kernel
theorem dX4_piecesOf_29 : decode cX4_piecesOf 29 = .ok (.istore_n 3, 1) := by decide +kernel
theorem dX4_piecesOf_30 : decode cX4_piecesOf 30 = .ok (.iinc 4 1, 3) := by decide +kernel
theorem dX4_piecesOf_33 : decode cX4_piecesOf 33 = .ok (.goto (-28), 3) := by decide +kernel
theorem dX4_piecesOf_36 : decode cX4_piecesOf 36 = .ok (.iload_n 3, 1) := by decide +kernel
theorem dX4_piecesOf_37 : decode cX4_piecesOf 37 = .ok (.ireturn, 1) := by decide +kernel
theorem dX4_sendTo_0 : decode cX4_sendTo 0 = .ok (.aload_n 0, 1) := by decide +kernel
theorem dX4_sendTo_1 : decode cX4_sendTo 1 = .ok (.iload_n 1, 1) := by decide +kernel
theorem dX4_sendTo_2 : decode cX4_sendTo 2 = .ok (.iconst (-1), 1) := by decide +kernel
theorem dX4_sendTo_3 : decode cX4_sendTo 3 = .ok (.invokevirtual 106, 3) := by decide +kernel
theorem dX4_sendTo_6 : decode cX4_sendTo 6 = .ok (.istore_n 2, 1) := by decide +kernel
theorem dX4_sendTo_7 : decode cX4_sendTo 7 = .ok (.iload_n 2, 1) := by decide +kernel
theorem dX4_sendTo_8 : decode cX4_sendTo 8 = .ok (.iconst 3, 1) := by decide +kernel
theorem dX4_sendTo_9 : decode cX4_sendTo 9 = .ok (.if_icmp .lt 7, 3) := by decide +kernel
theorem dX4_sendTo_12 : decode cX4_sendTo 12 = .ok (.iconst 1, 1) := by decide +kernel
theorem dX4_sendTo_13 : decode cX4_sendTo 13 = .ok (.goto 4, 3) := by decide +kernel
theorem dX4_sendTo_16 : decode cX4_sendTo 16 = .ok (.iconst 0, 1) := by decide +kernel
theorem dX4_sendTo_17 : decode cX4_sendTo 17 = .ok (.istore_n 3, 1) := by decide +kernel
theorem dX4_sendTo_18 : decode cX4_sendTo 18 = .ok (.iload_n 3, 1) := by decide +kernel
theorem dX4_sendTo_19 : decode cX4_sendTo 19 = .ok (.ifCond .ne 16, 3) := by decide +kernel
theorem dX4_sendTo_22 : decode cX4_sendTo 22 = .ok (.aload_n 0, 1) := by decide +kernel
theorem dX4_sendTo_23 : decode cX4_sendTo 23 = .ok (.iload_n 1, 1) := by decide +kernel
theorem dX4_sendTo_24 : decode cX4_sendTo 24 = .ok (.iconst 3, 1) := by decide +kernel
theorem dX4_sendTo_25 : decode cX4_sendTo 25 = .ok (.invokevirtual 27, 3) := by decide +kernel
theorem dX4_sendTo_28 : decode cX4_sendTo 28 = .ok (.ifCond .ne 7, 3) := by decide +kernel
theorem dX4_sendTo_31 : decode cX4_sendTo 31 = .ok (.iconst 1, 1) := by decide +kernel
theorem dX4_sendTo_32 : decode cX4_sendTo 32 = .ok (.goto 4, 3) := by decide +kernel
theorem dX4_sendTo_35 : decode cX4_sendTo 35 = .ok (.iconst 0, 1) := by decide +kernel
theorem dX4_sendTo_36 : decode cX4_sendTo 36 = .ok (.istore 4, 2) := by decide +kernel
theorem dX4_sendTo_38 : decode cX4_sendTo 38 = .ok (.aload_n 0, 1) := by decide +kernel
theorem dX4_sendTo_39 : decode cX4_sendTo 39 = .ok (.iload_n 1, 1) := by decide +kernel
theorem dX4_sendTo_40 : decode cX4_sendTo 40 = .ok (.iconst 5, 1) := by decide +kernel
theorem dX4_sendTo_41 : decode cX4_sendTo 41 = .ok (.aload_n 0, 1) := by decide +kernel
theorem dX4_sendTo_42 : decode cX4_sendTo 42 = .ok (.iload_n 1, 1) := by decide +kernel
theorem dX4_sendTo_43 : decode cX4_sendTo 43 = .ok (.iconst 5, 1) := by decide +kernel
theorem dX4_sendTo_44 : decode cX4_sendTo 44 = .ok (.invokevirtual 27, 3) := by decide +kernel
theorem dX4_sendTo_47 : decode cX4_sendTo 47 = .ok (.iload_n 2, 1) := by decide +kernel
theorem dX4_sendTo_48 : decode cX4_sendTo 48 = .ok (.iadd, 1) := by decide +kernel
theorem dX4_sendTo_49 : decode cX4_sendTo 49 = .ok (.invokevirtual 67, 3) := by decide +kernel
theorem dX4_sendTo_52 : decode cX4_sendTo 52 = .ok (.aload_n 0, 1) := by decide +kernel
theorem dX4_sendTo_53 : decode cX4_sendTo 53 = .ok (.iload_n 1, 1) := by decide +kernel
theorem dX4_sendTo_54 : decode cX4_sendTo 54 = .ok (.bipush 6, 2) := by decide +kernel
theorem dX4_sendTo_56 : decode cX4_sendTo 56 = .ok (.aload_n 0, 1) := by decide +kernel
theorem dX4_sendTo_57 : decode cX4_sendTo 57 = .ok (.iload_n 1, 1) := by decide +kernel
theorem dX4_sendTo_58 : decode cX4_sendTo 58 = .ok (.bipush 6, 2) := by decide +kernel
theorem dX4_sendTo_60 : decode cX4_sendTo 60 = .ok (.invokevirtual 27, 3) := by decide +kernel
theorem dX4_sendTo_63 : decode cX4_sendTo 63 = .ok (.iload_n 3, 1) := by decide +kernel
theorem dX4_sendTo_64 : decode cX4_sendTo 64 = .ok (.iadd, 1) := by decide +kernel
theorem dX4_sendTo_65 : decode cX4_sendTo 65 = .ok (.invokevirtual 67, 3) := by decide +kernel
theorem dX4_sendTo_68 : decode cX4_sendTo 68 = .ok (.aload_n 0, 1) := by decide +kernel
theorem dX4_sendTo_69 : decode cX4_sendTo 69 = .ok (.iload_n 1, 1) := by decide +kernel
theorem dX4_sendTo_70 : decode cX4_sendTo 70 = .ok (.bipush 7, 2) := by decide +kernel
theorem dX4_sendTo_72 : decode cX4_sendTo 72 = .ok (.aload_n 0, 1) := by decide +kernel
theorem dX4_sendTo_73 : decode cX4_sendTo 73 = .ok (.iload_n 1, 1) := by decide +kernel
theorem dX4_sendTo_74 : decode cX4_sendTo 74 = .ok (.bipush 7, 2) := by decide +kernel
theorem dX4_sendTo_76 : decode cX4_sendTo 76 = .ok (.invokevirtual 27, 3) := by decide +kernel
theorem dX4_sendTo_79 : decode cX4_sendTo 79 = .ok (.iload 4, 2) := by decide +kernel
theorem dX4_sendTo_81 : decode cX4_sendTo 81 = .ok (.iadd, 1) := by decide +kernel
theorem dX4_sendTo_82 : decode cX4_sendTo 82 = .ok (.invokevirtual 67, 3) := by decide +kernel
theorem dX4_sendTo_85 : decode cX4_sendTo 85 = .ok (.aload_n 0, 1) := by decide +kernel
theorem dX4_sendTo_86 : decode cX4_sendTo 86 = .ok (.getfield 7, 3) := by decide +kernel
theorem dX4_sendTo_89 : decode cX4_sendTo 89 = .ok (.iconst 5, 1) := by decide +kernel
theorem dX4_sendTo_90 : decode cX4_sendTo 90 = .ok (.dup2, 1) := by decide +kernel
theorem dX4_sendTo_91 : decode cX4_sendTo 91 = .ok (.iaload, 1) := by decide +kernel
theorem dX4_sendTo_92 : decode cX4_sendTo 92 = .ok (.iload_n 2, 1) := by decide +kernel
theorem dX4_sendTo_93 : decode cX4_sendTo 93 = .ok (.iadd, 1) := by decide +kernel
theorem dX4_sendTo_94 : decode cX4_sendTo 94 = .ok (.iastore, 1) := by decide +kernel
theorem dX4_sendTo_95 : decode cX4_sendTo 95 = .ok (.aload_n 0, 1) := by decide +kernel
theorem dX4_sendTo_96 : decode cX4_sendTo 96 = .ok (.getfield 7, 3) := by decide +kernel
theorem dX4_sendTo_99 : decode cX4_sendTo 99 = .ok (.bipush 6, 2) := by decide +kernel
theorem dX4_sendTo_101 : decode cX4_sendTo 101 = .ok (.dup2, 1) := by decide +kernel
theorem dX4_sendTo_102 : decode cX4_sendTo 102 = .ok (.iaload, 1) := by decide +kernel
theorem dX4_sendTo_103 : decode cX4_sendTo 103 = .ok (.iload_n 3, 1) := by decide +kernel
theorem dX4_sendTo_104 : decode cX4_sendTo 104 = .ok (.iadd, 1) := by decide +kernel
theorem dX4_sendTo_105 : decode cX4_sendTo 105 = .ok (.iastore, 1) := by decide +kernel
theorem dX4_sendTo_106 : decode cX4_sendTo 106 = .ok (.aload_n 0, 1) := by decide +kernel
theorem dX4_sendTo_107 : decode cX4_sendTo 107 = .ok (.getfield 7, 3) := by decide +kernel
theorem dX4_sendTo_110 : decode cX4_sendTo 110 = .ok (.bipush 7, 2) := by decide +kernel
theorem dX4_sendTo_112 : decode cX4_sendTo 112 = .ok (.dup2, 1) := by decide +kernel
theorem dX4_sendTo_113 : decode cX4_sendTo 113 = .ok (.iaload, 1) := by decide +kernel
theorem dX4_sendTo_114 : decode cX4_sendTo 114 = .ok (.iload 4, 2) := by decide +kernel
theorem dX4_sendTo_116 : decode cX4_sendTo 116 = .ok (.iadd, 1) := by decide +kernel
theorem dX4_sendTo_117 : decode cX4_sendTo 117 = .ok (.iastore, 1) := by decide +kernel
theorem dX4_sendTo_118 : decode cX4_sendTo 118 = .ok (.return_, 1) := by decide +kernel
theorem dX4_tickOne_0 : decode cX4_tickOne 0 = .ok (.aload_n 0, 1) := by decide +kernel
theorem dX4_tickOne_1 : decode cX4_tickOne 1 = .ok (.getfield 7, 3) := by decide +kernel
theorem dX4_tickOne_4 : decode cX4_tickOne 4 = .ok (.iconst 2, 1) := by decide +kernel
theorem dX4_tickOne_5 : decode cX4_tickOne 5 = .ok (.dup2, 1) := by decide +kernel
theorem dX4_tickOne_6 : decode cX4_tickOne 6 = .ok (.iaload, 1) := by decide +kernel
theorem dX4_tickOne_7 : decode cX4_tickOne 7 = .ok (.iconst 1, 1) := by decide +kernel
theorem dX4_tickOne_8 : decode cX4_tickOne 8 = .ok (.iadd, 1) := by decide +kernel
theorem dX4_tickOne_9 : decode cX4_tickOne 9 = .ok (.iastore, 1) := by decide +kernel
theorem dX4_tickOne_10 : decode cX4_tickOne 10 = .ok (.iconst 0, 1) := by decide +kernel
theorem dX4_tickOne_11 : decode cX4_tickOne 11 = .ok (.istore_n 1, 1) := by decide +kernel
theorem dX4_tickOne_12 : decode cX4_tickOne 12 = .ok (.iload_n 1, 1) := by decide +kernel
theorem dX4_tickOne_13 : decode cX4_tickOne 13 = .ok (.bipush 32, 2) := by decide +kernel
theorem dX4_tickOne_15 : decode cX4_tickOne 15 = .ok (.if_icmp .ge 58, 3) := by decide +kernel
theorem dX4_tickOne_18 : decode cX4_tickOne 18 = .ok (.aload_n 0, 1) := by decide +kernel
theorem dX4_tickOne_19 : decode cX4_tickOne 19 = .ok (.iload_n 1, 1) := by decide +kernel
theorem dX4_tickOne_20 : decode cX4_tickOne 20 = .ok (.invokevirtual 31, 3) := by decide +kernel
theorem dX4_tickOne_23 : decode cX4_tickOne 23 = .ok (.ifCond .eq 44, 3) := by decide +kernel
theorem dX4_tickOne_26 : decode cX4_tickOne 26 = .ok (.aload_n 0, 1) := by decide +kernel
theorem dX4_tickOne_27 : decode cX4_tickOne 27 = .ok (.iload_n 1, 1) := by decide +kernel
theorem dX4_tickOne_28 : decode cX4_tickOne 28 = .ok (.iconst 3, 1) := by decide +kernel
theorem dX4_tickOne_29 : decode cX4_tickOne 29 = .ok (.invokevirtual 27, 3) := by decide +kernel
theorem dX4_tickOne_32 : decode cX4_tickOne 32 = .ok (.iconst 1, 1) := by decide +kernel
theorem dX4_tickOne_33 : decode cX4_tickOne 33 = .ok (.if_icmp .ne 34, 3) := by decide +kernel
theorem dX4_tickOne_36 : decode cX4_tickOne 36 = .ok (.aload_n 0, 1) := by decide +kernel
theorem dX4_tickOne_37 : decode cX4_tickOne 37 = .ok (.iload_n 1, 1) := by decide +kernel
theorem dX4_tickOne_38 : decode cX4_tickOne 38 = .ok (.iconst 4, 1) := by decide +kernel
theorem dX4_tickOne_39 : decode cX4_tickOne 39 = .ok (.invokevirtual 27, 3) := by decide +kernel
theorem dX4_tickOne_42 : decode cX4_tickOne 42 = .ok (.aload_n 0, 1) := by decide +kernel
theorem dX4_tickOne_43 : decode cX4_tickOne 43 = .ok (.getfield 7, 3) := by decide +kernel
theorem dX4_tickOne_46 : decode cX4_tickOne 46 = .ok (.iconst 2, 1) := by decide +kernel
theorem dX4_tickOne_47 : decode cX4_tickOne 47 = .ok (.iaload, 1) := by decide +kernel
theorem dX4_tickOne_48 : decode cX4_tickOne 48 = .ok (.if_icmp .ne 19, 3) := by decide +kernel
theorem dX4_tickOne_51 : decode cX4_tickOne 51 = .ok (.aload_n 0, 1) := by decide +kernel
theorem dX4_tickOne_52 : decode cX4_tickOne 52 = .ok (.getfield 7, 3) := by decide +kernel
theorem dX4_tickOne_55 : decode cX4_tickOne 55 = .ok (.bipush 8, 2) := by decide +kernel
theorem dX4_tickOne_57 : decode cX4_tickOne 57 = .ok (.dup2, 1) := by decide +kernel
theorem dX4_tickOne_58 : decode cX4_tickOne 58 = .ok (.iaload, 1) := by decide +kernel
theorem dX4_tickOne_59 : decode cX4_tickOne 59 = .ok (.iconst 1, 1) := by decide +kernel
theorem dX4_tickOne_60 : decode cX4_tickOne 60 = .ok (.iadd, 1) := by decide +kernel
theorem dX4_tickOne_61 : decode cX4_tickOne 61 = .ok (.iastore, 1) := by decide +kernel
theorem dX4_tickOne_62 : decode cX4_tickOne 62 = .ok (.aload_n 0, 1) := by decide +kernel
theorem dX4_tickOne_63 : decode cX4_tickOne 63 = .ok (.iload_n 1, 1) := by decide +kernel
theorem dX4_tickOne_64 : decode cX4_tickOne 64 = .ok (.invokevirtual 93, 3) := by decide +kernel
theorem dX4_tickOne_67 : decode cX4_tickOne 67 = .ok (.iinc 1 1, 3) := by decide +kernel
theorem dX4_tickOne_70 : decode cX4_tickOne 70 = .ok (.goto (-58), 3) := by decide +kernel
theorem dX4_tickOne_73 : decode cX4_tickOne 73 = .ok (.aload_n 0, 1) := by decide +kernel
theorem dX4_tickOne_74 : decode cX4_tickOne 74 = .ok (.getfield 7, 3) := by decide +kernel
theorem dX4_tickOne_77 : decode cX4_tickOne 77 = .ok (.iconst 4, 1) := by decide +kernel
theorem dX4_tickOne_78 : decode cX4_tickOne 78 = .ok (.dup2, 1) := by decide +kernel
theorem dX4_tickOne_79 : decode cX4_tickOne 79 = .ok (.iaload, 1) := by decide +kernel
theorem dX4_tickOne_80 : decode cX4_tickOne 80 = .ok (.iconst 1, 1) := by decide +kernel
theorem dX4_tickOne_81 : decode cX4_tickOne 81 = .ok (.iadd, 1) := by decide +kernel
theorem dX4_tickOne_82 : decode cX4_tickOne 82 = .ok (.iastore, 1) := by decide +kernel
theorem dX4_tickOne_83 : decode cX4_tickOne 83 = .ok (.iconst 0, 1) := by decide +kernel
theorem dX4_tickOne_84 : decode cX4_tickOne 84 = .ok (.istore_n 1, 1) := by decide +kernel
theorem dX4_tickOne_85 : decode cX4_tickOne 85 = .ok (.iload_n 1, 1) := by decide +kernel
theorem dX4_tickOne_86 : decode cX4_tickOne 86 = .ok (.bipush 32, 2) := by decide +kernel
theorem dX4_tickOne_88 : decode cX4_tickOne 88 = .ok (.if_icmp .ge 22, 3) := by decide +kernel
theorem dX4_tickOne_91 : decode cX4_tickOne 91 = .ok (.aload_n 0, 1) := by decide +kernel
theorem dX4_tickOne_92 : decode cX4_tickOne 92 = .ok (.iload_n 1, 1) := by decide +kernel
theorem dX4_tickOne_93 : decode cX4_tickOne 93 = .ok (.invokevirtual 31, 3) := by decide +kernel
theorem dX4_tickOne_96 : decode cX4_tickOne 96 = .ok (.ifCond .eq 8, 3) := by decide +kernel
theorem dX4_tickOne_99 : decode cX4_tickOne 99 = .ok (.aload_n 0, 1) := by decide +kernel
theorem dX4_tickOne_100 : decode cX4_tickOne 100 = .ok (.iload_n 1, 1) := by decide +kernel
theorem dX4_tickOne_101 : decode cX4_tickOne 101 = .ok (.invokevirtual 109, 3) := by decide +kernel
theorem dX4_tickOne_104 : decode cX4_tickOne 104 = .ok (.iinc 1 1, 3) := by decide +kernel
theorem dX4_tickOne_107 : decode cX4_tickOne 107 = .ok (.goto (-22), 3) := by decide +kernel
theorem dX4_tickOne_110 : decode cX4_tickOne 110 = .ok (.return_, 1) := by decide +kernel
theorem dX4_tick_0 : decode cX4_tick 0 = .ok (.aload_n 0, 1) := by decide +kernel
theorem dX4_tick_1 : decode cX4_tick 1 = .ok (.iload_n 1, 1) := by decide +kernel
theorem dX4_tick_2 : decode cX4_tick 2 = .ok (.iconst 1, 1) := by decide +kernel
theorem dX4_tick_3 : decode cX4_tick 3 = .ok (.sipush 200, 3) := by decide +kernel
theorem dX4_tick_6 : decode cX4_tick 6 = .ok (.invokestatic 23, 3) := by decide +kernel
theorem dX4_tick_9 : decode cX4_tick 9 = .ok (.ifCond .eq 7, 3) := by decide +kernel
theorem dX4_tick_12 : decode cX4_tick 12 = .ok (.iconst 0, 1) := by decide +kernel
theorem dX4_tick_13 : decode cX4_tick 13 = .ok (.goto 4, 3) := by decide +kernel
theorem dX4_tick_16 : decode cX4_tick 16 = .ok (.iconst 1, 1) := by decide +kernel
theorem dX4_tick_17 : decode cX4_tick 17 = .ok (.putfield 16, 3) := by decide +kernel
theorem dX4_tick_20 : decode cX4_tick 20 = .ok (.aload_n 0, 1) := by decide +kernel
theorem dX4_tick_21 : decode cX4_tick 21 = .ok (.getfield 16, 3) := by decide +kernel
theorem dX4_tick_24 : decode cX4_tick 24 = .ok (.ifCond .eq 5, 3) := by decide +kernel
theorem dX4_tick_27 : decode cX4_tick 27 = .ok (.iconst 0, 1) := by decide +kernel
theorem dX4_tick_28 : decode cX4_tick 28 = .ok (.ireturn, 1) := by decide +kernel
theorem dX4_tick_29 : decode cX4_tick 29 = .ok (.aload_n 0, 1) := by decide +kernel
theorem dX4_tick_30 : decode cX4_tick 30 = .ok (.invokevirtual 87, 3) := by decide +kernel
theorem dX4_tick_33 : decode cX4_tick 33 = .ok (.aload_n 0, 1) := by decide +kernel
theorem dX4_tick_34 : decode cX4_tick 34 = .ok (.getfield 7, 3) := by decide +kernel
theorem dX4_tick_37 : decode cX4_tick 37 = .ok (.bipush 7, 2) := by decide +kernel
theorem dX4_tick_39 : decode cX4_tick 39 = .ok (.iaload, 1) := by decide +kernel
theorem dX4_tick_40 : decode cX4_tick 40 = .ok (.istore_n 2, 1) := by decide +kernel
theorem dX4_tick_41 : decode cX4_tick 41 = .ok (.iconst 0, 1) := by decide +kernel
theorem dX4_tick_42 : decode cX4_tick 42 = .ok (.istore_n 3, 1) := by decide +kernel
theorem dX4_tick_43 : decode cX4_tick 43 = .ok (.iload_n 3, 1) := by decide +kernel
theorem dX4_tick_44 : decode cX4_tick 44 = .ok (.iload_n 1, 1) := by decide +kernel
theorem dX4_tick_45 : decode cX4_tick 45 = .ok (.if_icmp .ge 13, 3) := by decide +kernel
theorem dX4_tick_48 : decode cX4_tick 48 = .ok (.aload_n 0, 1) := by decide +kernel
theorem dX4_tick_49 : decode cX4_tick 49 = .ok (.invokevirtual 112, 3) := by decide +kernel
theorem dX4_tick_52 : decode cX4_tick 52 = .ok (.iinc 3 1, 3) := by decide +kernel
theorem dX4_tick_55 : decode cX4_tick 55 = .ok (.goto (-12), 3) := by decide +kernel
theorem dX4_tick_58 : decode cX4_tick 58 = .ok (.aload_n 0, 1) := by decide +kernel
theorem dX4_tick_59 : decode cX4_tick 59 = .ok (.getfield 7, 3) := by decide +kernel
theorem dX4_tick_62 : decode cX4_tick 62 = .ok (.bipush 7, 2) := by decide +kernel
theorem dX4_tick_64 : decode cX4_tick 64 = .ok (.iaload, 1) := by decide +kernel
theorem dX4_tick_65 : decode cX4_tick 65 = .ok (.iload_n 2, 1) := by decide +kernel
theorem dX4_tick_66 : decode cX4_tick 66 = .ok (.isub, 1) := by decide +kernel
theorem dX4_tick_67 : decode cX4_tick 67 = .ok (.ireturn, 1) := by decide +kernel
theorem dX4_time_0 : decode cX4_time 0 = .ok (.aload_n 0, 1) := by decide +kernel
theorem dX4_time_1 : decode cX4_time 1 = .ok (.iconst 0, 1) := by decide +kernel
theorem dX4_time_2 : decode cX4_time 2 = .ok (.putfield 16, 3) := by decide +kernel
theorem dX4_time_5 : decode cX4_time 5 = .ok (.aload_n 0, 1) := by decide +kernel
theorem dX4_time_6 : decode cX4_time 6 = .ok (.getfield 7, 3) := by decide +kernel
theorem dX4_time_9 : decode cX4_time 9 = .ok (.iconst 2, 1) := by decide +kernel
theorem dX4_time_10 : decode cX4_time 10 = .ok (.iaload, 1) := by decide +kernel
theorem dX4_time_11 : decode cX4_time 11 = .ok (.ireturn, 1) := by decide +kernel
theorem dX4_innerStripe_0 : decode cX4_innerStripe 0 = .ok (.iconst (-1), 1) := by decide +kernel
theorem dX4_innerStripe_1 : decode cX4_innerStripe 1 = .ok (.istore_n 2, 1) := by decide +kernel
theorem dX4_innerStripe_2 : decode cX4_innerStripe 2 = .ok (.iconst 0, 1) := by decide +kernel
theorem dX4_innerStripe_3 : decode cX4_innerStripe 3 = .ok (.istore_n 3, 1) := by decide +kernel
theorem dX4_innerStripe_4 : decode cX4_innerStripe 4 = .ok (.iload_n 3, 1) := by decide +kernel
theorem dX4_innerStripe_5 : decode cX4_innerStripe 5 = .ok (.iconst 4, 1) := by decide +kernel
theorem dX4_innerStripe_6 : decode cX4_innerStripe 6 = .ok (.if_icmp .ge 24, 3) := by decide +kernel
theorem dX4_innerStripe_9 : decode cX4_innerStripe 9 = .ok (.aload_n 0, 1) := by decide +kernel
theorem dX4_innerStripe_10 : decode cX4_innerStripe 10 = .ok (.iload_n 1, 1) := by decide +kernel
theorem dX4_innerStripe_11 : decode cX4_innerStripe 11 = .ok (.iload_n 3, 1) := by decide +kernel
theorem dX4_innerStripe_12 : decode cX4_innerStripe 12 = .ok (.invokevirtual 38, 3) := by decide +kernel
theorem dX4_innerStripe_15 : decode cX4_innerStripe 15 = .ok (.ifCond .le 7, 3) := by decide +kernel
theorem dX4_innerStripe_18 : decode cX4_innerStripe 18 = .ok (.iload_n 3, 1) := by decide +kernel
theorem dX4_innerStripe_19 : decode cX4_innerStripe 19 = .ok (.goto 4, 3) := by decide +kernel
theorem dX4_innerStripe_22 : decode cX4_innerStripe 22 = .ok (.iload_n 2, 1) := by decide +kernel
theorem dX4_innerStripe_23 : decode cX4_innerStripe 23 = .ok (.istore_n 2, 1) := by decide +kernel
theorem dX4_innerStripe_24 : decode cX4_innerStripe 24 = .ok (.iinc 3 1, 3) := by decide +kernel
theorem dX4_innerStripe_27 : decode cX4_innerStripe 27 = .ok (.goto (-23), 3) := by decide +kernel
theorem dX4_innerStripe_30 : decode cX4_innerStripe 30 = .ok (.iload_n 2, 1) := by decide +kernel
theorem dX4_innerStripe_31 : decode cX4_innerStripe 31 = .ok (.ireturn, 1) := by decide +kernel
theorem dX4_memberOf_0 : decode cX4_memberOf 0 = .ok (.aload_n 0, 1) := by decide +kernel
theorem dX4_memberOf_1 : decode cX4_memberOf 1 = .ok (.iload_n 1, 1) := by decide +kernel
theorem dX4_memberOf_2 : decode cX4_memberOf 2 = .ok (.invokevirtual 31, 3) := by decide +kernel
theorem dX4_memberOf_5 : decode cX4_memberOf 5 = .ok (.ifCond .ne 5, 3) := by decide +kernel
theorem dX4_memberOf_8 : decode cX4_memberOf 8 = .ok (.iconst 0, 1) := by decide +kernel
theorem dX4_memberOf_9 : decode cX4_memberOf 9 = .ok (.ireturn, 1) := by decide +kernel
theorem dX4_memberOf_10 : decode cX4_memberOf 10 = .ok (.iload_n 2, 1) := by decide +kernel
theorem dX4_memberOf_11 : decode cX4_memberOf 11 = .ok (.tableswitch 58 4 6 #[25, 46, 52], 25) := by decide +kernel
theorem dX4_memberOf_36 : decode cX4_memberOf 36 = .ok (.aload_n 0, 1) := by decide +kernel
theorem dX4_memberOf_37 : decode cX4_memberOf 37 = .ok (.iload_n 1, 1) := by decide +kernel
theorem dX4_memberOf_38 : decode cX4_memberOf 38 = .ok (.iconst 3, 1) := by decide +kernel
theorem dX4_memberOf_39 : decode cX4_memberOf 39 = .ok (.invokevirtual 27, 3) := by decide +kernel
theorem dX4_memberOf_42 : decode cX4_memberOf 42 = .ok (.iconst 1, 1) := by decide +kernel
theorem dX4_memberOf_43 : decode cX4_memberOf 43 = .ok (.if_icmp .ne 12, 3) := by decide +kernel
theorem dX4_memberOf_46 : decode cX4_memberOf 46 = .ok (.aload_n 0, 1) := by decide +kernel
theorem dX4_memberOf_47 : decode cX4_memberOf 47 = .ok (.iload_n 1, 1) := by decide +kernel
theorem dX4_memberOf_48 : decode cX4_memberOf 48 = .ok (.iconst 4, 1) := by decide +kernel
theorem dX4_memberOf_49 : decode cX4_memberOf 49 = .ok (.invokevirtual 27, 3) := by decide +kernel
theorem dX4_memberOf_52 : decode cX4_memberOf 52 = .ok (.goto 4, 3) := by decide +kernel
theorem dX4_memberOf_55 : decode cX4_memberOf 55 = .ok (.iconst (-1), 1) := by decide +kernel
theorem dX4_memberOf_56 : decode cX4_memberOf 56 = .ok (.ireturn, 1) := by decide +kernel
theorem dX4_memberOf_57 : decode cX4_memberOf 57 = .ok (.aload_n 0, 1) := by decide +kernel
theorem dX4_memberOf_58 : decode cX4_memberOf 58 = .ok (.iload_n 1, 1) := by decide +kernel
theorem dX4_memberOf_59 : decode cX4_memberOf 59 = .ok (.invokevirtual 41, 3) := by decide +kernel
theorem dX4_memberOf_62 : decode cX4_memberOf 62 = .ok (.ireturn, 1) := by decide +kernel
theorem dX4_memberOf_63 : decode cX4_memberOf 63 = .ok (.aload_n 0, 1) := by decide +kernel
theorem dX4_memberOf_64 : decode cX4_memberOf 64 = .ok (.iload_n 1, 1) := by decide +kernel
theorem dX4_memberOf_65 : decode cX4_memberOf 65 = .ok (.invokevirtual 115, 3) := by decide +kernel
theorem dX4_memberOf_68 : decode cX4_memberOf 68 = .ok (.ireturn, 1) := by decide +kernel
theorem dX4_memberOf_69 : decode cX4_memberOf 69 = .ok (.aload_n 0, 1) := by decide +kernel
theorem dX4_memberOf_70 : decode cX4_memberOf 70 = .ok (.iload_n 1, 1) := by decide +kernel
theorem dX4_memberOf_71 : decode cX4_memberOf 71 = .ok (.iload_n 2, 1) := by decide +kernel
theorem dX4_memberOf_72 : decode cX4_memberOf 72 = .ok (.iconst 4, 1) := by decide +kernel
theorem dX4_memberOf_73 : decode cX4_memberOf 73 = .ok (.if_icmp .ge 7, 3) := by decide +kernel
theorem dX4_memberOf_76 : decode cX4_memberOf 76 = .ok (.iload_n 2, 1) := by decide +kernel
theorem dX4_memberOf_77 : decode cX4_memberOf 77 = .ok (.goto 9, 3) := by decide +kernel
theorem dX4_memberOf_80 : decode cX4_memberOf 80 = .ok (.iconst 5, 1) := by decide +kernel
theorem dX4_memberOf_81 : decode cX4_memberOf 81 = .ok (.iload_n 2, 1) := by decide +kernel
theorem dX4_memberOf_82 : decode cX4_memberOf 82 = .ok (.iadd, 1) := by decide +kernel
theorem dX4_memberOf_83 : decode cX4_memberOf 83 = .ok (.bipush 7, 2) := by decide +kernel
theorem dX4_memberOf_85 : decode cX4_memberOf 85 = .ok (.isub, 1) := by decide +kernel
theorem dX4_memberOf_86 : decode cX4_memberOf 86 = .ok (.invokevirtual 27, 3) := by decide +kernel
theorem dX4_memberOf_89 : decode cX4_memberOf 89 = .ok (.ireturn, 1) := by decide +kernel
theorem dX4_member_0 : decode cX4_member 0 = .ok (.aload_n 0, 1) := by decide +kernel
theorem dX4_member_1 : decode cX4_member 1 = .ok (.iload_n 1, 1) := by decide +kernel
theorem dX4_member_2 : decode cX4_member 2 = .ok (.invokestatic 81, 3) := by decide +kernel
theorem dX4_member_5 : decode cX4_member 5 = .ok (.ifCond .ne 7, 3) := by decide +kernel
theorem dX4_member_8 : decode cX4_member 8 = .ok (.iconst 1, 1) := by decide +kernel
theorem dX4_member_9 : decode cX4_member 9 = .ok (.goto 18, 3) := by decide +kernel
theorem dX4_member_12 : decode cX4_member 12 = .ok (.iload_n 2, 1) := by decide +kernel
theorem dX4_member_13 : decode cX4_member 13 = .ok (.iconst 0, 1) := by decide +kernel
theorem dX4_member_14 : decode cX4_member 14 = .ok (.bipush 9, 2) := by decide +kernel
theorem dX4_member_16 : decode cX4_member 16 = .ok (.invokestatic 23, 3) := by decide +kernel
theorem dX4_member_19 : decode cX4_member 19 = .ok (.ifCond .ne 7, 3) := by decide +kernel
theorem dX4_member_22 : decode cX4_member 22 = .ok (.iconst 2, 1) := by decide +kernel
theorem dX4_member_23 : decode cX4_member 23 = .ok (.goto 4, 3) := by decide +kernel
theorem dX4_member_26 : decode cX4_member 26 = .ok (.iconst 0, 1) := by decide +kernel
theorem dX4_member_27 : decode cX4_member 27 = .ok (.putfield 16, 3) := by decide +kernel
theorem dX4_member_30 : decode cX4_member 30 = .ok (.aload_n 0, 1) := by decide +kernel
theorem dX4_member_31 : decode cX4_member 31 = .ok (.getfield 16, 3) := by decide +kernel
theorem dX4_member_34 : decode cX4_member 34 = .ok (.ifCond .eq 7, 3) := by decide +kernel
theorem dX4_member_37 : decode cX4_member 37 = .ok (.iconst 0, 1) := by decide +kernel
theorem dX4_member_38 : decode cX4_member 38 = .ok (.goto 9, 3) := by decide +kernel
theorem dX4_member_41 : decode cX4_member 41 = .ok (.aload_n 0, 1) := by decide +kernel
theorem dX4_member_42 : decode cX4_member 42 = .ok (.iload_n 1, 1) := by decide +kernel
theorem dX4_member_43 : decode cX4_member 43 = .ok (.iload_n 2, 1) := by decide +kernel
theorem dX4_member_44 : decode cX4_member 44 = .ok (.invokevirtual 118, 3) := by decide +kernel
theorem dX4_member_47 : decode cX4_member 47 = .ok (.ireturn, 1) := by decide +kernel
theorem dX4_misses_0 : decode cX4_misses 0 = .ok (.iload_n 0, 1) := by decide +kernel
theorem dX4_misses_1 : decode cX4_misses 1 = .ok (.ifCond .ne 7, 3) := by decide +kernel
theorem dX4_misses_4 : decode cX4_misses 4 = .ok (.iconst 1, 1) := by decide +kernel
theorem dX4_misses_5 : decode cX4_misses 5 = .ok (.goto 12, 3) := by decide +kernel
theorem dX4_misses_8 : decode cX4_misses 8 = .ok (.iload_n 1, 1) := by decide +kernel
theorem dX4_misses_9 : decode cX4_misses 9 = .ok (.ifCond .eq 7, 3) := by decide +kernel
theorem dX4_misses_12 : decode cX4_misses 12 = .ok (.iconst 0, 1) := by decide +kernel
theorem dX4_misses_13 : decode cX4_misses 13 = .ok (.goto 4, 3) := by decide +kernel
theorem dX4_misses_16 : decode cX4_misses 16 = .ok (.iconst 2, 1) := by decide +kernel
theorem dX4_misses_17 : decode cX4_misses 17 = .ok (.ireturn, 1) := by decide +kernel
theorem dX4_parent_0 : decode cX4_parent 0 = .ok (.iload_n 1, 1) := by decide +kernel
theorem dX4_parent_1 : decode cX4_parent 1 = .ok (.invokestatic 81, 3) := by decide +kernel
theorem dX4_parent_4 : decode cX4_parent 4 = .ok (.ifCond .eq 14, 3) := by decide +kernel
theorem dX4_parent_7 : decode cX4_parent 7 = .ok (.iload_n 2, 1) := by decide +kernel
theorem dX4_parent_8 : decode cX4_parent 8 = .ok (.invokestatic 84, 3) := by decide +kernel
theorem dX4_parent_11 : decode cX4_parent 11 = .ok (.ifCond .eq 7, 3) := by decide +kernel
theorem dX4_parent_14 : decode cX4_parent 14 = .ok (.iconst 1, 1) := by decide +kernel
theorem dX4_parent_15 : decode cX4_parent 15 = .ok (.goto 4, 3) := by decide +kernel
theorem dX4_parent_18 : decode cX4_parent 18 = .ok (.iconst 0, 1) := by decide +kernel
theorem dX4_parent_19 : decode cX4_parent 19 = .ok (.istore_n 3, 1) := by decide +kernel
theorem dX4_parent_20 : decode cX4_parent 20 = .ok (.aload_n 0, 1) := by decide +kernel
theorem dX4_parent_21 : decode cX4_parent 21 = .ok (.iload_n 3, 1) := by decide +kernel
theorem dX4_parent_22 : decode cX4_parent 22 = .ok (.iload_n 3, 1) := by decide +kernel
theorem dX4_parent_23 : decode cX4_parent 23 = .ok (.ifCond .eq 15, 3) := by decide +kernel
theorem dX4_parent_26 : decode cX4_parent 26 = .ok (.aload_n 0, 1) := by decide +kernel
theorem dX4_parent_27 : decode cX4_parent 27 = .ok (.iload_n 1, 1) := by decide +kernel
theorem dX4_parent_28 : decode cX4_parent 28 = .ok (.invokevirtual 31, 3) := by decide +kernel
theorem dX4_parent_31 : decode cX4_parent 31 = .ok (.ifCond .eq 7, 3) := by decide +kernel
theorem dX4_parent_34 : decode cX4_parent 34 = .ok (.iconst 1, 1) := by decide +kernel
theorem dX4_parent_35 : decode cX4_parent 35 = .ok (.goto 4, 3) := by decide +kernel
theorem dX4_parent_38 : decode cX4_parent 38 = .ok (.iconst 0, 1) := by decide +kernel
theorem dX4_parent_39 : decode cX4_parent 39 = .ok (.invokestatic 121, 3) := by decide +kernel
theorem dX4_parent_42 : decode cX4_parent 42 = .ok (.putfield 16, 3) := by decide +kernel
theorem dX4_parent_45 : decode cX4_parent 45 = .ok (.aload_n 0, 1) := by decide +kernel
theorem dX4_parent_46 : decode cX4_parent 46 = .ok (.getfield 16, 3) := by decide +kernel
theorem dX4_parent_49 : decode cX4_parent 49 = .ok (.ifCond .eq 7, 3) := by decide +kernel
theorem dX4_parent_52 : decode cX4_parent 52 = .ok (.iconst 0, 1) := by decide +kernel
theorem dX4_parent_53 : decode cX4_parent 53 = .ok (.goto 12, 3) := by decide +kernel
theorem dX4_parent_56 : decode cX4_parent 56 = .ok (.aload_n 0, 1) := by decide +kernel
theorem dX4_parent_57 : decode cX4_parent 57 = .ok (.iload_n 1, 1) := by decide +kernel
theorem dX4_parent_58 : decode cX4_parent 58 = .ok (.bipush 8, 2) := by decide +kernel
theorem dX4_parent_60 : decode cX4_parent 60 = .ok (.iload_n 2, 1) := by decide +kernel
theorem dX4_parent_61 : decode cX4_parent 61 = .ok (.iadd, 1) := by decide +kernel
theorem dX4_parent_62 : decode cX4_parent 62 = .ok (.invokevirtual 27, 3) := by decide +kernel
theorem dX4_parent_65 : decode cX4_parent 65 = .ok (.ireturn, 1) := by decide +kernel
theorem dX4_depth_0 : decode cX4_depth 0 = .ok (.iload_n 1, 1) := by decide +kernel
theorem dX4_depth_1 : decode cX4_depth 1 = .ok (.invokestatic 81, 3) := by decide +kernel
theorem dX4_depth_4 : decode cX4_depth 4 = .ok (.ifCond .eq 14, 3) := by decide +kernel
theorem dX4_depth_7 : decode cX4_depth 7 = .ok (.iload_n 2, 1) := by decide +kernel
theorem dX4_depth_8 : decode cX4_depth 8 = .ok (.invokestatic 84, 3) := by decide +kernel
theorem dX4_depth_11 : decode cX4_depth 11 = .ok (.ifCond .eq 7, 3) := by decide +kernel
theorem dX4_depth_14 : decode cX4_depth 14 = .ok (.iconst 1, 1) := by decide +kernel
theorem dX4_depth_15 : decode cX4_depth 15 = .ok (.goto 4, 3) := by decide +kernel
theorem dX4_depth_18 : decode cX4_depth 18 = .ok (.iconst 0, 1) := by decide +kernel
theorem dX4_depth_19 : decode cX4_depth 19 = .ok (.istore_n 3, 1) := by decide +kernel
theorem dX4_depth_20 : decode cX4_depth 20 = .ok (.aload_n 0, 1) := by decide +kernel
theorem dX4_depth_21 : decode cX4_depth 21 = .ok (.iload_n 3, 1) := by decide +kernel
theorem dX4_depth_22 : decode cX4_depth 22 = .ok (.iload_n 3, 1) := by decide +kernel
theorem dX4_depth_23 : decode cX4_depth 23 = .ok (.ifCond .eq 15, 3) := by decide +kernel
theorem dX4_depth_26 : decode cX4_depth 26 = .ok (.aload_n 0, 1) := by decide +kernel
theorem dX4_depth_27 : decode cX4_depth 27 = .ok (.iload_n 1, 1) := by decide +kernel
theorem dX4_depth_28 : decode cX4_depth 28 = .ok (.invokevirtual 31, 3) := by decide +kernel
theorem dX4_depth_31 : decode cX4_depth 31 = .ok (.ifCond .eq 7, 3) := by decide +kernel
theorem dX4_depth_34 : decode cX4_depth 34 = .ok (.iconst 1, 1) := by decide +kernel
theorem dX4_depth_35 : decode cX4_depth 35 = .ok (.goto 4, 3) := by decide +kernel
theorem dX4_depth_38 : decode cX4_depth 38 = .ok (.iconst 0, 1) := by decide +kernel
theorem dX4_depth_39 : decode cX4_depth 39 = .ok (.invokestatic 121, 3) := by decide +kernel
theorem dX4_depth_42 : decode cX4_depth 42 = .ok (.putfield 16, 3) := by decide +kernel
theorem dX4_depth_45 : decode cX4_depth 45 = .ok (.aload_n 0, 1) := by decide +kernel
theorem dX4_depth_46 : decode cX4_depth 46 = .ok (.getfield 16, 3) := by decide +kernel
theorem dX4_depth_49 : decode cX4_depth 49 = .ok (.ifCond .eq 7, 3) := by decide +kernel
theorem dX4_depth_52 : decode cX4_depth 52 = .ok (.iconst 0, 1) := by decide +kernel
theorem dX4_depth_53 : decode cX4_depth 53 = .ok (.goto 9, 3) := by decide +kernel
theorem dX4_depth_56 : decode cX4_depth 56 = .ok (.aload_n 0, 1) := by decide +kernel
theorem dX4_depth_57 : decode cX4_depth 57 = .ok (.iload_n 1, 1) := by decide +kernel
theorem dX4_depth_58 : decode cX4_depth 58 = .ok (.iload_n 2, 1) := by decide +kernel
theorem dX4_depth_59 : decode cX4_depth 59 = .ok (.invokevirtual 49, 3) := by decide +kernel
theorem dX4_depth_62 : decode cX4_depth 62 = .ok (.ireturn, 1) := by decide +kernel
theorem dX4_child_0 : decode cX4_child 0 = .ok (.iload_n 1, 1) := by decide +kernel
theorem dX4_child_1 : decode cX4_child 1 = .ok (.bipush 100, 2) := by decide +kernel
theorem dX4_child_3 : decode cX4_child 3 = .ok (.if_icmp .eq 10, 3) := by decide +kernel
theorem dX4_child_6 : decode cX4_child 6 = .ok (.iload_n 1, 1) := by decide +kernel
theorem dX4_child_7 : decode cX4_child 7 = .ok (.invokestatic 81, 3) := by decide +kernel
theorem dX4_child_10 : decode cX4_child 10 = .ok (.ifCond .eq 14, 3) := by decide +kernel
theorem dX4_child_13 : decode cX4_child 13 = .ok (.iload_n 2, 1) := by decide +kernel
theorem dX4_child_14 : decode cX4_child 14 = .ok (.invokestatic 84, 3) := by decide +kernel
theorem dX4_child_17 : decode cX4_child 17 = .ok (.ifCond .eq 7, 3) := by decide +kernel
theorem dX4_child_20 : decode cX4_child 20 = .ok (.iconst 1, 1) := by decide +kernel
theorem dX4_child_21 : decode cX4_child 21 = .ok (.goto 4, 3) := by decide +kernel
theorem dX4_child_24 : decode cX4_child 24 = .ok (.iconst 0, 1) := by decide +kernel
theorem dX4_child_25 : decode cX4_child 25 = .ok (.istore 4, 2) := by decide +kernel
theorem dX4_child_27 : decode cX4_child 27 = .ok (.aload_n 0, 1) := by decide +kernel
theorem dX4_child_28 : decode cX4_child 28 = .ok (.iload 4, 2) := by decide +kernel
theorem dX4_child_30 : decode cX4_child 30 = .ok (.ifCond .ne 7, 3) := by decide +kernel
theorem dX4_child_33 : decode cX4_child 33 = .ok (.iconst 1, 1) := by decide +kernel
theorem dX4_child_34 : decode cX4_child 34 = .ok (.goto 30, 3) := by decide +kernel
theorem dX4_child_37 : decode cX4_child 37 = .ok (.iload_n 3, 1) := by decide +kernel
theorem dX4_child_38 : decode cX4_child 38 = .ok (.ifCond .ge 7, 3) := by decide +kernel
theorem dX4_child_41 : decode cX4_child 41 = .ok (.iconst 2, 1) := by decide +kernel
theorem dX4_child_42 : decode cX4_child 42 = .ok (.goto 22, 3) := by decide +kernel
theorem dX4_child_45 : decode cX4_child 45 = .ok (.iload_n 1, 1) := by decide +kernel
theorem dX4_child_46 : decode cX4_child 46 = .ok (.bipush 100, 2) := by decide +kernel
theorem dX4_child_48 : decode cX4_child 48 = .ok (.if_icmp .eq 11, 3) := by decide +kernel
theorem dX4_child_51 : decode cX4_child 51 = .ok (.aload_n 0, 1) := by decide +kernel
theorem dX4_child_52 : decode cX4_child 52 = .ok (.iload_n 1, 1) := by decide +kernel
theorem dX4_child_53 : decode cX4_child 53 = .ok (.invokevirtual 31, 3) := by decide +kernel
theorem dX4_child_56 : decode cX4_child 56 = .ok (.ifCond .eq 7, 3) := by decide +kernel
theorem dX4_child_59 : decode cX4_child 59 = .ok (.iconst 0, 1) := by decide +kernel
theorem dX4_child_60 : decode cX4_child 60 = .ok (.goto 4, 3) := by decide +kernel
theorem dX4_child_63 : decode cX4_child 63 = .ok (.iconst 3, 1) := by decide +kernel
theorem dX4_child_64 : decode cX4_child 64 = .ok (.putfield 16, 3) := by decide +kernel
theorem dX4_child_67 : decode cX4_child 67 = .ok (.aload_n 0, 1) := by decide +kernel
theorem dX4_child_68 : decode cX4_child 68 = .ok (.getfield 16, 3) := by decide +kernel
theorem dX4_child_71 : decode cX4_child 71 = .ok (.ifCond .eq 5, 3) := by decide +kernel
theorem dX4_child_74 : decode cX4_child 74 = .ok (.iconst 0, 1) := by decide +kernel
theorem dX4_child_75 : decode cX4_child 75 = .ok (.ireturn, 1) := by decide +kernel
theorem dX4_child_76 : decode cX4_child 76 = .ok (.iload_n 3, 1) := by decide +kernel
theorem dX4_child_77 : decode cX4_child 77 = .ok (.istore 5, 2) := by decide +kernel
theorem dX4_child_79 : decode cX4_child 79 = .ok (.iconst 0, 1) := by decide +kernel
theorem dX4_child_80 : decode cX4_child 80 = .ok (.istore 6, 2) := by decide +kernel
theorem dX4_child_82 : decode cX4_child 82 = .ok (.iload 6, 2) := by decide +kernel
theorem dX4_child_84 : decode cX4_child 84 = .ok (.bipush 32, 2) := by decide +kernel
theorem dX4_child_86 : decode cX4_child 86 = .ok (.if_icmp .ge 31, 3) := by decide +kernel
theorem dX4_child_89 : decode cX4_child 89 = .ok (.aload_n 0, 1) := by decide +kernel
theorem dX4_child_90 : decode cX4_child 90 = .ok (.iload 6, 2) := by decide +kernel
theorem dX4_child_92 : decode cX4_child 92 = .ok (.iload_n 1, 1) := by decide +kernel
theorem dX4_child_93 : decode cX4_child 93 = .ok (.iload_n 2, 1) := by decide +kernel
theorem dX4_child_94 : decode cX4_child 94 = .ok (.invokevirtual 35, 3) := by decide +kernel
theorem dX4_child_97 : decode cX4_child 97 = .ok (.ifCond .eq 14, 3) := by decide +kernel
theorem dX4_child_100 : decode cX4_child 100 = .ok (.iload 5, 2) := by decide +kernel
theorem dX4_child_102 : decode cX4_child 102 = .ok (.ifCond .ne 6, 3) := by decide +kernel
theorem dX4_child_105 : decode cX4_child 105 = .ok (.iload 6, 2) := by decide +kernel
theorem dX4_child_107 : decode cX4_child 107 = .ok (.ireturn, 1) := by decide +kernel
theorem dX4_child_108 : decode cX4_child 108 = .ok (.iinc 5 (-1), 3) := by decide +kernel
theorem dX4_child_111 : decode cX4_child 111 = .ok (.iinc 6 1, 3) := by decide +kernel
theorem dX4_child_114 : decode cX4_child 114 = .ok (.goto (-32), 3) := by decide +kernel
theorem dX4_child_117 : decode cX4_child 117 = .ok (.iconst (-1), 1) := by decide +kernel
theorem dX4_child_118 : decode cX4_child 118 = .ok (.ireturn, 1) := by decide +kernel
theorem dX4_subtreeOf_0 : decode cX4_subtreeOf 0 = .ok (.iconst 0, 1) := by decide +kernel
theorem dX4_subtreeOf_1 : decode cX4_subtreeOf 1 = .ok (.istore_n 3, 1) := by decide +kernel
theorem dX4_subtreeOf_2 : decode cX4_subtreeOf 2 = .ok (.iconst 0, 1) := by decide +kernel
theorem dX4_subtreeOf_3 : decode cX4_subtreeOf 3 = .ok (.istore 4, 2) := by decide +kernel
theorem dX4_subtreeOf_5 : decode cX4_subtreeOf 5 = .ok (.iload 4, 2) := by decide +kernel
theorem dX4_subtreeOf_7 : decode cX4_subtreeOf 7 = .ok (.bipush 32, 2) := by decide +kernel
theorem dX4_subtreeOf_9 : decode cX4_subtreeOf 9 = .ok (.if_icmp .ge 37, 3) := by decide +kernel
theorem dX4_subtreeOf_12 : decode cX4_subtreeOf 12 = .ok (.iload_n 3, 1) := by decide +kernel
theorem dX4_subtreeOf_13 : decode cX4_subtreeOf 13 = .ok (.aload_n 0, 1) := by decide +kernel
theorem dX4_subtreeOf_14 : decode cX4_subtreeOf 14 = .ok (.iload 4, 2) := by decide +kernel
theorem dX4_subtreeOf_16 : decode cX4_subtreeOf 16 = .ok (.invokevirtual 31, 3) := by decide +kernel
theorem dX4_subtreeOf_19 : decode cX4_subtreeOf 19 = .ok (.ifCond .eq 18, 3) := by decide +kernel
theorem dX4_subtreeOf_22 : decode cX4_subtreeOf 22 = .ok (.aload_n 0, 1) := by decide +kernel
theorem dX4_subtreeOf_23 : decode cX4_subtreeOf 23 = .ok (.iload 4, 2) := by decide +kernel
theorem dX4_subtreeOf_25 : decode cX4_subtreeOf 25 = .ok (.iload_n 1, 1) := by decide +kernel
theorem dX4_subtreeOf_26 : decode cX4_subtreeOf 26 = .ok (.iload_n 2, 1) := by decide +kernel
theorem dX4_subtreeOf_27 : decode cX4_subtreeOf 27 = .ok (.invokevirtual 61, 3) := by decide +kernel
theorem dX4_subtreeOf_30 : decode cX4_subtreeOf 30 = .ok (.ifCond .eq 7, 3) := by decide +kernel
theorem dX4_subtreeOf_33 : decode cX4_subtreeOf 33 = .ok (.iconst 1, 1) := by decide +kernel
theorem dX4_subtreeOf_34 : decode cX4_subtreeOf 34 = .ok (.goto 4, 3) := by decide +kernel
theorem dX4_subtreeOf_37 : decode cX4_subtreeOf 37 = .ok (.iconst 0, 1) := by decide +kernel
theorem dX4_subtreeOf_38 : decode cX4_subtreeOf 38 = .ok (.iadd, 1) := by decide +kernel
theorem dX4_subtreeOf_39 : decode cX4_subtreeOf 39 = .ok (.istore_n 3, 1) := by decide +kernel
theorem dX4_subtreeOf_40 : decode cX4_subtreeOf 40 = .ok (.iinc 4 1, 3) := by decide +kernel
theorem dX4_subtreeOf_43 : decode cX4_subtreeOf 43 = .ok (.goto (-38), 3) := by decide +kernel
theorem dX4_subtreeOf_46 : decode cX4_subtreeOf 46 = .ok (.iload_n 3, 1) := by decide +kernel
theorem dX4_subtreeOf_47 : decode cX4_subtreeOf 47 = .ok (.ireturn, 1) := by decide +kernel
theorem dX4_subtree_0 : decode cX4_subtree 0 = .ok (.iload_n 1, 1) := by decide +kernel
theorem dX4_subtree_1 : decode cX4_subtree 1 = .ok (.invokestatic 81, 3) := by decide +kernel
theorem dX4_subtree_4 : decode cX4_subtree 4 = .ok (.ifCond .eq 14, 3) := by decide +kernel
theorem dX4_subtree_7 : decode cX4_subtree 7 = .ok (.iload_n 2, 1) := by decide +kernel
theorem dX4_subtree_8 : decode cX4_subtree 8 = .ok (.invokestatic 84, 3) := by decide +kernel
theorem dX4_subtree_11 : decode cX4_subtree 11 = .ok (.ifCond .eq 7, 3) := by decide +kernel
theorem dX4_subtree_14 : decode cX4_subtree 14 = .ok (.iconst 1, 1) := by decide +kernel
theorem dX4_subtree_15 : decode cX4_subtree 15 = .ok (.goto 4, 3) := by decide +kernel
theorem dX4_subtree_18 : decode cX4_subtree 18 = .ok (.iconst 0, 1) := by decide +kernel
theorem dX4_subtree_19 : decode cX4_subtree 19 = .ok (.istore_n 3, 1) := by decide +kernel
theorem dX4_subtree_20 : decode cX4_subtree 20 = .ok (.aload_n 0, 1) := by decide +kernel
theorem dX4_subtree_21 : decode cX4_subtree 21 = .ok (.iload_n 3, 1) := by decide +kernel
theorem dX4_subtree_22 : decode cX4_subtree 22 = .ok (.iload_n 3, 1) := by decide +kernel
theorem dX4_subtree_23 : decode cX4_subtree 23 = .ok (.ifCond .eq 15, 3) := by decide +kernel
theorem dX4_subtree_26 : decode cX4_subtree 26 = .ok (.aload_n 0, 1) := by decide +kernel
theorem dX4_subtree_27 : decode cX4_subtree 27 = .ok (.iload_n 1, 1) := by decide +kernel
theorem dX4_subtree_28 : decode cX4_subtree 28 = .ok (.invokevirtual 31, 3) := by decide +kernel
theorem dX4_subtree_31 : decode cX4_subtree 31 = .ok (.ifCond .eq 7, 3) := by decide +kernel
theorem dX4_subtree_34 : decode cX4_subtree 34 = .ok (.iconst 1, 1) := by decide +kernel
theorem dX4_subtree_35 : decode cX4_subtree 35 = .ok (.goto 4, 3) := by decide +kernel
theorem dX4_subtree_38 : decode cX4_subtree 38 = .ok (.iconst 0, 1) := by decide +kernel
theorem dX4_subtree_39 : decode cX4_subtree 39 = .ok (.invokestatic 121, 3) := by decide +kernel
theorem dX4_subtree_42 : decode cX4_subtree 42 = .ok (.putfield 16, 3) := by decide +kernel
theorem dX4_subtree_45 : decode cX4_subtree 45 = .ok (.aload_n 0, 1) := by decide +kernel
theorem dX4_subtree_46 : decode cX4_subtree 46 = .ok (.getfield 16, 3) := by decide +kernel
theorem dX4_subtree_49 : decode cX4_subtree 49 = .ok (.ifCond .eq 7, 3) := by decide +kernel
theorem dX4_subtree_52 : decode cX4_subtree 52 = .ok (.iconst 0, 1) := by decide +kernel
theorem dX4_subtree_53 : decode cX4_subtree 53 = .ok (.goto 9, 3) := by decide +kernel
theorem dX4_subtree_56 : decode cX4_subtree 56 = .ok (.aload_n 0, 1) := by decide +kernel
theorem dX4_subtree_57 : decode cX4_subtree 57 = .ok (.iload_n 1, 1) := by decide +kernel
theorem dX4_subtree_58 : decode cX4_subtree 58 = .ok (.iload_n 2, 1) := by decide +kernel
theorem dX4_subtree_59 : decode cX4_subtree 59 = .ok (.invokevirtual 125, 3) := by decide +kernel
theorem dX4_subtree_62 : decode cX4_subtree 62 = .ok (.ireturn, 1) := by decide +kernel
theorem dX4_hasRoom_0 : decode cX4_hasRoom 0 = .ok (.iload_n 1, 1) := by decide +kernel
theorem dX4_hasRoom_1 : decode cX4_hasRoom 1 = .ok (.bipush 100, 2) := by decide +kernel
theorem dX4_hasRoom_3 : decode cX4_hasRoom 3 = .ok (.if_icmp .eq 10, 3) := by decide +kernel
theorem dX4_hasRoom_6 : decode cX4_hasRoom 6 = .ok (.iload_n 1, 1) := by decide +kernel
theorem dX4_hasRoom_7 : decode cX4_hasRoom 7 = .ok (.invokestatic 81, 3) := by decide +kernel
theorem dX4_hasRoom_10 : decode cX4_hasRoom 10 = .ok (.ifCond .eq 14, 3) := by decide +kernel
theorem dX4_hasRoom_13 : decode cX4_hasRoom 13 = .ok (.iload_n 2, 1) := by decide +kernel
theorem dX4_hasRoom_14 : decode cX4_hasRoom 14 = .ok (.invokestatic 84, 3) := by decide +kernel
theorem dX4_hasRoom_17 : decode cX4_hasRoom 17 = .ok (.ifCond .eq 7, 3) := by decide +kernel
theorem dX4_hasRoom_20 : decode cX4_hasRoom 20 = .ok (.iconst 1, 1) := by decide +kernel
theorem dX4_hasRoom_21 : decode cX4_hasRoom 21 = .ok (.goto 4, 3) := by decide +kernel
theorem dX4_hasRoom_24 : decode cX4_hasRoom 24 = .ok (.iconst 0, 1) := by decide +kernel
theorem dX4_hasRoom_25 : decode cX4_hasRoom 25 = .ok (.istore_n 3, 1) := by decide +kernel
theorem dX4_hasRoom_26 : decode cX4_hasRoom 26 = .ok (.aload_n 0, 1) := by decide +kernel
theorem dX4_hasRoom_27 : decode cX4_hasRoom 27 = .ok (.iload_n 3, 1) := by decide +kernel
theorem dX4_hasRoom_28 : decode cX4_hasRoom 28 = .ok (.iload_n 1, 1) := by decide +kernel
theorem dX4_hasRoom_29 : decode cX4_hasRoom 29 = .ok (.bipush 100, 2) := by decide +kernel
theorem dX4_hasRoom_31 : decode cX4_hasRoom 31 = .ok (.if_icmp .eq 15, 3) := by decide +kernel
theorem dX4_hasRoom_34 : decode cX4_hasRoom 34 = .ok (.iload_n 3, 1) := by decide +kernel
theorem dX4_hasRoom_35 : decode cX4_hasRoom 35 = .ok (.ifCond .eq 15, 3) := by decide +kernel
theorem dX4_hasRoom_38 : decode cX4_hasRoom 38 = .ok (.aload_n 0, 1) := by decide +kernel
theorem dX4_hasRoom_39 : decode cX4_hasRoom 39 = .ok (.iload_n 1, 1) := by decide +kernel
theorem dX4_hasRoom_40 : decode cX4_hasRoom 40 = .ok (.invokevirtual 31, 3) := by decide +kernel
theorem dX4_hasRoom_43 : decode cX4_hasRoom 43 = .ok (.ifCond .eq 7, 3) := by decide +kernel
theorem dX4_hasRoom_46 : decode cX4_hasRoom 46 = .ok (.iconst 1, 1) := by decide +kernel
theorem dX4_hasRoom_47 : decode cX4_hasRoom 47 = .ok (.goto 4, 3) := by decide +kernel
theorem dX4_hasRoom_50 : decode cX4_hasRoom 50 = .ok (.iconst 0, 1) := by decide +kernel
theorem dX4_hasRoom_51 : decode cX4_hasRoom 51 = .ok (.invokestatic 121, 3) := by decide +kernel
theorem dX4_hasRoom_54 : decode cX4_hasRoom 54 = .ok (.putfield 16, 3) := by decide +kernel
theorem dX4_hasRoom_57 : decode cX4_hasRoom 57 = .ok (.aload_n 0, 1) := by decide +kernel
theorem dX4_hasRoom_58 : decode cX4_hasRoom 58 = .ok (.getfield 16, 3) := by decide +kernel
theorem dX4_hasRoom_61 : decode cX4_hasRoom 61 = .ok (.ifCond .ne 16, 3) := by decide +kernel
theorem dX4_hasRoom_64 : decode cX4_hasRoom 64 = .ok (.aload_n 0, 1) := by decide +kernel
theorem dX4_hasRoom_65 : decode cX4_hasRoom 65 = .ok (.iload_n 1, 1) := by decide +kernel
theorem dX4_hasRoom_66 : decode cX4_hasRoom 66 = .ok (.iload_n 2, 1) := by decide +kernel
theorem dX4_hasRoom_67 : decode cX4_hasRoom 67 = .ok (.invokevirtual 58, 3) := by decide +kernel
theorem dX4_hasRoom_70 : decode cX4_hasRoom 70 = .ok (.ifCond .eq 7, 3) := by decide +kernel
theorem dX4_hasRoom_73 : decode cX4_hasRoom 73 = .ok (.iconst 1, 1) := by decide +kernel
theorem dX4_hasRoom_74 : decode cX4_hasRoom 74 = .ok (.goto 4, 3) := by decide +kernel
theorem dX4_hasRoom_77 : decode cX4_hasRoom 77 = .ok (.iconst 0, 1) := by decide +kernel
theorem dX4_hasRoom_78 : decode cX4_hasRoom 78 = .ok (.ireturn, 1) := by decide +kernel
theorem dX4_ranksBefore_0 : decode cX4_ranksBefore 0 = .ok (.iload_n 1, 1) := by decide +kernel
theorem dX4_ranksBefore_1 : decode cX4_ranksBefore 1 = .ok (.invokestatic 81, 3) := by decide +kernel
theorem dX4_ranksBefore_4 : decode cX4_ranksBefore 4 = .ok (.ifCond .eq 21, 3) := by decide +kernel
theorem dX4_ranksBefore_7 : decode cX4_ranksBefore 7 = .ok (.iload_n 2, 1) := by decide +kernel
theorem dX4_ranksBefore_8 : decode cX4_ranksBefore 8 = .ok (.invokestatic 81, 3) := by decide +kernel
theorem dX4_ranksBefore_11 : decode cX4_ranksBefore 11 = .ok (.ifCond .eq 14, 3) := by decide +kernel
theorem dX4_ranksBefore_14 : decode cX4_ranksBefore 14 = .ok (.iload_n 3, 1) := by decide +kernel
theorem dX4_ranksBefore_15 : decode cX4_ranksBefore 15 = .ok (.invokestatic 84, 3) := by decide +kernel
theorem dX4_ranksBefore_18 : decode cX4_ranksBefore 18 = .ok (.ifCond .eq 7, 3) := by decide +kernel
theorem dX4_ranksBefore_21 : decode cX4_ranksBefore 21 = .ok (.iconst 1, 1) := by decide +kernel
theorem dX4_ranksBefore_22 : decode cX4_ranksBefore 22 = .ok (.goto 4, 3) := by decide +kernel
theorem dX4_ranksBefore_25 : decode cX4_ranksBefore 25 = .ok (.iconst 0, 1) := by decide +kernel
theorem dX4_ranksBefore_26 : decode cX4_ranksBefore 26 = .ok (.istore 4, 2) := by decide +kernel
theorem dX4_ranksBefore_28 : decode cX4_ranksBefore 28 = .ok (.aload_n 0, 1) := by decide +kernel
theorem dX4_ranksBefore_29 : decode cX4_ranksBefore 29 = .ok (.iload 4, 2) := by decide +kernel
theorem dX4_ranksBefore_31 : decode cX4_ranksBefore 31 = .ok (.ifCond .ne 7, 3) := by decide +kernel
theorem dX4_ranksBefore_34 : decode cX4_ranksBefore 34 = .ok (.iconst 1, 1) := by decide +kernel
theorem dX4_ranksBefore_35 : decode cX4_ranksBefore 35 = .ok (.goto 33, 3) := by decide +kernel
theorem dX4_ranksBefore_38 : decode cX4_ranksBefore 38 = .ok (.iload_n 1, 1) := by decide +kernel
theorem dX4_ranksBefore_39 : decode cX4_ranksBefore 39 = .ok (.iload_n 2, 1) := by decide +kernel
theorem dX4_ranksBefore_40 : decode cX4_ranksBefore 40 = .ok (.if_icmp .ne 7, 3) := by decide +kernel
theorem dX4_ranksBefore_43 : decode cX4_ranksBefore 43 = .ok (.iconst 2, 1) := by decide +kernel
theorem dX4_ranksBefore_44 : decode cX4_ranksBefore 44 = .ok (.goto 24, 3) := by decide +kernel
theorem dX4_ranksBefore_47 : decode cX4_ranksBefore 47 = .ok (.aload_n 0, 1) := by decide +kernel
theorem dX4_ranksBefore_48 : decode cX4_ranksBefore 48 = .ok (.iload_n 1, 1) := by decide +kernel
theorem dX4_ranksBefore_49 : decode cX4_ranksBefore 49 = .ok (.invokevirtual 31, 3) := by decide +kernel
theorem dX4_ranksBefore_52 : decode cX4_ranksBefore 52 = .ok (.ifCond .eq 15, 3) := by decide +kernel
theorem dX4_ranksBefore_55 : decode cX4_ranksBefore 55 = .ok (.aload_n 0, 1) := by decide +kernel
theorem dX4_ranksBefore_56 : decode cX4_ranksBefore 56 = .ok (.iload_n 2, 1) := by decide +kernel
theorem dX4_ranksBefore_57 : decode cX4_ranksBefore 57 = .ok (.invokevirtual 31, 3) := by decide +kernel
theorem dX4_ranksBefore_60 : decode cX4_ranksBefore 60 = .ok (.ifCond .eq 7, 3) := by decide +kernel
theorem dX4_ranksBefore_63 : decode cX4_ranksBefore 63 = .ok (.iconst 0, 1) := by decide +kernel
theorem dX4_ranksBefore_64 : decode cX4_ranksBefore 64 = .ok (.goto 4, 3) := by decide +kernel
theorem dX4_ranksBefore_67 : decode cX4_ranksBefore 67 = .ok (.iconst 3, 1) := by decide +kernel
theorem dX4_ranksBefore_68 : decode cX4_ranksBefore 68 = .ok (.putfield 16, 3) := by decide +kernel
theorem dX4_ranksBefore_71 : decode cX4_ranksBefore 71 = .ok (.aload_n 0, 1) := by decide +kernel
theorem dX4_ranksBefore_72 : decode cX4_ranksBefore 72 = .ok (.getfield 16, 3) := by decide +kernel
theorem dX4_ranksBefore_75 : decode cX4_ranksBefore 75 = .ok (.ifCond .ne 17, 3) := by decide +kernel
theorem dX4_ranksBefore_78 : decode cX4_ranksBefore 78 = .ok (.aload_n 0, 1) := by decide +kernel
theorem dX4_ranksBefore_79 : decode cX4_ranksBefore 79 = .ok (.iload_n 1, 1) := by decide +kernel
theorem dX4_ranksBefore_80 : decode cX4_ranksBefore 80 = .ok (.iload_n 2, 1) := by decide +kernel
theorem dX4_ranksBefore_81 : decode cX4_ranksBefore 81 = .ok (.iload_n 3, 1) := by decide +kernel
theorem dX4_ranksBefore_82 : decode cX4_ranksBefore 82 = .ok (.invokevirtual 52, 3) := by decide +kernel
theorem dX4_ranksBefore_85 : decode cX4_ranksBefore 85 = .ok (.ifCond .eq 7, 3) := by decide +kernel
theorem dX4_ranksBefore_88 : decode cX4_ranksBefore 88 = .ok (.iconst 1, 1) := by decide +kernel
theorem dX4_ranksBefore_89 : decode cX4_ranksBefore 89 = .ok (.goto 4, 3) := by decide +kernel
theorem dX4_ranksBefore_92 : decode cX4_ranksBefore 92 = .ok (.iconst 0, 1) := by decide +kernel
theorem dX4_ranksBefore_93 : decode cX4_ranksBefore 93 = .ok (.ireturn, 1) := by decide +kernel
theorem dX4_harmOf_0 : decode cX4_harmOf 0 = .ok (.aload_n 0, 1) := by decide +kernel
theorem dX4_harmOf_1 : decode cX4_harmOf 1 = .ok (.iload_n 1, 1) := by decide +kernel
theorem dX4_harmOf_2 : decode cX4_harmOf 2 = .ok (.iconst 3, 1) := by decide +kernel
theorem dX4_harmOf_3 : decode cX4_harmOf 3 = .ok (.invokevirtual 27, 3) := by decide +kernel
theorem dX4_harmOf_6 : decode cX4_harmOf 6 = .ok (.iconst 1, 1) := by decide +kernel
theorem dX4_harmOf_7 : decode cX4_harmOf 7 = .ok (.if_icmp .ne 5, 3) := by decide +kernel
theorem dX4_harmOf_10 : decode cX4_harmOf 10 = .ok (.iconst 0, 1) := by decide +kernel
theorem dX4_harmOf_11 : decode cX4_harmOf 11 = .ok (.ireturn, 1) := by decide +kernel
theorem dX4_harmOf_12 : decode cX4_harmOf 12 = .ok (.iconst 0, 1) := by decide +kernel
theorem dX4_harmOf_13 : decode cX4_harmOf 13 = .ok (.istore_n 2, 1) := by decide +kernel
theorem dX4_harmOf_14 : decode cX4_harmOf 14 = .ok (.iconst 0, 1) := by decide +kernel
theorem dX4_harmOf_15 : decode cX4_harmOf 15 = .ok (.istore_n 3, 1) := by decide +kernel
theorem dX4_harmOf_16 : decode cX4_harmOf 16 = .ok (.iload_n 3, 1) := by decide +kernel
theorem dX4_harmOf_17 : decode cX4_harmOf 17 = .ok (.bipush 32, 2) := by decide +kernel
theorem dX4_harmOf_19 : decode cX4_harmOf 19 = .ok (.if_icmp .ge 66, 3) := by decide +kernel
theorem dX4_harmOf_22 : decode cX4_harmOf 22 = .ok (.iload_n 3, 1) := by decide +kernel
theorem dX4_harmOf_23 : decode cX4_harmOf 23 = .ok (.iload_n 1, 1) := by decide +kernel
theorem dX4_harmOf_24 : decode cX4_harmOf 24 = .ok (.if_icmp .eq 24, 3) := by decide +kernel
theorem dX4_harmOf_27 : decode cX4_harmOf 27 = .ok (.aload_n 0, 1) := by decide +kernel
theorem dX4_harmOf_28 : decode cX4_harmOf 28 = .ok (.iload_n 3, 1) := by decide +kernel
theorem dX4_harmOf_29 : decode cX4_harmOf 29 = .ok (.invokevirtual 31, 3) := by decide +kernel
theorem dX4_harmOf_32 : decode cX4_harmOf 32 = .ok (.ifCond .eq 16, 3) := by decide +kernel
theorem dX4_harmOf_35 : decode cX4_harmOf 35 = .ok (.aload_n 0, 1) := by decide +kernel
theorem dX4_harmOf_36 : decode cX4_harmOf 36 = .ok (.iload_n 3, 1) := by decide +kernel
theorem dX4_harmOf_37 : decode cX4_harmOf 37 = .ok (.iconst 3, 1) := by decide +kernel
theorem dX4_harmOf_38 : decode cX4_harmOf 38 = .ok (.invokevirtual 27, 3) := by decide +kernel
theorem dX4_harmOf_41 : decode cX4_harmOf 41 = .ok (.ifCond .ne 7, 3) := by decide +kernel
theorem dX4_harmOf_44 : decode cX4_harmOf 44 = .ok (.iconst 1, 1) := by decide +kernel
theorem dX4_harmOf_45 : decode cX4_harmOf 45 = .ok (.goto 4, 3) := by decide +kernel
theorem dX4_harmOf_48 : decode cX4_harmOf 48 = .ok (.iconst 0, 1) := by decide +kernel
theorem dX4_harmOf_49 : decode cX4_harmOf 49 = .ok (.istore 4, 2) := by decide +kernel
theorem dX4_harmOf_51 : decode cX4_harmOf 51 = .ok (.iload_n 2, 1) := by decide +kernel
theorem dX4_harmOf_52 : decode cX4_harmOf 52 = .ok (.iload 4, 2) := by decide +kernel
theorem dX4_harmOf_54 : decode cX4_harmOf 54 = .ok (.ifCond .eq 22, 3) := by decide +kernel
theorem dX4_harmOf_57 : decode cX4_harmOf 57 = .ok (.aload_n 0, 1) := by decide +kernel
theorem dX4_harmOf_58 : decode cX4_harmOf 58 = .ok (.iload_n 3, 1) := by decide +kernel
theorem dX4_harmOf_59 : decode cX4_harmOf 59 = .ok (.iload_n 1, 1) := by decide +kernel
theorem dX4_harmOf_60 : decode cX4_harmOf 60 = .ok (.invokevirtual 106, 3) := by decide +kernel
theorem dX4_harmOf_63 : decode cX4_harmOf 63 = .ok (.aload_n 0, 1) := by decide +kernel
theorem dX4_harmOf_64 : decode cX4_harmOf 64 = .ok (.iload_n 3, 1) := by decide +kernel
theorem dX4_harmOf_65 : decode cX4_harmOf 65 = .ok (.iconst (-1), 1) := by decide +kernel
theorem dX4_harmOf_66 : decode cX4_harmOf 66 = .ok (.invokevirtual 106, 3) := by decide +kernel
theorem dX4_harmOf_69 : decode cX4_harmOf 69 = .ok (.if_icmp .ge 7, 3) := by decide +kernel
theorem dX4_harmOf_72 : decode cX4_harmOf 72 = .ok (.iconst 1, 1) := by decide +kernel
theorem dX4_harmOf_73 : decode cX4_harmOf 73 = .ok (.goto 4, 3) := by decide +kernel
theorem dX4_harmOf_76 : decode cX4_harmOf 76 = .ok (.iconst 0, 1) := by decide +kernel
theorem dX4_harmOf_77 : decode cX4_harmOf 77 = .ok (.iadd, 1) := by decide +kernel
theorem dX4_harmOf_78 : decode cX4_harmOf 78 = .ok (.istore_n 2, 1) := by decide +kernel
theorem dX4_harmOf_79 : decode cX4_harmOf 79 = .ok (.iinc 3 1, 3) := by decide +kernel
theorem dX4_harmOf_82 : decode cX4_harmOf 82 = .ok (.goto (-66), 3) := by decide +kernel
theorem dX4_harmOf_85 : decode cX4_harmOf 85 = .ok (.iload_n 2, 1) := by decide +kernel
theorem dX4_harmOf_86 : decode cX4_harmOf 86 = .ok (.ireturn, 1) := by decide +kernel
theorem dX4_harm_0 : decode cX4_harm 0 = .ok (.aload_n 0, 1) := by decide +kernel
theorem dX4_harm_1 : decode cX4_harm 1 = .ok (.iload_n 1, 1) := by decide +kernel
theorem dX4_harm_2 : decode cX4_harm 2 = .ok (.invokestatic 81, 3) := by decide +kernel
theorem dX4_harm_5 : decode cX4_harm 5 = .ok (.ifCond .ne 7, 3) := by decide +kernel
theorem dX4_harm_8 : decode cX4_harm 8 = .ok (.iconst 1, 1) := by decide +kernel
theorem dX4_harm_9 : decode cX4_harm 9 = .ok (.goto 16, 3) := by decide +kernel
theorem dX4_harm_12 : decode cX4_harm 12 = .ok (.aload_n 0, 1) := by decide +kernel
theorem dX4_harm_13 : decode cX4_harm 13 = .ok (.iload_n 1, 1) := by decide +kernel
theorem dX4_harm_14 : decode cX4_harm 14 = .ok (.invokevirtual 31, 3) := by decide +kernel
theorem dX4_harm_17 : decode cX4_harm 17 = .ok (.ifCond .eq 7, 3) := by decide +kernel
theorem dX4_harm_20 : decode cX4_harm 20 = .ok (.iconst 0, 1) := by decide +kernel
theorem dX4_harm_21 : decode cX4_harm 21 = .ok (.goto 4, 3) := by decide +kernel
theorem dX4_harm_24 : decode cX4_harm 24 = .ok (.iconst 2, 1) := by decide +kernel
theorem dX4_harm_25 : decode cX4_harm 25 = .ok (.putfield 16, 3) := by decide +kernel
theorem dX4_harm_28 : decode cX4_harm 28 = .ok (.aload_n 0, 1) := by decide +kernel
theorem dX4_harm_29 : decode cX4_harm 29 = .ok (.getfield 16, 3) := by decide +kernel
theorem dX4_harm_32 : decode cX4_harm 32 = .ok (.ifCond .eq 7, 3) := by decide +kernel
theorem dX4_harm_35 : decode cX4_harm 35 = .ok (.iconst 0, 1) := by decide +kernel
theorem dX4_harm_36 : decode cX4_harm 36 = .ok (.goto 8, 3) := by decide +kernel
theorem dX4_harm_39 : decode cX4_harm 39 = .ok (.aload_n 0, 1) := by decide +kernel
theorem dX4_harm_40 : decode cX4_harm 40 = .ok (.iload_n 1, 1) := by decide +kernel
theorem dX4_harm_41 : decode cX4_harm 41 = .ok (.invokevirtual 128, 3) := by decide +kernel
theorem dX4_harm_44 : decode cX4_harm 44 = .ok (.ireturn, 1) := by decide +kernel
theorem dX4_pieces_0 : decode cX4_pieces 0 = .ok (.aload_n 0, 1) := by decide +kernel
theorem dX4_pieces_1 : decode cX4_pieces 1 = .ok (.iload_n 1, 1) := by decide +kernel
theorem dX4_pieces_2 : decode cX4_pieces 2 = .ok (.invokestatic 81, 3) := by decide +kernel
theorem dX4_pieces_5 : decode cX4_pieces 5 = .ok (.ifCond .ne 7, 3) := by decide +kernel
theorem dX4_pieces_8 : decode cX4_pieces 8 = .ok (.iconst 1, 1) := by decide +kernel
theorem dX4_pieces_9 : decode cX4_pieces 9 = .ok (.goto 16, 3) := by decide +kernel
theorem dX4_pieces_12 : decode cX4_pieces 12 = .ok (.aload_n 0, 1) := by decide +kernel
theorem dX4_pieces_13 : decode cX4_pieces 13 = .ok (.iload_n 1, 1) := by decide +kernel
theorem dX4_pieces_14 : decode cX4_pieces 14 = .ok (.invokevirtual 31, 3) := by decide +kernel
theorem dX4_pieces_17 : decode cX4_pieces 17 = .ok (.ifCond .eq 7, 3) := by decide +kernel
theorem dX4_pieces_20 : decode cX4_pieces 20 = .ok (.iconst 0, 1) := by decide +kernel
theorem dX4_pieces_21 : decode cX4_pieces 21 = .ok (.goto 4, 3) := by decide +kernel
theorem dX4_pieces_24 : decode cX4_pieces 24 = .ok (.iconst 2, 1) := by decide +kernel
theorem dX4_pieces_25 : decode cX4_pieces 25 = .ok (.putfield 16, 3) := by decide +kernel
theorem dX4_pieces_28 : decode cX4_pieces 28 = .ok (.aload_n 0, 1) := by decide +kernel
theorem dX4_pieces_29 : decode cX4_pieces 29 = .ok (.getfield 16, 3) := by decide +kernel
theorem dX4_pieces_32 : decode cX4_pieces 32 = .ok (.ifCond .eq 7, 3) := by decide +kernel
theorem dX4_pieces_35 : decode cX4_pieces 35 = .ok (.iconst 0, 1) := by decide +kernel
theorem dX4_pieces_36 : decode cX4_pieces 36 = .ok (.goto 9, 3) := by decide +kernel
theorem dX4_pieces_39 : decode cX4_pieces 39 = .ok (.aload_n 0, 1) := by decide +kernel
theorem dX4_pieces_40 : decode cX4_pieces 40 = .ok (.iload_n 1, 1) := by decide +kernel
theorem dX4_pieces_41 : decode cX4_pieces 41 = .ok (.iconst (-1), 1) := by decide +kernel
theorem dX4_pieces_42 : decode cX4_pieces 42 = .ok (.invokevirtual 106, 3) := by decide +kernel
theorem dX4_pieces_45 : decode cX4_pieces 45 = .ok (.ireturn, 1) := by decide +kernel
theorem dX4_stripeOf_0 : decode cX4_stripeOf 0 = .ok (.iconst 0, 1) := by decide +kernel
theorem dX4_stripeOf_1 : decode cX4_stripeOf 1 = .ok (.istore_n 3, 1) := by decide +kernel
theorem dX4_stripeOf_2 : decode cX4_stripeOf 2 = .ok (.iconst 0, 1) := by decide +kernel
theorem dX4_stripeOf_3 : decode cX4_stripeOf 3 = .ok (.istore 4, 2) := by decide +kernel
theorem dX4_stripeOf_5 : decode cX4_stripeOf 5 = .ok (.iconst 0, 1) := by decide +kernel
theorem dX4_stripeOf_6 : decode cX4_stripeOf 6 = .ok (.istore 5, 2) := by decide +kernel
theorem dX4_stripeOf_8 : decode cX4_stripeOf 8 = .ok (.iconst 0, 1) := by decide +kernel
theorem dX4_stripeOf_9 : decode cX4_stripeOf 9 = .ok (.istore 6, 2) := by decide +kernel
theorem dX4_stripeOf_11 : decode cX4_stripeOf 11 = .ok (.iconst 0, 1) := by decide +kernel
theorem dX4_stripeOf_12 : decode cX4_stripeOf 12 = .ok (.istore 7, 2) := by decide +kernel
theorem dX4_stripeOf_14 : decode cX4_stripeOf 14 = .ok (.iload 7, 2) := by decide +kernel
theorem dX4_stripeOf_16 : decode cX4_stripeOf 16 = .ok (.bipush 32, 2) := by decide +kernel
theorem dX4_stripeOf_18 : decode cX4_stripeOf 18 = .ok (.if_icmp .ge 97, 3) := by decide +kernel
theorem dX4_stripeOf_21 : decode cX4_stripeOf 21 = .ok (.aload_n 0, 1) := by decide +kernel
theorem dX4_stripeOf_22 : decode cX4_stripeOf 22 = .ok (.iload 7, 2) := by decide +kernel
theorem dX4_stripeOf_24 : decode cX4_stripeOf 24 = .ok (.invokevirtual 31, 3) := by decide +kernel
theorem dX4_stripeOf_27 : decode cX4_stripeOf 27 = .ok (.ifCond .eq 82, 3) := by decide +kernel
theorem dX4_stripeOf_30 : decode cX4_stripeOf 30 = .ok (.aload_n 0, 1) := by decide +kernel
theorem dX4_stripeOf_31 : decode cX4_stripeOf 31 = .ok (.iload 7, 2) := by decide +kernel
theorem dX4_stripeOf_33 : decode cX4_stripeOf 33 = .ok (.iload_n 1, 1) := by decide +kernel
theorem dX4_stripeOf_34 : decode cX4_stripeOf 34 = .ok (.invokevirtual 49, 3) := by decide +kernel
theorem dX4_stripeOf_37 : decode cX4_stripeOf 37 = .ok (.istore 8, 2) := by decide +kernel
theorem dX4_stripeOf_39 : decode cX4_stripeOf 39 = .ok (.iload_n 3, 1) := by decide +kernel
theorem dX4_stripeOf_40 : decode cX4_stripeOf 40 = .ok (.iload 8, 2) := by decide +kernel
theorem dX4_stripeOf_42 : decode cX4_stripeOf 42 = .ok (.iconst (-1), 1) := by decide +kernel
theorem dX4_stripeOf_43 : decode cX4_stripeOf 43 = .ok (.if_icmp .ne 7, 3) := by decide +kernel
theorem dX4_stripeOf_46 : decode cX4_stripeOf 46 = .ok (.iconst 0, 1) := by decide +kernel
theorem dX4_stripeOf_47 : decode cX4_stripeOf 47 = .ok (.goto 4, 3) := by decide +kernel
theorem dX4_stripeOf_50 : decode cX4_stripeOf 50 = .ok (.iconst 1, 1) := by decide +kernel
theorem dX4_stripeOf_51 : decode cX4_stripeOf 51 = .ok (.iadd, 1) := by decide +kernel
theorem dX4_stripeOf_52 : decode cX4_stripeOf 52 = .ok (.istore_n 3, 1) := by decide +kernel
theorem dX4_stripeOf_53 : decode cX4_stripeOf 53 = .ok (.iload 8, 2) := by decide +kernel
theorem dX4_stripeOf_55 : decode cX4_stripeOf 55 = .ok (.iload 4, 2) := by decide +kernel
theorem dX4_stripeOf_57 : decode cX4_stripeOf 57 = .ok (.if_icmp .le 8, 3) := by decide +kernel
theorem dX4_stripeOf_60 : decode cX4_stripeOf 60 = .ok (.iload 8, 2) := by decide +kernel
theorem dX4_stripeOf_62 : decode cX4_stripeOf 62 = .ok (.goto 5, 3) := by decide +kernel
theorem dX4_stripeOf_65 : decode cX4_stripeOf 65 = .ok (.iload 4, 2) := by decide +kernel
theorem dX4_stripeOf_67 : decode cX4_stripeOf 67 = .ok (.istore 4, 2) := by decide +kernel
theorem dX4_stripeOf_69 : decode cX4_stripeOf 69 = .ok (.iload 5, 2) := by decide +kernel
theorem dX4_stripeOf_71 : decode cX4_stripeOf 71 = .ok (.aload_n 0, 1) := by decide +kernel
theorem dX4_stripeOf_72 : decode cX4_stripeOf 72 = .ok (.iload 7, 2) := by decide +kernel
theorem dX4_stripeOf_74 : decode cX4_stripeOf 74 = .ok (.iload_n 1, 1) := by decide +kernel
theorem dX4_stripeOf_75 : decode cX4_stripeOf 75 = .ok (.invokevirtual 58, 3) := by decide +kernel
theorem dX4_stripeOf_78 : decode cX4_stripeOf 78 = .ok (.ifCond .eq 7, 3) := by decide +kernel
theorem dX4_stripeOf_81 : decode cX4_stripeOf 81 = .ok (.iconst 1, 1) := by decide +kernel
theorem dX4_stripeOf_82 : decode cX4_stripeOf 82 = .ok (.goto 4, 3) := by decide +kernel
theorem dX4_stripeOf_85 : decode cX4_stripeOf 85 = .ok (.iconst 0, 1) := by decide +kernel
theorem dX4_stripeOf_86 : decode cX4_stripeOf 86 = .ok (.iadd, 1) := by decide +kernel
theorem dX4_stripeOf_87 : decode cX4_stripeOf 87 = .ok (.istore 5, 2) := by decide +kernel
theorem dX4_stripeOf_89 : decode cX4_stripeOf 89 = .ok (.iload 6, 2) := by decide +kernel
theorem dX4_stripeOf_91 : decode cX4_stripeOf 91 = .ok (.aload_n 0, 1) := by decide +kernel
theorem dX4_stripeOf_92 : decode cX4_stripeOf 92 = .ok (.iload 7, 2) := by decide +kernel
theorem dX4_stripeOf_94 : decode cX4_stripeOf 94 = .ok (.iload_n 1, 1) := by decide +kernel
theorem dX4_stripeOf_95 : decode cX4_stripeOf 95 = .ok (.invokevirtual 38, 3) := by decide +kernel
theorem dX4_stripeOf_98 : decode cX4_stripeOf 98 = .ok (.ifCond .le 7, 3) := by decide +kernel
theorem dX4_stripeOf_101 : decode cX4_stripeOf 101 = .ok (.iconst 1, 1) := by decide +kernel
theorem dX4_stripeOf_102 : decode cX4_stripeOf 102 = .ok (.goto 4, 3) := by decide +kernel
theorem dX4_stripeOf_105 : decode cX4_stripeOf 105 = .ok (.iconst 0, 1) := by decide +kernel
theorem dX4_stripeOf_106 : decode cX4_stripeOf 106 = .ok (.iadd, 1) := by decide +kernel
theorem dX4_stripeOf_107 : decode cX4_stripeOf 107 = .ok (.istore 6, 2) := by decide +kernel
theorem dX4_stripeOf_109 : decode cX4_stripeOf 109 = .ok (.iinc 7 1, 3) := by decide +kernel
theorem dX4_stripeOf_112 : decode cX4_stripeOf 112 = .ok (.goto (-98), 3) := by decide +kernel
theorem dX4_stripeOf_115 : decode cX4_stripeOf 115 = .ok (.iload_n 2, 1) := by decide +kernel
theorem dX4_stripeOf_116 : decode cX4_stripeOf 116 = .ok (.tableswitch 58 0 4 #[36, 38, 44, 47, 55], 36) := by decide +kernel
theorem dX4_stripeOf_152 : decode cX4_stripeOf 152 = .ok (.iload_n 3, 1) := by decide +kernel
theorem dX4_stripeOf_153 : decode cX4_stripeOf 153 = .ok (.ireturn, 1) := by decide +kernel
theorem dX4_stripeOf_154 : decode cX4_stripeOf 154 = .ok (.aload_n 0, 1) := by decide +kernel
theorem dX4_stripeOf_155 : decode cX4_stripeOf 155 = .ok (.iload_n 1, 1) := by decide +kernel
theorem dX4_stripeOf_156 : decode cX4_stripeOf 156 = .ok (.invokevirtual 100, 3) := by decide +kernel
theorem dX4_stripeOf_159 : decode cX4_stripeOf 159 = .ok (.ireturn, 1) := by decide +kernel
theorem dX4_stripeOf_160 : decode cX4_stripeOf 160 = .ok (.iload 4, 2) := by decide +kernel
theorem dX4_stripeOf_162 : decode cX4_stripeOf 162 = .ok (.ireturn, 1) := by decide +kernel
theorem dX4_stripeOf_163 : decode cX4_stripeOf 163 = .ok (.aload_n 0, 1) := by decide +kernel
theorem dX4_stripeOf_164 : decode cX4_stripeOf 164 = .ok (.bipush 100, 2) := by decide +kernel
theorem dX4_stripeOf_166 : decode cX4_stripeOf 166 = .ok (.iload_n 1, 1) := by decide +kernel
theorem dX4_stripeOf_167 : decode cX4_stripeOf 167 = .ok (.invokevirtual 38, 3) := by decide +kernel
theorem dX4_stripeOf_170 : decode cX4_stripeOf 170 = .ok (.ireturn, 1) := by decide +kernel
theorem dX4_stripeOf_171 : decode cX4_stripeOf 171 = .ok (.iload 5, 2) := by decide +kernel
theorem dX4_stripeOf_173 : decode cX4_stripeOf 173 = .ok (.ireturn, 1) := by decide +kernel
theorem dX4_stripeOf_174 : decode cX4_stripeOf 174 = .ok (.iload 6, 2) := by decide +kernel
theorem dX4_stripeOf_176 : decode cX4_stripeOf 176 = .ok (.ireturn, 1) := by decide +kernel
theorem dX4_stripe_0 : decode cX4_stripe 0 = .ok (.aload_n 0, 1) := by decide +kernel
theorem dX4_stripe_1 : decode cX4_stripe 1 = .ok (.iload_n 1, 1) := by decide +kernel
theorem dX4_stripe_2 : decode cX4_stripe 2 = .ok (.invokestatic 84, 3) := by decide +kernel
theorem dX4_stripe_5 : decode cX4_stripe 5 = .ok (.ifCond .ne 7, 3) := by decide +kernel
theorem dX4_stripe_8 : decode cX4_stripe 8 = .ok (.iconst 1, 1) := by decide +kernel
theorem dX4_stripe_9 : decode cX4_stripe 9 = .ok (.goto 17, 3) := by decide +kernel
theorem dX4_stripe_12 : decode cX4_stripe 12 = .ok (.iload_n 2, 1) := by decide +kernel
theorem dX4_stripe_13 : decode cX4_stripe 13 = .ok (.iconst 0, 1) := by decide +kernel
theorem dX4_stripe_14 : decode cX4_stripe 14 = .ok (.iconst 5, 1) := by decide +kernel
theorem dX4_stripe_15 : decode cX4_stripe 15 = .ok (.invokestatic 23, 3) := by decide +kernel
theorem dX4_stripe_18 : decode cX4_stripe 18 = .ok (.ifCond .ne 7, 3) := by decide +kernel
theorem dX4_stripe_21 : decode cX4_stripe 21 = .ok (.iconst 2, 1) := by decide +kernel
theorem dX4_stripe_22 : decode cX4_stripe 22 = .ok (.goto 4, 3) := by decide +kernel
theorem dX4_stripe_25 : decode cX4_stripe 25 = .ok (.iconst 0, 1) := by decide +kernel
theorem dX4_stripe_26 : decode cX4_stripe 26 = .ok (.putfield 16, 3) := by decide +kernel
theorem dX4_stripe_29 : decode cX4_stripe 29 = .ok (.aload_n 0, 1) := by decide +kernel
theorem dX4_stripe_30 : decode cX4_stripe 30 = .ok (.getfield 16, 3) := by decide +kernel
theorem dX4_stripe_33 : decode cX4_stripe 33 = .ok (.ifCond .eq 7, 3) := by decide +kernel
theorem dX4_stripe_36 : decode cX4_stripe 36 = .ok (.iconst 0, 1) := by decide +kernel
theorem dX4_stripe_37 : decode cX4_stripe 37 = .ok (.goto 9, 3) := by decide +kernel
theorem dX4_stripe_40 : decode cX4_stripe 40 = .ok (.aload_n 0, 1) := by decide +kernel
theorem dX4_stripe_41 : decode cX4_stripe 41 = .ok (.iload_n 1, 1) := by decide +kernel
theorem dX4_stripe_42 : decode cX4_stripe 42 = .ok (.iload_n 2, 1) := by decide +kernel
theorem dX4_stripe_43 : decode cX4_stripe 43 = .ok (.invokevirtual 131, 3) := by decide +kernel
theorem dX4_stripe_46 : decode cX4_stripe 46 = .ok (.ireturn, 1) := by decide +kernel
theorem dX4_countOf_0 : decode cX4_countOf 0 = .ok (.iload_n 1, 1) := by decide +kernel
theorem dX4_countOf_1 : decode cX4_countOf 1 = .ok (.ifCond .le 12, 3) := by decide +kernel
theorem dX4_countOf_4 : decode cX4_countOf 4 = .ok (.aload_n 0, 1) := by decide +kernel
theorem dX4_countOf_5 : decode cX4_countOf 5 = .ok (.getfield 7, 3) := by decide +kernel
theorem dX4_countOf_8 : decode cX4_countOf 8 = .ok (.iconst 3, 1) := by decide +kernel
theorem dX4_countOf_9 : decode cX4_countOf 9 = .ok (.iload_n 1, 1) := by decide +kernel
theorem dX4_countOf_10 : decode cX4_countOf 10 = .ok (.iadd, 1) := by decide +kernel
theorem dX4_countOf_11 : decode cX4_countOf 11 = .ok (.iaload, 1) := by decide +kernel
theorem dX4_countOf_12 : decode cX4_countOf 12 = .ok (.ireturn, 1) := by decide +kernel
theorem dX4_countOf_13 : decode cX4_countOf 13 = .ok (.iconst 0, 1) := by decide +kernel
theorem dX4_countOf_14 : decode cX4_countOf 14 = .ok (.istore_n 2, 1) := by decide +kernel
theorem dX4_countOf_15 : decode cX4_countOf 15 = .ok (.iconst 0, 1) := by decide +kernel
theorem dX4_countOf_16 : decode cX4_countOf 16 = .ok (.istore_n 3, 1) := by decide +kernel
theorem dX4_countOf_17 : decode cX4_countOf 17 = .ok (.iload_n 3, 1) := by decide +kernel
theorem dX4_countOf_18 : decode cX4_countOf 18 = .ok (.bipush 32, 2) := by decide +kernel
theorem dX4_countOf_20 : decode cX4_countOf 20 = .ok (.if_icmp .ge 18, 3) := by decide +kernel
theorem dX4_countOf_23 : decode cX4_countOf 23 = .ok (.iload_n 2, 1) := by decide +kernel
theorem dX4_countOf_24 : decode cX4_countOf 24 = .ok (.aload_n 0, 1) := by decide +kernel
theorem dX4_countOf_25 : decode cX4_countOf 25 = .ok (.iload_n 3, 1) := by decide +kernel
theorem dX4_countOf_26 : decode cX4_countOf 26 = .ok (.iconst 0, 1) := by decide +kernel
theorem dX4_countOf_27 : decode cX4_countOf 27 = .ok (.invokevirtual 27, 3) := by decide +kernel
theorem dX4_countOf_30 : decode cX4_countOf 30 = .ok (.iadd, 1) := by decide +kernel
theorem dX4_countOf_31 : decode cX4_countOf 31 = .ok (.istore_n 2, 1) := by decide +kernel
theorem dX4_countOf_32 : decode cX4_countOf 32 = .ok (.iinc 3 1, 3) := by decide +kernel
theorem dX4_countOf_35 : decode cX4_countOf 35 = .ok (.goto (-18), 3) := by decide +kernel
theorem dX4_countOf_38 : decode cX4_countOf 38 = .ok (.iload_n 2, 1) := by decide +kernel
theorem dX4_countOf_39 : decode cX4_countOf 39 = .ok (.ireturn, 1) := by decide +kernel
theorem dX4_count_0 : decode cX4_count 0 = .ok (.aload_n 0, 1) := by decide +kernel
theorem dX4_count_1 : decode cX4_count 1 = .ok (.iload_n 1, 1) := by decide +kernel
theorem dX4_count_2 : decode cX4_count 2 = .ok (.iconst 0, 1) := by decide +kernel
theorem dX4_count_3 : decode cX4_count 3 = .ok (.bipush 7, 2) := by decide +kernel
theorem dX4_count_5 : decode cX4_count 5 = .ok (.invokestatic 23, 3) := by decide +kernel
theorem dX4_count_8 : decode cX4_count 8 = .ok (.ifCond .eq 7, 3) := by decide +kernel
theorem dX4_count_11 : decode cX4_count 11 = .ok (.iconst 0, 1) := by decide +kernel
theorem dX4_count_12 : decode cX4_count 12 = .ok (.goto 4, 3) := by decide +kernel
theorem dX4_count_15 : decode cX4_count 15 = .ok (.iconst 1, 1) := by decide +kernel
theorem dX4_count_16 : decode cX4_count 16 = .ok (.putfield 16, 3) := by decide +kernel
theorem dX4_count_19 : decode cX4_count 19 = .ok (.aload_n 0, 1) := by decide +kernel
theorem dX4_count_20 : decode cX4_count 20 = .ok (.getfield 16, 3) := by decide +kernel
theorem dX4_count_23 : decode cX4_count 23 = .ok (.ifCond .eq 7, 3) := by decide +kernel
theorem dX4_count_26 : decode cX4_count 26 = .ok (.iconst 0, 1) := by decide +kernel
theorem dX4_count_27 : decode cX4_count 27 = .ok (.goto 8, 3) := by decide +kernel
theorem dX4_count_30 : decode cX4_count 30 = .ok (.aload_n 0, 1) := by decide +kernel
theorem dX4_count_31 : decode cX4_count 31 = .ok (.iload_n 1, 1) := by decide +kernel
theorem dX4_count_32 : decode cX4_count 32 = .ok (.invokevirtual 134, 3) := by decide +kernel
theorem dX4_count_35 : decode cX4_count 35 = .ok (.ireturn, 1) := by decide +kernel
theorem dX4_undo_0 : decode cX4_undo 0 = .ok (.aload_n 0, 1) := by decide +kernel
theorem dX4_undo_1 : decode cX4_undo 1 = .ok (.aload_n 0, 1) := by decide +kernel
theorem dX4_undo_2 : decode cX4_undo 2 = .ok (.getfield 20, 3) := by decide +kernel
theorem dX4_undo_5 : decode cX4_undo 5 = .ok (.ifCond .ne 7, 3) := by decide +kernel
theorem dX4_undo_8 : decode cX4_undo 8 = .ok (.iconst 1, 1) := by decide +kernel
theorem dX4_undo_9 : decode cX4_undo 9 = .ok (.goto 4, 3) := by decide +kernel
theorem dX4_undo_12 : decode cX4_undo 12 = .ok (.iconst 0, 1) := by decide +kernel
theorem dX4_undo_13 : decode cX4_undo 13 = .ok (.putfield 16, 3) := by decide +kernel
theorem dX4_undo_16 : decode cX4_undo 16 = .ok (.aload_n 0, 1) := by decide +kernel
theorem dX4_undo_17 : decode cX4_undo 17 = .ok (.getfield 16, 3) := by decide +kernel
theorem dX4_undo_20 : decode cX4_undo 20 = .ok (.ifCond .eq 5, 3) := by decide +kernel
theorem dX4_undo_23 : decode cX4_undo 23 = .ok (.iconst 0, 1) := by decide +kernel
theorem dX4_undo_24 : decode cX4_undo 24 = .ok (.ireturn, 1) := by decide +kernel
theorem dX4_undo_25 : decode cX4_undo 25 = .ok (.aload_n 0, 1) := by decide +kernel
theorem dX4_undo_26 : decode cX4_undo 26 = .ok (.dup, 1) := by decide +kernel
theorem dX4_undo_27 : decode cX4_undo 27 = .ok (.getfield 20, 3) := by decide +kernel
theorem dX4_undo_30 : decode cX4_undo 30 = .ok (.iconst 1, 1) := by decide +kernel
theorem dX4_undo_31 : decode cX4_undo 31 = .ok (.isub, 1) := by decide +kernel
theorem dX4_undo_32 : decode cX4_undo 32 = .ok (.putfield 20, 3) := by decide +kernel
theorem dX4_undo_35 : decode cX4_undo 35 = .ok (.iconst 0, 1) := by decide +kernel
theorem dX4_undo_36 : decode cX4_undo 36 = .ok (.istore_n 1, 1) := by decide +kernel
theorem dX4_undo_37 : decode cX4_undo 37 = .ok (.iload_n 1, 1) := by decide +kernel
theorem dX4_undo_38 : decode cX4_undo 38 = .ok (.sipush 395, 3) := by decide +kernel
theorem dX4_undo_41 : decode cX4_undo 41 = .ok (.if_icmp .ge 30, 3) := by decide +kernel
theorem dX4_undo_44 : decode cX4_undo 44 = .ok (.aload_n 0, 1) := by decide +kernel
theorem dX4_undo_45 : decode cX4_undo 45 = .ok (.getfield 7, 3) := by decide +kernel
theorem dX4_undo_48 : decode cX4_undo 48 = .ok (.iload_n 1, 1) := by decide +kernel
theorem dX4_undo_49 : decode cX4_undo 49 = .ok (.aload_n 0, 1) := by decide +kernel
theorem dX4_undo_50 : decode cX4_undo 50 = .ok (.getfield 13, 3) := by decide +kernel
theorem dX4_undo_53 : decode cX4_undo 53 = .ok (.sipush 395, 3) := by decide +kernel
theorem dX4_undo_56 : decode cX4_undo 56 = .ok (.aload_n 0, 1) := by decide +kernel
theorem dX4_undo_57 : decode cX4_undo 57 = .ok (.getfield 20, 3) := by decide +kernel
theorem dX4_undo_60 : decode cX4_undo 60 = .ok (.imul, 1) := by decide +kernel
theorem dX4_undo_61 : decode cX4_undo 61 = .ok (.iload_n 1, 1) := by decide +kernel
theorem dX4_undo_62 : decode cX4_undo 62 = .ok (.iadd, 1) := by decide +kernel
theorem dX4_undo_63 : decode cX4_undo 63 = .ok (.iaload, 1) := by decide +kernel
theorem dX4_undo_64 : decode cX4_undo 64 = .ok (.iastore, 1) := by decide +kernel
theorem dX4_undo_65 : decode cX4_undo 65 = .ok (.iinc 1 1, 3) := by decide +kernel
theorem dX4_undo_68 : decode cX4_undo 68 = .ok (.goto (-31), 3) := by decide +kernel
theorem dX4_undo_71 : decode cX4_undo 71 = .ok (.aload_n 0, 1) := by decide +kernel
theorem dX4_undo_72 : decode cX4_undo 72 = .ok (.getfield 20, 3) := by decide +kernel
theorem dX4_undo_75 : decode cX4_undo 75 = .ok (.ireturn, 1) := by decide +kernel
theorem dX4_mix_0 : decode cX4_mix 0 = .ok (.aload_n 0, 1) := by decide +kernel
theorem dX4_mix_1 : decode cX4_mix 1 = .ok (.ldc2_w 137, 3) := by decide +kernel
theorem dX4_mix_4 : decode cX4_mix 4 = .ok (.aload_n 0, 1) := by decide +kernel
theorem dX4_mix_5 : decode cX4_mix 5 = .ok (.getfield 139, 3) := by decide +kernel
theorem dX4_mix_8 : decode cX4_mix 8 = .ok (.lmul, 1) := by decide +kernel
theorem dX4_mix_9 : decode cX4_mix 9 = .ok (.lload_n 1, 1) := by decide +kernel
theorem dX4_mix_10 : decode cX4_mix 10 = .ok (.ladd, 1) := by decide +kernel
theorem dX4_mix_11 : decode cX4_mix 11 = .ok (.putfield 139, 3) := by decide +kernel
theorem dX4_mix_14 : decode cX4_mix 14 = .ok (.return_, 1) := by decide +kernel
theorem dX4_mixMember_0 : decode cX4_mixMember 0 = .ok (.iconst 0, 1) := by decide +kernel
theorem dX4_mixMember_1 : decode cX4_mixMember 1 = .ok (.istore_n 2, 1) := by decide +kernel
theorem dX4_mixMember_2 : decode cX4_mixMember 2 = .ok (.iload_n 2, 1) := by decide +kernel
theorem dX4_mixMember_3 : decode cX4_mixMember 3 = .ok (.bipush 10, 2) := by decide +kernel
theorem dX4_mixMember_5 : decode cX4_mixMember 5 = .ok (.if_icmp .ge 20, 3) := by decide +kernel
theorem dX4_mixMember_8 : decode cX4_mixMember 8 = .ok (.aload_n 0, 1) := by decide +kernel
theorem dX4_mixMember_9 : decode cX4_mixMember 9 = .ok (.aload_n 0, 1) := by decide +kernel
theorem dX4_mixMember_10 : decode cX4_mixMember 10 = .ok (.iload_n 1, 1) := by decide +kernel
theorem dX4_mixMember_11 : decode cX4_mixMember 11 = .ok (.iload_n 2, 1) := by decide +kernel
theorem dX4_mixMember_12 : decode cX4_mixMember 12 = .ok (.invokevirtual 118, 3) := by decide +kernel
theorem dX4_mixMember_15 : decode cX4_mixMember 15 = .ok (.i2l, 1) := by decide +kernel
theorem dX4_mixMember_16 : decode cX4_mixMember 16 = .ok (.invokevirtual 143, 3) := by decide +kernel
theorem dX4_mixMember_19 : decode cX4_mixMember 19 = .ok (.iinc 2 1, 3) := by decide +kernel
theorem dX4_mixMember_22 : decode cX4_mixMember 22 = .ok (.goto (-20), 3) := by decide +kernel
theorem dX4_mixMember_25 : decode cX4_mixMember 25 = .ok (.aload_n 0, 1) := by decide +kernel
theorem dX4_mixMember_26 : decode cX4_mixMember 26 = .ok (.iload_n 1, 1) := by decide +kernel
theorem dX4_mixMember_27 : decode cX4_mixMember 27 = .ok (.invokevirtual 31, 3) := by decide +kernel
theorem dX4_mixMember_30 : decode cX4_mixMember 30 = .ok (.ifCond .eq 91, 3) := by decide +kernel
theorem dX4_mixMember_33 : decode cX4_mixMember 33 = .ok (.aload_n 0, 1) := by decide +kernel
theorem dX4_mixMember_34 : decode cX4_mixMember 34 = .ok (.aload_n 0, 1) := by decide +kernel
theorem dX4_mixMember_35 : decode cX4_mixMember 35 = .ok (.iload_n 1, 1) := by decide +kernel
theorem dX4_mixMember_36 : decode cX4_mixMember 36 = .ok (.invokevirtual 128, 3) := by decide +kernel
theorem dX4_mixMember_39 : decode cX4_mixMember 39 = .ok (.i2l, 1) := by decide +kernel
theorem dX4_mixMember_40 : decode cX4_mixMember 40 = .ok (.invokevirtual 143, 3) := by decide +kernel
theorem dX4_mixMember_43 : decode cX4_mixMember 43 = .ok (.aload_n 0, 1) := by decide +kernel
theorem dX4_mixMember_44 : decode cX4_mixMember 44 = .ok (.aload_n 0, 1) := by decide +kernel
theorem dX4_mixMember_45 : decode cX4_mixMember 45 = .ok (.iload_n 1, 1) := by decide +kernel
theorem dX4_mixMember_46 : decode cX4_mixMember 46 = .ok (.iconst (-1), 1) := by decide +kernel
theorem dX4_mixMember_47 : decode cX4_mixMember 47 = .ok (.invokevirtual 106, 3) := by decide +kernel
theorem dX4_mixMember_50 : decode cX4_mixMember 50 = .ok (.i2l, 1) := by decide +kernel
theorem dX4_mixMember_51 : decode cX4_mixMember 51 = .ok (.invokevirtual 143, 3) := by decide +kernel
theorem dX4_mixMember_54 : decode cX4_mixMember 54 = .ok (.iconst 0, 1) := by decide +kernel
theorem dX4_mixMember_55 : decode cX4_mixMember 55 = .ok (.istore_n 2, 1) := by decide +kernel
theorem dX4_mixMember_56 : decode cX4_mixMember 56 = .ok (.iload_n 2, 1) := by decide +kernel
theorem dX4_mixMember_57 : decode cX4_mixMember 57 = .ok (.iconst 4, 1) := by decide +kernel
theorem dX4_mixMember_58 : decode cX4_mixMember 58 = .ok (.if_icmp .ge 63, 3) := by decide +kernel
theorem dX4_mixMember_61 : decode cX4_mixMember 61 = .ok (.aload_n 0, 1) := by decide +kernel
theorem dX4_mixMember_62 : decode cX4_mixMember 62 = .ok (.aload_n 0, 1) := by decide +kernel
theorem dX4_mixMember_63 : decode cX4_mixMember 63 = .ok (.iload_n 1, 1) := by decide +kernel
theorem dX4_mixMember_64 : decode cX4_mixMember 64 = .ok (.bipush 8, 2) := by decide +kernel
theorem dX4_mixMember_66 : decode cX4_mixMember 66 = .ok (.iload_n 2, 1) := by decide +kernel
theorem dX4_mixMember_67 : decode cX4_mixMember 67 = .ok (.iadd, 1) := by decide +kernel
theorem dX4_mixMember_68 : decode cX4_mixMember 68 = .ok (.invokevirtual 27, 3) := by decide +kernel
theorem dX4_mixMember_71 : decode cX4_mixMember 71 = .ok (.i2l, 1) := by decide +kernel
theorem dX4_mixMember_72 : decode cX4_mixMember 72 = .ok (.invokevirtual 143, 3) := by decide +kernel
theorem dX4_mixMember_75 : decode cX4_mixMember 75 = .ok (.aload_n 0, 1) := by decide +kernel
theorem dX4_mixMember_76 : decode cX4_mixMember 76 = .ok (.aload_n 0, 1) := by decide +kernel
theorem dX4_mixMember_77 : decode cX4_mixMember 77 = .ok (.iload_n 1, 1) := by decide +kernel
theorem dX4_mixMember_78 : decode cX4_mixMember 78 = .ok (.iload_n 2, 1) := by decide +kernel
theorem dX4_mixMember_79 : decode cX4_mixMember 79 = .ok (.invokevirtual 49, 3) := by decide +kernel
theorem dX4_mixMember_82 : decode cX4_mixMember 82 = .ok (.i2l, 1) := by decide +kernel
theorem dX4_mixMember_83 : decode cX4_mixMember 83 = .ok (.invokevirtual 143, 3) := by decide +kernel
theorem dX4_mixMember_86 : decode cX4_mixMember 86 = .ok (.aload_n 0, 1) := by decide +kernel
theorem dX4_mixMember_87 : decode cX4_mixMember 87 = .ok (.aload_n 0, 1) := by decide +kernel
theorem dX4_mixMember_88 : decode cX4_mixMember 88 = .ok (.iload_n 1, 1) := by decide +kernel
theorem dX4_mixMember_89 : decode cX4_mixMember 89 = .ok (.iload_n 2, 1) := by decide +kernel
theorem dX4_mixMember_90 : decode cX4_mixMember 90 = .ok (.invokevirtual 125, 3) := by decide +kernel
theorem dX4_mixMember_93 : decode cX4_mixMember 93 = .ok (.i2l, 1) := by decide +kernel
theorem dX4_mixMember_94 : decode cX4_mixMember 94 = .ok (.invokevirtual 143, 3) := by decide +kernel
theorem dX4_mixMember_97 : decode cX4_mixMember 97 = .ok (.aload_n 0, 1) := by decide +kernel
theorem dX4_mixMember_98 : decode cX4_mixMember 98 = .ok (.aload_n 0, 1) := by decide +kernel
theorem dX4_mixMember_99 : decode cX4_mixMember 99 = .ok (.iload_n 1, 1) := by decide +kernel
theorem dX4_mixMember_100 : decode cX4_mixMember 100 = .ok (.iload_n 2, 1) := by decide +kernel
theorem dX4_mixMember_101 : decode cX4_mixMember 101 = .ok (.invokevirtual 58, 3) := by decide +kernel
theorem dX4_mixMember_104 : decode cX4_mixMember 104 = .ok (.ifCond .eq 7, 3) := by decide +kernel
theorem dX4_mixMember_107 : decode cX4_mixMember 107 = .ok (.lconst 1, 1) := by decide +kernel
theorem dX4_mixMember_108 : decode cX4_mixMember 108 = .ok (.goto 4, 3) := by decide +kernel
theorem dX4_mixMember_111 : decode cX4_mixMember 111 = .ok (.lconst 0, 1) := by decide +kernel
theorem dX4_mixMember_112 : decode cX4_mixMember 112 = .ok (.invokevirtual 143, 3) := by decide +kernel
theorem dX4_mixMember_115 : decode cX4_mixMember 115 = .ok (.iinc 2 1, 3) := by decide +kernel
theorem dX4_mixMember_118 : decode cX4_mixMember 118 = .ok (.goto (-62), 3) := by decide +kernel
theorem dX4_mixMember_121 : decode cX4_mixMember 121 = .ok (.return_, 1) := by decide +kernel
theorem dX4_digest_0 : decode cX4_digest 0 = .ok (.aload_n 0, 1) := by decide +kernel
theorem dX4_digest_1 : decode cX4_digest 1 = .ok (.iconst 0, 1) := by decide +kernel
theorem dX4_digest_2 : decode cX4_digest 2 = .ok (.putfield 16, 3) := by decide +kernel
theorem dX4_digest_5 : decode cX4_digest 5 = .ok (.aload_n 0, 1) := by decide +kernel
theorem dX4_digest_6 : decode cX4_digest 6 = .ok (.ldc2_w 147, 3) := by decide +kernel
theorem dX4_digest_9 : decode cX4_digest 9 = .ok (.putfield 139, 3) := by decide +kernel
theorem dX4_digest_12 : decode cX4_digest 12 = .ok (.aload_n 0, 1) := by decide +kernel
theorem dX4_digest_13 : decode cX4_digest 13 = .ok (.aload_n 0, 1) := by decide +kernel
theorem dX4_digest_14 : decode cX4_digest 14 = .ok (.getfield 20, 3) := by decide +kernel
theorem dX4_digest_17 : decode cX4_digest 17 = .ok (.i2l, 1) := by decide +kernel
theorem dX4_digest_18 : decode cX4_digest 18 = .ok (.invokevirtual 143, 3) := by decide +kernel
theorem dX4_digest_21 : decode cX4_digest 21 = .ok (.aload_n 0, 1) := by decide +kernel
theorem dX4_digest_22 : decode cX4_digest 22 = .ok (.aload_n 0, 1) := by decide +kernel
theorem dX4_digest_23 : decode cX4_digest 23 = .ok (.getfield 7, 3) := by decide +kernel
theorem dX4_digest_26 : decode cX4_digest 26 = .ok (.iconst 2, 1) := by decide +kernel
theorem dX4_digest_27 : decode cX4_digest 27 = .ok (.iaload, 1) := by decide +kernel
theorem dX4_digest_28 : decode cX4_digest 28 = .ok (.i2l, 1) := by decide +kernel
theorem dX4_digest_29 : decode cX4_digest 29 = .ok (.invokevirtual 143, 3) := by decide +kernel
theorem dX4_digest_32 : decode cX4_digest 32 = .ok (.aload_n 0, 1) := by decide +kernel
theorem dX4_digest_33 : decode cX4_digest 33 = .ok (.aload_n 0, 1) := by decide +kernel
theorem dX4_digest_34 : decode cX4_digest 34 = .ok (.getfield 7, 3) := by decide +kernel
theorem dX4_digest_37 : decode cX4_digest 37 = .ok (.iconst 0, 1) := by decide +kernel
theorem dX4_digest_38 : decode cX4_digest 38 = .ok (.iaload, 1) := by decide +kernel
theorem dX4_digest_39 : decode cX4_digest 39 = .ok (.i2l, 1) := by decide +kernel
theorem dX4_digest_40 : decode cX4_digest 40 = .ok (.invokevirtual 143, 3) := by decide +kernel
theorem dX4_digest_43 : decode cX4_digest 43 = .ok (.aload_n 0, 1) := by decide +kernel
theorem dX4_digest_44 : decode cX4_digest 44 = .ok (.aload_n 0, 1) := by decide +kernel
theorem dX4_digest_45 : decode cX4_digest 45 = .ok (.getfield 7, 3) := by decide +kernel
theorem dX4_digest_48 : decode cX4_digest 48 = .ok (.iconst 1, 1) := by decide +kernel
theorem dX4_digest_49 : decode cX4_digest 49 = .ok (.iaload, 1) := by decide +kernel
theorem dX4_digest_50 : decode cX4_digest 50 = .ok (.i2l, 1) := by decide +kernel
theorem dX4_digest_51 : decode cX4_digest 51 = .ok (.invokevirtual 143, 3) := by decide +kernel
theorem dX4_digest_54 : decode cX4_digest 54 = .ok (.iconst 0, 1) := by decide +kernel
theorem dX4_digest_55 : decode cX4_digest 55 = .ok (.istore_n 1, 1) := by decide +kernel
theorem dX4_digest_56 : decode cX4_digest 56 = .ok (.iload_n 1, 1) := by decide +kernel
theorem dX4_digest_57 : decode cX4_digest 57 = .ok (.bipush 32, 2) := by decide +kernel
theorem dX4_digest_59 : decode cX4_digest 59 = .ok (.if_icmp .ge 14, 3) := by decide +kernel
theorem dX4_digest_62 : decode cX4_digest 62 = .ok (.aload_n 0, 1) := by decide +kernel
theorem dX4_digest_63 : decode cX4_digest 63 = .ok (.iload_n 1, 1) := by decide +kernel
theorem dX4_digest_64 : decode cX4_digest 64 = .ok (.invokevirtual 149, 3) := by decide +kernel
theorem dX4_digest_67 : decode cX4_digest 67 = .ok (.iinc 1 1, 3) := by decide +kernel
theorem dX4_digest_70 : decode cX4_digest 70 = .ok (.goto (-14), 3) := by decide +kernel
theorem dX4_digest_73 : decode cX4_digest 73 = .ok (.iconst 0, 1) := by decide +kernel
theorem dX4_digest_74 : decode cX4_digest 74 = .ok (.istore_n 1, 1) := by decide +kernel
theorem dX4_digest_75 : decode cX4_digest 75 = .ok (.iload_n 1, 1) := by decide +kernel
theorem dX4_digest_76 : decode cX4_digest 76 = .ok (.iconst 4, 1) := by decide +kernel
theorem dX4_digest_77 : decode cX4_digest 77 = .ok (.if_icmp .ge 34, 3) := by decide +kernel
theorem dX4_digest_80 : decode cX4_digest 80 = .ok (.iconst 0, 1) := by decide +kernel
theorem dX4_digest_81 : decode cX4_digest 81 = .ok (.istore_n 2, 1) := by decide +kernel
theorem dX4_digest_82 : decode cX4_digest 82 = .ok (.iload_n 2, 1) := by decide +kernel
theorem dX4_digest_83 : decode cX4_digest 83 = .ok (.bipush 6, 2) := by decide +kernel
theorem dX4_digest_85 : decode cX4_digest 85 = .ok (.if_icmp .ge 20, 3) := by decide +kernel
theorem dX4_digest_88 : decode cX4_digest 88 = .ok (.aload_n 0, 1) := by decide +kernel
theorem dX4_digest_89 : decode cX4_digest 89 = .ok (.aload_n 0, 1) := by decide +kernel
theorem dX4_digest_90 : decode cX4_digest 90 = .ok (.iload_n 1, 1) := by decide +kernel
theorem dX4_digest_91 : decode cX4_digest 91 = .ok (.iload_n 2, 1) := by decide +kernel
theorem dX4_digest_92 : decode cX4_digest 92 = .ok (.invokevirtual 131, 3) := by decide +kernel
theorem dX4_digest_95 : decode cX4_digest 95 = .ok (.i2l, 1) := by decide +kernel
theorem dX4_digest_96 : decode cX4_digest 96 = .ok (.invokevirtual 143, 3) := by decide +kernel
theorem dX4_digest_99 : decode cX4_digest 99 = .ok (.iinc 2 1, 3) := by decide +kernel
theorem dX4_digest_102 : decode cX4_digest 102 = .ok (.goto (-20), 3) := by decide +kernel
theorem dX4_digest_105 : decode cX4_digest 105 = .ok (.iinc 1 1, 3) := by decide +kernel
theorem dX4_digest_108 : decode cX4_digest 108 = .ok (.goto (-33), 3) := by decide +kernel
theorem dX4_digest_111 : decode cX4_digest 111 = .ok (.iconst 0, 1) := by decide +kernel
theorem dX4_digest_112 : decode cX4_digest 112 = .ok (.istore_n 1, 1) := by decide +kernel
theorem dX4_digest_113 : decode cX4_digest 113 = .ok (.iload_n 1, 1) := by decide +kernel
theorem dX4_digest_114 : decode cX4_digest 114 = .ok (.bipush 8, 2) := by decide +kernel
theorem dX4_digest_116 : decode cX4_digest 116 = .ok (.if_icmp .ge 19, 3) := by decide +kernel
theorem dX4_digest_119 : decode cX4_digest 119 = .ok (.aload_n 0, 1) := by decide +kernel
theorem dX4_digest_120 : decode cX4_digest 120 = .ok (.aload_n 0, 1) := by decide +kernel
theorem dX4_digest_121 : decode cX4_digest 121 = .ok (.iload_n 1, 1) := by decide +kernel
theorem dX4_digest_122 : decode cX4_digest 122 = .ok (.invokevirtual 134, 3) := by decide +kernel
theorem dX4_digest_125 : decode cX4_digest 125 = .ok (.i2l, 1) := by decide +kernel
theorem dX4_digest_126 : decode cX4_digest 126 = .ok (.invokevirtual 143, 3) := by decide +kernel
theorem dX4_digest_129 : decode cX4_digest 129 = .ok (.iinc 1 1, 3) := by decide +kernel
theorem dX4_digest_132 : decode cX4_digest 132 = .ok (.goto (-19), 3) := by decide +kernel
theorem dX4_digest_135 : decode cX4_digest 135 = .ok (.aload_n 0, 1) := by decide +kernel
theorem dX4_digest_136 : decode cX4_digest 136 = .ok (.getfield 139, 3) := by decide +kernel
theorem dX4_digest_139 : decode cX4_digest 139 = .ok (.lreturn, 1) := by decide +kernel
theorem dJ9_floorMod_7cf53_0 : decode cJ9_floorMod_7cf53 0 = .ok (.iload_n 0, 1) := by decide +kernel
theorem dJ9_floorMod_7cf53_1 : decode cJ9_floorMod_7cf53 1 = .ok (.iload_n 1, 1) := by decide +kernel
theorem dJ9_floorMod_7cf53_2 : decode cJ9_floorMod_7cf53 2 = .ok (.irem, 1) := by decide +kernel
theorem dJ9_floorMod_7cf53_3 : decode cJ9_floorMod_7cf53 3 = .ok (.istore_n 2, 1) := by decide +kernel
theorem dJ9_floorMod_7cf53_4 : decode cJ9_floorMod_7cf53 4 = .ok (.iload_n 0, 1) := by decide +kernel
theorem dJ9_floorMod_7cf53_5 : decode cJ9_floorMod_7cf53 5 = .ok (.iload_n 1, 1) := by decide +kernel
theorem dJ9_floorMod_7cf53_6 : decode cJ9_floorMod_7cf53 6 = .ok (.ixor, 1) := by decide +kernel
theorem dJ9_floorMod_7cf53_7 : decode cJ9_floorMod_7cf53 7 = .ok (.ifCond .ge 11, 3) := by decide +kernel
theorem dJ9_floorMod_7cf53_10 : decode cJ9_floorMod_7cf53 10 = .ok (.iload_n 2, 1) := by decide +kernel
theorem dJ9_floorMod_7cf53_11 : decode cJ9_floorMod_7cf53 11 = .ok (.ifCond .eq 7, 3) := by decide +kernel
theorem dJ9_floorMod_7cf53_14 : decode cJ9_floorMod_7cf53 14 = .ok (.iload_n 2, 1) := by decide +kernel
theorem dJ9_floorMod_7cf53_15 : decode cJ9_floorMod_7cf53 15 = .ok (.iload_n 1, 1) := by decide +kernel
theorem dJ9_floorMod_7cf53_16 : decode cJ9_floorMod_7cf53 16 = .ok (.iadd, 1) := by decide +kernel
theorem dJ9_floorMod_7cf53_17 : decode cJ9_floorMod_7cf53 17 = .ok (.ireturn, 1) := by decide +kernel
theorem dJ9_floorMod_7cf53_18 : decode cJ9_floorMod_7cf53 18 = .ok (.iload_n 2, 1) := by decide +kernel
theorem dJ9_floorMod_7cf53_19 : decode cJ9_floorMod_7cf53 19 = .ok (.ireturn, 1) := by decide +kernel
theorem dJ9_max_7cf53_0 : decode cJ9_max_7cf53 0 = .ok (.iload_n 0, 1) := by decide +kernel
theorem dJ9_max_7cf53_1 : decode cJ9_max_7cf53 1 = .ok (.iload_n 1, 1) := by decide +kernel
theorem dJ9_max_7cf53_2 : decode cJ9_max_7cf53 2 = .ok (.if_icmp .lt 7, 3) := by decide +kernel
theorem dJ9_max_7cf53_5 : decode cJ9_max_7cf53 5 = .ok (.iload_n 0, 1) := by decide +kernel
theorem dJ9_max_7cf53_6 : decode cJ9_max_7cf53 6 = .ok (.goto 4, 3) := by decide +kernel
theorem dJ9_max_7cf53_9 : decode cJ9_max_7cf53 9 = .ok (.iload_n 1, 1) := by decide +kernel
theorem dJ9_max_7cf53_10 : decode cJ9_max_7cf53 10 = .ok (.ireturn, 1) := by decide +kernel
theorem dJ9_min_7cf53_0 : decode cJ9_min_7cf53 0 = .ok (.iload_n 0, 1) := by decide +kernel
theorem dJ9_min_7cf53_1 : decode cJ9_min_7cf53 1 = .ok (.iload_n 1, 1) := by decide +kernel
theorem dJ9_min_7cf53_2 : decode cJ9_min_7cf53 2 = .ok (.if_icmp .gt 7, 3) := by decide +kernel
theorem dJ9_min_7cf53_5 : decode cJ9_min_7cf53 5 = .ok (.iload_n 0, 1) := by decide +kernel
theorem dJ9_min_7cf53_6 : decode cJ9_min_7cf53 6 = .ok (.goto 4, 3) := by decide +kernel
theorem dJ9_min_7cf53_9 : decode cJ9_min_7cf53 9 = .ok (.iload_n 1, 1) := by decide +kernel
theorem dJ9_min_7cf53_10 : decode cJ9_min_7cf53 10 = .ok (.ireturn, 1) := by decide +kernel
theorem dL_join_0 : decode cL_join 0 = .ok (.aload 4, 2) := by decide +kernel
theorem dL_join_2 : decode cL_join 2 = .ok (.iconst 0, 1) := by decide +kernel
theorem dL_join_3 : decode cL_join 3 = .ok (.aload_n 0, 1) := by decide +kernel
theorem dL_join_4 : decode cL_join 4 = .ok (.iload_n 1, 1) := by decide +kernel
theorem dL_join_5 : decode cL_join 5 = .ok (.iload_n 2, 1) := by decide +kernel
theorem dL_join_6 : decode cL_join 6 = .ok (.iload_n 3, 1) := by decide +kernel
theorem dL_join_7 : decode cL_join 7 = .ok (.invokevirtual 7, 3) := by decide +kernel
theorem dL_join_10 : decode cL_join 10 = .ok (.i2l, 1) := by decide +kernel
theorem dL_join_11 : decode cL_join 11 = .ok (.lastore, 1) := by decide +kernel
theorem dL_join_12 : decode cL_join 12 = .ok (.goto 15, 3) := by decide +kernel
theorem dL_join_15 : decode cL_join 15 = .ok (.astore 5, 2) := by decide +kernel
theorem dL_join_17 : decode cL_join 17 = .ok (.iconst 1, 1) := by decide +kernel
theorem dL_join_18 : decode cL_join 18 = .ok (.ireturn, 1) := by decide +kernel
theorem dL_join_19 : decode cL_join 19 = .ok (.astore 5, 2) := by decide +kernel
theorem dL_join_21 : decode cL_join 21 = .ok (.iconst 2, 1) := by decide +kernel
theorem dL_join_22 : decode cL_join 22 = .ok (.ireturn, 1) := by decide +kernel
theorem dL_join_23 : decode cL_join 23 = .ok (.astore 5, 2) := by decide +kernel
theorem dL_join_25 : decode cL_join 25 = .ok (.iconst 3, 1) := by decide +kernel
theorem dL_join_26 : decode cL_join 26 = .ok (.ireturn, 1) := by decide +kernel
theorem dL_join_27 : decode cL_join 27 = .ok (.iconst 0, 1) := by decide +kernel
theorem dL_join_28 : decode cL_join 28 = .ok (.ireturn, 1) := by decide +kernel
theorem dL_leave_0 : decode cL_leave 0 = .ok (.aload_n 2, 1) := by decide +kernel
theorem dL_leave_1 : decode cL_leave 1 = .ok (.iconst 0, 1) := by decide +kernel
theorem dL_leave_2 : decode cL_leave 2 = .ok (.aload_n 0, 1) := by decide +kernel
theorem dL_leave_3 : decode cL_leave 3 = .ok (.iload_n 1, 1) := by decide +kernel
theorem dL_leave_4 : decode cL_leave 4 = .ok (.invokevirtual 19, 3) := by decide +kernel
theorem dL_leave_7 : decode cL_leave 7 = .ok (.i2l, 1) := by decide +kernel
theorem dL_leave_8 : decode cL_leave 8 = .ok (.lastore, 1) := by decide +kernel
theorem dL_leave_9 : decode cL_leave 9 = .ok (.goto 9, 3) := by decide +kernel
theorem dL_leave_12 : decode cL_leave 12 = .ok (.astore_n 3, 1) := by decide +kernel
theorem dL_leave_13 : decode cL_leave 13 = .ok (.iconst 1, 1) := by decide +kernel
theorem dL_leave_14 : decode cL_leave 14 = .ok (.ireturn, 1) := by decide +kernel
theorem dL_leave_15 : decode cL_leave 15 = .ok (.astore_n 3, 1) := by decide +kernel
theorem dL_leave_16 : decode cL_leave 16 = .ok (.iconst 2, 1) := by decide +kernel
theorem dL_leave_17 : decode cL_leave 17 = .ok (.ireturn, 1) := by decide +kernel
theorem dL_leave_18 : decode cL_leave 18 = .ok (.iconst 0, 1) := by decide +kernel
theorem dL_leave_19 : decode cL_leave 19 = .ok (.ireturn, 1) := by decide +kernel
theorem dL_fail_0 : decode cL_fail 0 = .ok (.aload_n 2, 1) := by decide +kernel
theorem dL_fail_1 : decode cL_fail 1 = .ok (.iconst 0, 1) := by decide +kernel
theorem dL_fail_2 : decode cL_fail 2 = .ok (.aload_n 0, 1) := by decide +kernel
theorem dL_fail_3 : decode cL_fail 3 = .ok (.iload_n 1, 1) := by decide +kernel
theorem dL_fail_4 : decode cL_fail 4 = .ok (.invokevirtual 23, 3) := by decide +kernel
theorem dL_fail_7 : decode cL_fail 7 = .ok (.i2l, 1) := by decide +kernel
theorem dL_fail_8 : decode cL_fail 8 = .ok (.lastore, 1) := by decide +kernel
theorem dL_fail_9 : decode cL_fail 9 = .ok (.goto 9, 3) := by decide +kernel
theorem dL_fail_12 : decode cL_fail 12 = .ok (.astore_n 3, 1) := by decide +kernel
theorem dL_fail_13 : decode cL_fail 13 = .ok (.iconst 1, 1) := by decide +kernel
theorem dL_fail_14 : decode cL_fail 14 = .ok (.ireturn, 1) := by decide +kernel
theorem dL_fail_15 : decode cL_fail 15 = .ok (.astore_n 3, 1) := by decide +kernel
theorem dL_fail_16 : decode cL_fail 16 = .ok (.iconst 2, 1) := by decide +kernel
theorem dL_fail_17 : decode cL_fail 17 = .ok (.ireturn, 1) := by decide +kernel
theorem dL_fail_18 : decode cL_fail 18 = .ok (.iconst 0, 1) := by decide +kernel
theorem dL_fail_19 : decode cL_fail 19 = .ok (.ireturn, 1) := by decide +kernel
theorem dL_setBound_0 : decode cL_setBound 0 = .ok (.aload_n 3, 1) := by decide +kernel
theorem dL_setBound_1 : decode cL_setBound 1 = .ok (.iconst 0, 1) := by decide +kernel
theorem dL_setBound_2 : decode cL_setBound 2 = .ok (.aload_n 0, 1) := by decide +kernel
theorem dL_setBound_3 : decode cL_setBound 3 = .ok (.iload_n 1, 1) := by decide +kernel
theorem dL_setBound_4 : decode cL_setBound 4 = .ok (.iload_n 2, 1) := by decide +kernel
theorem dL_setBound_5 : decode cL_setBound 5 = .ok (.invokevirtual 26, 3) := by decide +kernel
theorem dL_setBound_8 : decode cL_setBound 8 = .ok (.i2l, 1) := by decide +kernel
theorem dL_setBound_9 : decode cL_setBound 9 = .ok (.lastore, 1) := by decide +kernel
theorem dL_setBound_10 : decode cL_setBound 10 = .ok (.goto 15, 3) := by decide +kernel
theorem dL_setBound_13 : decode cL_setBound 13 = .ok (.astore 4, 2) := by decide +kernel
theorem dL_setBound_15 : decode cL_setBound 15 = .ok (.iconst 1, 1) := by decide +kernel
theorem dL_setBound_16 : decode cL_setBound 16 = .ok (.ireturn, 1) := by decide +kernel
theorem dL_setBound_17 : decode cL_setBound 17 = .ok (.astore 4, 2) := by decide +kernel
theorem dL_setBound_19 : decode cL_setBound 19 = .ok (.iconst 2, 1) := by decide +kernel
theorem dL_setBound_20 : decode cL_setBound 20 = .ok (.ireturn, 1) := by decide +kernel
theorem dL_setBound_21 : decode cL_setBound 21 = .ok (.astore 4, 2) := by decide +kernel
theorem dL_setBound_23 : decode cL_setBound 23 = .ok (.iconst 3, 1) := by decide +kernel
theorem dL_setBound_24 : decode cL_setBound 24 = .ok (.ireturn, 1) := by decide +kernel
theorem dL_setBound_25 : decode cL_setBound 25 = .ok (.iconst 0, 1) := by decide +kernel
theorem dL_setBound_26 : decode cL_setBound 26 = .ok (.ireturn, 1) := by decide +kernel
theorem dL_setSource_0 : decode cL_setSource 0 = .ok (.aload_n 2, 1) := by decide +kernel
theorem dL_setSource_1 : decode cL_setSource 1 = .ok (.iconst 0, 1) := by decide +kernel
theorem dL_setSource_2 : decode cL_setSource 2 = .ok (.aload_n 0, 1) := by decide +kernel
theorem dL_setSource_3 : decode cL_setSource 3 = .ok (.iload_n 1, 1) := by decide +kernel
theorem dL_setSource_4 : decode cL_setSource 4 = .ok (.invokevirtual 30, 3) := by decide +kernel
theorem dL_setSource_7 : decode cL_setSource 7 = .ok (.i2l, 1) := by decide +kernel
theorem dL_setSource_8 : decode cL_setSource 8 = .ok (.lastore, 1) := by decide +kernel
theorem dL_setSource_9 : decode cL_setSource 9 = .ok (.goto 6, 3) := by decide +kernel
theorem dL_setSource_12 : decode cL_setSource 12 = .ok (.astore_n 3, 1) := by decide +kernel
theorem dL_setSource_13 : decode cL_setSource 13 = .ok (.iconst 1, 1) := by decide +kernel
theorem dL_setSource_14 : decode cL_setSource 14 = .ok (.ireturn, 1) := by decide +kernel
theorem dL_setSource_15 : decode cL_setSource 15 = .ok (.iconst 0, 1) := by decide +kernel
theorem dL_setSource_16 : decode cL_setSource 16 = .ok (.ireturn, 1) := by decide +kernel
theorem dL_setDelay_0 : decode cL_setDelay 0 = .ok (.aload_n 2, 1) := by decide +kernel
theorem dL_setDelay_1 : decode cL_setDelay 1 = .ok (.iconst 0, 1) := by decide +kernel
theorem dL_setDelay_2 : decode cL_setDelay 2 = .ok (.aload_n 0, 1) := by decide +kernel
theorem dL_setDelay_3 : decode cL_setDelay 3 = .ok (.iload_n 1, 1) := by decide +kernel
theorem dL_setDelay_4 : decode cL_setDelay 4 = .ok (.invokevirtual 33, 3) := by decide +kernel
theorem dL_setDelay_7 : decode cL_setDelay 7 = .ok (.i2l, 1) := by decide +kernel
theorem dL_setDelay_8 : decode cL_setDelay 8 = .ok (.lastore, 1) := by decide +kernel
theorem dL_setDelay_9 : decode cL_setDelay 9 = .ok (.goto 6, 3) := by decide +kernel
theorem dL_setDelay_12 : decode cL_setDelay 12 = .ok (.astore_n 3, 1) := by decide +kernel
theorem dL_setDelay_13 : decode cL_setDelay 13 = .ok (.iconst 1, 1) := by decide +kernel
theorem dL_setDelay_14 : decode cL_setDelay 14 = .ok (.ireturn, 1) := by decide +kernel
theorem dL_setDelay_15 : decode cL_setDelay 15 = .ok (.iconst 0, 1) := by decide +kernel
theorem dL_setDelay_16 : decode cL_setDelay 16 = .ok (.ireturn, 1) := by decide +kernel
theorem dL_rejoin_0 : decode cL_rejoin 0 = .ok (.aload_n 3, 1) := by decide +kernel
theorem dL_rejoin_1 : decode cL_rejoin 1 = .ok (.iconst 0, 1) := by decide +kernel
theorem dL_rejoin_2 : decode cL_rejoin 2 = .ok (.aload_n 0, 1) := by decide +kernel
theorem dL_rejoin_3 : decode cL_rejoin 3 = .ok (.iload_n 1, 1) := by decide +kernel
theorem dL_rejoin_4 : decode cL_rejoin 4 = .ok (.iload_n 2, 1) := by decide +kernel
theorem dL_rejoin_5 : decode cL_rejoin 5 = .ok (.invokevirtual 36, 3) := by decide +kernel
theorem dL_rejoin_8 : decode cL_rejoin 8 = .ok (.i2l, 1) := by decide +kernel
theorem dL_rejoin_9 : decode cL_rejoin 9 = .ok (.lastore, 1) := by decide +kernel
theorem dL_rejoin_10 : decode cL_rejoin 10 = .ok (.goto 11, 3) := by decide +kernel
theorem dL_rejoin_13 : decode cL_rejoin 13 = .ok (.astore 4, 2) := by decide +kernel
theorem dL_rejoin_15 : decode cL_rejoin 15 = .ok (.iconst 1, 1) := by decide +kernel
theorem dL_rejoin_16 : decode cL_rejoin 16 = .ok (.ireturn, 1) := by decide +kernel
theorem dL_rejoin_17 : decode cL_rejoin 17 = .ok (.astore 4, 2) := by decide +kernel
theorem dL_rejoin_19 : decode cL_rejoin 19 = .ok (.iconst 2, 1) := by decide +kernel
theorem dL_rejoin_20 : decode cL_rejoin 20 = .ok (.ireturn, 1) := by decide +kernel
theorem dL_rejoin_21 : decode cL_rejoin 21 = .ok (.iconst 0, 1) := by decide +kernel
theorem dL_rejoin_22 : decode cL_rejoin 22 = .ok (.ireturn, 1) := by decide +kernel
theorem dL_tick_0 : decode cL_tick 0 = .ok (.aload_n 2, 1) := by decide +kernel
theorem dL_tick_1 : decode cL_tick 1 = .ok (.iconst 0, 1) := by decide +kernel
theorem dL_tick_2 : decode cL_tick 2 = .ok (.aload_n 0, 1) := by decide +kernel
theorem dL_tick_3 : decode cL_tick 3 = .ok (.iload_n 1, 1) := by decide +kernel
theorem dL_tick_4 : decode cL_tick 4 = .ok (.invokevirtual 39, 3) := by decide +kernel
theorem dL_tick_7 : decode cL_tick 7 = .ok (.i2l, 1) := by decide +kernel
theorem dL_tick_8 : decode cL_tick 8 = .ok (.lastore, 1) := by decide +kernel
theorem dL_tick_9 : decode cL_tick 9 = .ok (.goto 6, 3) := by decide +kernel
theorem dL_tick_12 : decode cL_tick 12 = .ok (.astore_n 3, 1) := by decide +kernel
theorem dL_tick_13 : decode cL_tick 13 = .ok (.iconst 1, 1) := by decide +kernel
theorem dL_tick_14 : decode cL_tick 14 = .ok (.ireturn, 1) := by decide +kernel
theorem dL_tick_15 : decode cL_tick 15 = .ok (.iconst 0, 1) := by decide +kernel
theorem dL_tick_16 : decode cL_tick 16 = .ok (.ireturn, 1) := by decide +kernel
theorem dL_member_0 : decode cL_member 0 = .ok (.aload_n 3, 1) := by decide +kernel
theorem dL_member_1 : decode cL_member 1 = .ok (.iconst 0, 1) := by decide +kernel
theorem dL_member_2 : decode cL_member 2 = .ok (.aload_n 0, 1) := by decide +kernel
theorem dL_member_3 : decode cL_member 3 = .ok (.iload_n 1, 1) := by decide +kernel
theorem dL_member_4 : decode cL_member 4 = .ok (.iload_n 2, 1) := by decide +kernel
theorem dL_member_5 : decode cL_member 5 = .ok (.invokevirtual 42, 3) := by decide +kernel
theorem dL_member_8 : decode cL_member 8 = .ok (.i2l, 1) := by decide +kernel
theorem dL_member_9 : decode cL_member 9 = .ok (.lastore, 1) := by decide +kernel
theorem dL_member_10 : decode cL_member 10 = .ok (.goto 11, 3) := by decide +kernel
theorem dL_member_13 : decode cL_member 13 = .ok (.astore 4, 2) := by decide +kernel
theorem dL_member_15 : decode cL_member 15 = .ok (.iconst 1, 1) := by decide +kernel
theorem dL_member_16 : decode cL_member 16 = .ok (.ireturn, 1) := by decide +kernel
theorem dL_member_17 : decode cL_member 17 = .ok (.astore 4, 2) := by decide +kernel
theorem dL_member_19 : decode cL_member 19 = .ok (.iconst 2, 1) := by decide +kernel
theorem dL_member_20 : decode cL_member 20 = .ok (.ireturn, 1) := by decide +kernel
theorem dL_member_21 : decode cL_member 21 = .ok (.iconst 0, 1) := by decide +kernel
theorem dL_member_22 : decode cL_member 22 = .ok (.ireturn, 1) := by decide +kernel
theorem dL_parent_0 : decode cL_parent 0 = .ok (.aload_n 3, 1) := by decide +kernel
theorem dL_parent_1 : decode cL_parent 1 = .ok (.iconst 0, 1) := by decide +kernel
theorem dL_parent_2 : decode cL_parent 2 = .ok (.aload_n 0, 1) := by decide +kernel
theorem dL_parent_3 : decode cL_parent 3 = .ok (.iload_n 1, 1) := by decide +kernel
theorem dL_parent_4 : decode cL_parent 4 = .ok (.iload_n 2, 1) := by decide +kernel
theorem dL_parent_5 : decode cL_parent 5 = .ok (.invokevirtual 45, 3) := by decide +kernel
theorem dL_parent_8 : decode cL_parent 8 = .ok (.i2l, 1) := by decide +kernel
theorem dL_parent_9 : decode cL_parent 9 = .ok (.lastore, 1) := by decide +kernel
theorem dL_parent_10 : decode cL_parent 10 = .ok (.goto 11, 3) := by decide +kernel
theorem dL_parent_13 : decode cL_parent 13 = .ok (.astore 4, 2) := by decide +kernel
theorem dL_parent_15 : decode cL_parent 15 = .ok (.iconst 1, 1) := by decide +kernel
theorem dL_parent_16 : decode cL_parent 16 = .ok (.ireturn, 1) := by decide +kernel
theorem dL_parent_17 : decode cL_parent 17 = .ok (.astore 4, 2) := by decide +kernel
theorem dL_parent_19 : decode cL_parent 19 = .ok (.iconst 2, 1) := by decide +kernel
theorem dL_parent_20 : decode cL_parent 20 = .ok (.ireturn, 1) := by decide +kernel
theorem dL_parent_21 : decode cL_parent 21 = .ok (.iconst 0, 1) := by decide +kernel
theorem dL_parent_22 : decode cL_parent 22 = .ok (.ireturn, 1) := by decide +kernel
theorem dL_depth_0 : decode cL_depth 0 = .ok (.aload_n 3, 1) := by decide +kernel
theorem dL_depth_1 : decode cL_depth 1 = .ok (.iconst 0, 1) := by decide +kernel
theorem dL_depth_2 : decode cL_depth 2 = .ok (.aload_n 0, 1) := by decide +kernel
theorem dL_depth_3 : decode cL_depth 3 = .ok (.iload_n 1, 1) := by decide +kernel
theorem dL_depth_4 : decode cL_depth 4 = .ok (.iload_n 2, 1) := by decide +kernel
theorem dL_depth_5 : decode cL_depth 5 = .ok (.invokevirtual 48, 3) := by decide +kernel
theorem dL_depth_8 : decode cL_depth 8 = .ok (.i2l, 1) := by decide +kernel
theorem dL_depth_9 : decode cL_depth 9 = .ok (.lastore, 1) := by decide +kernel
theorem dL_depth_10 : decode cL_depth 10 = .ok (.goto 11, 3) := by decide +kernel
theorem dL_depth_13 : decode cL_depth 13 = .ok (.astore 4, 2) := by decide +kernel
theorem dL_depth_15 : decode cL_depth 15 = .ok (.iconst 1, 1) := by decide +kernel
theorem dL_depth_16 : decode cL_depth 16 = .ok (.ireturn, 1) := by decide +kernel
theorem dL_depth_17 : decode cL_depth 17 = .ok (.astore 4, 2) := by decide +kernel
theorem dL_depth_19 : decode cL_depth 19 = .ok (.iconst 2, 1) := by decide +kernel
theorem dL_depth_20 : decode cL_depth 20 = .ok (.ireturn, 1) := by decide +kernel
theorem dL_depth_21 : decode cL_depth 21 = .ok (.iconst 0, 1) := by decide +kernel
theorem dL_depth_22 : decode cL_depth 22 = .ok (.ireturn, 1) := by decide +kernel
theorem dL_child_0 : decode cL_child 0 = .ok (.aload 4, 2) := by decide +kernel
theorem dL_child_2 : decode cL_child 2 = .ok (.iconst 0, 1) := by decide +kernel
theorem dL_child_3 : decode cL_child 3 = .ok (.aload_n 0, 1) := by decide +kernel
theorem dL_child_4 : decode cL_child 4 = .ok (.iload_n 1, 1) := by decide +kernel
theorem dL_child_5 : decode cL_child 5 = .ok (.iload_n 2, 1) := by decide +kernel
theorem dL_child_6 : decode cL_child 6 = .ok (.iload_n 3, 1) := by decide +kernel
theorem dL_child_7 : decode cL_child 7 = .ok (.invokevirtual 51, 3) := by decide +kernel
theorem dL_child_10 : decode cL_child 10 = .ok (.i2l, 1) := by decide +kernel
theorem dL_child_11 : decode cL_child 11 = .ok (.lastore, 1) := by decide +kernel
theorem dL_child_12 : decode cL_child 12 = .ok (.goto 15, 3) := by decide +kernel
theorem dL_child_15 : decode cL_child 15 = .ok (.astore 5, 2) := by decide +kernel
theorem dL_child_17 : decode cL_child 17 = .ok (.iconst 1, 1) := by decide +kernel
theorem dL_child_18 : decode cL_child 18 = .ok (.ireturn, 1) := by decide +kernel
theorem dL_child_19 : decode cL_child 19 = .ok (.astore 5, 2) := by decide +kernel
theorem dL_child_21 : decode cL_child 21 = .ok (.iconst 2, 1) := by decide +kernel
theorem dL_child_22 : decode cL_child 22 = .ok (.ireturn, 1) := by decide +kernel
theorem dL_child_23 : decode cL_child 23 = .ok (.astore 5, 2) := by decide +kernel
theorem dL_child_25 : decode cL_child 25 = .ok (.iconst 3, 1) := by decide +kernel
theorem dL_child_26 : decode cL_child 26 = .ok (.ireturn, 1) := by decide +kernel
theorem dL_child_27 : decode cL_child 27 = .ok (.iconst 0, 1) := by decide +kernel
theorem dL_child_28 : decode cL_child 28 = .ok (.ireturn, 1) := by decide +kernel
theorem dL_subtree_0 : decode cL_subtree 0 = .ok (.aload_n 3, 1) := by decide +kernel
theorem dL_subtree_1 : decode cL_subtree 1 = .ok (.iconst 0, 1) := by decide +kernel
theorem dL_subtree_2 : decode cL_subtree 2 = .ok (.aload_n 0, 1) := by decide +kernel
theorem dL_subtree_3 : decode cL_subtree 3 = .ok (.iload_n 1, 1) := by decide +kernel
theorem dL_subtree_4 : decode cL_subtree 4 = .ok (.iload_n 2, 1) := by decide +kernel
theorem dL_subtree_5 : decode cL_subtree 5 = .ok (.invokevirtual 54, 3) := by decide +kernel
theorem dL_subtree_8 : decode cL_subtree 8 = .ok (.i2l, 1) := by decide +kernel
theorem dL_subtree_9 : decode cL_subtree 9 = .ok (.lastore, 1) := by decide +kernel
theorem dL_subtree_10 : decode cL_subtree 10 = .ok (.goto 11, 3) := by decide +kernel
theorem dL_subtree_13 : decode cL_subtree 13 = .ok (.astore 4, 2) := by decide +kernel
theorem dL_subtree_15 : decode cL_subtree 15 = .ok (.iconst 1, 1) := by decide +kernel
theorem dL_subtree_16 : decode cL_subtree 16 = .ok (.ireturn, 1) := by decide +kernel
theorem dL_subtree_17 : decode cL_subtree 17 = .ok (.astore 4, 2) := by decide +kernel
theorem dL_subtree_19 : decode cL_subtree 19 = .ok (.iconst 2, 1) := by decide +kernel
theorem dL_subtree_20 : decode cL_subtree 20 = .ok (.ireturn, 1) := by decide +kernel
theorem dL_subtree_21 : decode cL_subtree 21 = .ok (.iconst 0, 1) := by decide +kernel
theorem dL_subtree_22 : decode cL_subtree 22 = .ok (.ireturn, 1) := by decide +kernel
theorem dL_hasRoom_0 : decode cL_hasRoom 0 = .ok (.aload_n 3, 1) := by decide +kernel
theorem dL_hasRoom_1 : decode cL_hasRoom 1 = .ok (.iconst 0, 1) := by decide +kernel
theorem dL_hasRoom_2 : decode cL_hasRoom 2 = .ok (.aload_n 0, 1) := by decide +kernel
theorem dL_hasRoom_3 : decode cL_hasRoom 3 = .ok (.iload_n 1, 1) := by decide +kernel
theorem dL_hasRoom_4 : decode cL_hasRoom 4 = .ok (.iload_n 2, 1) := by decide +kernel
theorem dL_hasRoom_5 : decode cL_hasRoom 5 = .ok (.invokevirtual 57, 3) := by decide +kernel
theorem dL_hasRoom_8 : decode cL_hasRoom 8 = .ok (.ifCond .eq 7, 3) := by decide +kernel
theorem dL_hasRoom_11 : decode cL_hasRoom 11 = .ok (.lconst 1, 1) := by decide +kernel
theorem dL_hasRoom_12 : decode cL_hasRoom 12 = .ok (.goto 4, 3) := by decide +kernel
theorem dL_hasRoom_15 : decode cL_hasRoom 15 = .ok (.lconst 0, 1) := by decide +kernel
theorem dL_hasRoom_16 : decode cL_hasRoom 16 = .ok (.lastore, 1) := by decide +kernel
theorem dL_hasRoom_17 : decode cL_hasRoom 17 = .ok (.goto 11, 3) := by decide +kernel
theorem dL_hasRoom_20 : decode cL_hasRoom 20 = .ok (.astore 4, 2) := by decide +kernel
theorem dL_hasRoom_22 : decode cL_hasRoom 22 = .ok (.iconst 1, 1) := by decide +kernel
theorem dL_hasRoom_23 : decode cL_hasRoom 23 = .ok (.ireturn, 1) := by decide +kernel
theorem dL_hasRoom_24 : decode cL_hasRoom 24 = .ok (.astore 4, 2) := by decide +kernel
theorem dL_hasRoom_26 : decode cL_hasRoom 26 = .ok (.iconst 2, 1) := by decide +kernel
theorem dL_hasRoom_27 : decode cL_hasRoom 27 = .ok (.ireturn, 1) := by decide +kernel
theorem dL_hasRoom_28 : decode cL_hasRoom 28 = .ok (.iconst 0, 1) := by decide +kernel
theorem dL_hasRoom_29 : decode cL_hasRoom 29 = .ok (.ireturn, 1) := by decide +kernel
theorem dL_ranksBefore_0 : decode cL_ranksBefore 0 = .ok (.aload 4, 2) := by decide +kernel
theorem dL_ranksBefore_2 : decode cL_ranksBefore 2 = .ok (.iconst 0, 1) := by decide +kernel
theorem dL_ranksBefore_3 : decode cL_ranksBefore 3 = .ok (.aload_n 0, 1) := by decide +kernel
theorem dL_ranksBefore_4 : decode cL_ranksBefore 4 = .ok (.iload_n 1, 1) := by decide +kernel
theorem dL_ranksBefore_5 : decode cL_ranksBefore 5 = .ok (.iload_n 2, 1) := by decide +kernel
theorem dL_ranksBefore_6 : decode cL_ranksBefore 6 = .ok (.iload_n 3, 1) := by decide +kernel
theorem dL_ranksBefore_7 : decode cL_ranksBefore 7 = .ok (.invokevirtual 61, 3) := by decide +kernel
theorem dL_ranksBefore_10 : decode cL_ranksBefore 10 = .ok (.ifCond .eq 7, 3) := by decide +kernel
theorem dL_ranksBefore_13 : decode cL_ranksBefore 13 = .ok (.lconst 1, 1) := by decide +kernel
theorem dL_ranksBefore_14 : decode cL_ranksBefore 14 = .ok (.goto 4, 3) := by decide +kernel
theorem dL_ranksBefore_17 : decode cL_ranksBefore 17 = .ok (.lconst 0, 1) := by decide +kernel
theorem dL_ranksBefore_18 : decode cL_ranksBefore 18 = .ok (.lastore, 1) := by decide +kernel
theorem dL_ranksBefore_19 : decode cL_ranksBefore 19 = .ok (.goto 15, 3) := by decide +kernel
theorem dL_ranksBefore_22 : decode cL_ranksBefore 22 = .ok (.astore 5, 2) := by decide +kernel
theorem dL_ranksBefore_24 : decode cL_ranksBefore 24 = .ok (.iconst 1, 1) := by decide +kernel
theorem dL_ranksBefore_25 : decode cL_ranksBefore 25 = .ok (.ireturn, 1) := by decide +kernel
theorem dL_ranksBefore_26 : decode cL_ranksBefore 26 = .ok (.astore 5, 2) := by decide +kernel
theorem dL_ranksBefore_28 : decode cL_ranksBefore 28 = .ok (.iconst 2, 1) := by decide +kernel
theorem dL_ranksBefore_29 : decode cL_ranksBefore 29 = .ok (.ireturn, 1) := by decide +kernel
theorem dL_ranksBefore_30 : decode cL_ranksBefore 30 = .ok (.astore 5, 2) := by decide +kernel
theorem dL_ranksBefore_32 : decode cL_ranksBefore 32 = .ok (.iconst 3, 1) := by decide +kernel
theorem dL_ranksBefore_33 : decode cL_ranksBefore 33 = .ok (.ireturn, 1) := by decide +kernel
theorem dL_ranksBefore_34 : decode cL_ranksBefore 34 = .ok (.iconst 0, 1) := by decide +kernel
theorem dL_ranksBefore_35 : decode cL_ranksBefore 35 = .ok (.ireturn, 1) := by decide +kernel
theorem dL_harm_0 : decode cL_harm 0 = .ok (.aload_n 2, 1) := by decide +kernel
theorem dL_harm_1 : decode cL_harm 1 = .ok (.iconst 0, 1) := by decide +kernel
theorem dL_harm_2 : decode cL_harm 2 = .ok (.aload_n 0, 1) := by decide +kernel
theorem dL_harm_3 : decode cL_harm 3 = .ok (.iload_n 1, 1) := by decide +kernel
theorem dL_harm_4 : decode cL_harm 4 = .ok (.invokevirtual 65, 3) := by decide +kernel
theorem dL_harm_7 : decode cL_harm 7 = .ok (.i2l, 1) := by decide +kernel
theorem dL_harm_8 : decode cL_harm 8 = .ok (.lastore, 1) := by decide +kernel
theorem dL_harm_9 : decode cL_harm 9 = .ok (.goto 9, 3) := by decide +kernel
theorem dL_harm_12 : decode cL_harm 12 = .ok (.astore_n 3, 1) := by decide +kernel
theorem dL_harm_13 : decode cL_harm 13 = .ok (.iconst 1, 1) := by decide +kernel
theorem dL_harm_14 : decode cL_harm 14 = .ok (.ireturn, 1) := by decide +kernel
theorem dL_harm_15 : decode cL_harm 15 = .ok (.astore_n 3, 1) := by decide +kernel
theorem dL_harm_16 : decode cL_harm 16 = .ok (.iconst 2, 1) := by decide +kernel
theorem dL_harm_17 : decode cL_harm 17 = .ok (.ireturn, 1) := by decide +kernel
theorem dL_harm_18 : decode cL_harm 18 = .ok (.iconst 0, 1) := by decide +kernel
theorem dL_harm_19 : decode cL_harm 19 = .ok (.ireturn, 1) := by decide +kernel
theorem dL_pieces_0 : decode cL_pieces 0 = .ok (.aload_n 2, 1) := by decide +kernel
theorem dL_pieces_1 : decode cL_pieces 1 = .ok (.iconst 0, 1) := by decide +kernel
theorem dL_pieces_2 : decode cL_pieces 2 = .ok (.aload_n 0, 1) := by decide +kernel
theorem dL_pieces_3 : decode cL_pieces 3 = .ok (.iload_n 1, 1) := by decide +kernel
theorem dL_pieces_4 : decode cL_pieces 4 = .ok (.invokevirtual 68, 3) := by decide +kernel
theorem dL_pieces_7 : decode cL_pieces 7 = .ok (.i2l, 1) := by decide +kernel
theorem dL_pieces_8 : decode cL_pieces 8 = .ok (.lastore, 1) := by decide +kernel
theorem dL_pieces_9 : decode cL_pieces 9 = .ok (.goto 9, 3) := by decide +kernel
theorem dL_pieces_12 : decode cL_pieces 12 = .ok (.astore_n 3, 1) := by decide +kernel
theorem dL_pieces_13 : decode cL_pieces 13 = .ok (.iconst 1, 1) := by decide +kernel
theorem dL_pieces_14 : decode cL_pieces 14 = .ok (.ireturn, 1) := by decide +kernel
theorem dL_pieces_15 : decode cL_pieces 15 = .ok (.astore_n 3, 1) := by decide +kernel
theorem dL_pieces_16 : decode cL_pieces 16 = .ok (.iconst 2, 1) := by decide +kernel
theorem dL_pieces_17 : decode cL_pieces 17 = .ok (.ireturn, 1) := by decide +kernel
theorem dL_pieces_18 : decode cL_pieces 18 = .ok (.iconst 0, 1) := by decide +kernel
theorem dL_pieces_19 : decode cL_pieces 19 = .ok (.ireturn, 1) := by decide +kernel
theorem dL_stripe_0 : decode cL_stripe 0 = .ok (.aload_n 3, 1) := by decide +kernel
theorem dL_stripe_1 : decode cL_stripe 1 = .ok (.iconst 0, 1) := by decide +kernel
theorem dL_stripe_2 : decode cL_stripe 2 = .ok (.aload_n 0, 1) := by decide +kernel
theorem dL_stripe_3 : decode cL_stripe 3 = .ok (.iload_n 1, 1) := by decide +kernel
theorem dL_stripe_4 : decode cL_stripe 4 = .ok (.iload_n 2, 1) := by decide +kernel
theorem dL_stripe_5 : decode cL_stripe 5 = .ok (.invokevirtual 71, 3) := by decide +kernel
theorem dL_stripe_8 : decode cL_stripe 8 = .ok (.i2l, 1) := by decide +kernel
theorem dL_stripe_9 : decode cL_stripe 9 = .ok (.lastore, 1) := by decide +kernel
theorem dL_stripe_10 : decode cL_stripe 10 = .ok (.goto 11, 3) := by decide +kernel
theorem dL_stripe_13 : decode cL_stripe 13 = .ok (.astore 4, 2) := by decide +kernel
theorem dL_stripe_15 : decode cL_stripe 15 = .ok (.iconst 1, 1) := by decide +kernel
theorem dL_stripe_16 : decode cL_stripe 16 = .ok (.ireturn, 1) := by decide +kernel
theorem dL_stripe_17 : decode cL_stripe 17 = .ok (.astore 4, 2) := by decide +kernel
theorem dL_stripe_19 : decode cL_stripe 19 = .ok (.iconst 2, 1) := by decide +kernel
theorem dL_stripe_20 : decode cL_stripe 20 = .ok (.ireturn, 1) := by decide +kernel
theorem dL_stripe_21 : decode cL_stripe 21 = .ok (.iconst 0, 1) := by decide +kernel
theorem dL_stripe_22 : decode cL_stripe 22 = .ok (.ireturn, 1) := by decide +kernel
theorem dL_count_0 : decode cL_count 0 = .ok (.aload_n 2, 1) := by decide +kernel
theorem dL_count_1 : decode cL_count 1 = .ok (.iconst 0, 1) := by decide +kernel
theorem dL_count_2 : decode cL_count 2 = .ok (.aload_n 0, 1) := by decide +kernel
theorem dL_count_3 : decode cL_count 3 = .ok (.iload_n 1, 1) := by decide +kernel
theorem dL_count_4 : decode cL_count 4 = .ok (.invokevirtual 74, 3) := by decide +kernel
theorem dL_count_7 : decode cL_count 7 = .ok (.i2l, 1) := by decide +kernel
theorem dL_count_8 : decode cL_count 8 = .ok (.lastore, 1) := by decide +kernel
theorem dL_count_9 : decode cL_count 9 = .ok (.goto 6, 3) := by decide +kernel
theorem dL_count_12 : decode cL_count 12 = .ok (.astore_n 3, 1) := by decide +kernel
theorem dL_count_13 : decode cL_count 13 = .ok (.iconst 1, 1) := by decide +kernel
theorem dL_count_14 : decode cL_count 14 = .ok (.ireturn, 1) := by decide +kernel
theorem dL_count_15 : decode cL_count 15 = .ok (.iconst 0, 1) := by decide +kernel
theorem dL_count_16 : decode cL_count 16 = .ok (.ireturn, 1) := by decide +kernel
theorem dL_undo_0 : decode cL_undo 0 = .ok (.aload_n 1, 1) := by decide +kernel
theorem dL_undo_1 : decode cL_undo 1 = .ok (.iconst 0, 1) := by decide +kernel
theorem dL_undo_2 : decode cL_undo 2 = .ok (.aload_n 0, 1) := by decide +kernel
theorem dL_undo_3 : decode cL_undo 3 = .ok (.invokevirtual 77, 3) := by decide +kernel
theorem dL_undo_6 : decode cL_undo 6 = .ok (.i2l, 1) := by decide +kernel
theorem dL_undo_7 : decode cL_undo 7 = .ok (.lastore, 1) := by decide +kernel
theorem dL_undo_8 : decode cL_undo 8 = .ok (.goto 6, 3) := by decide +kernel
theorem dL_undo_11 : decode cL_undo 11 = .ok (.astore_n 2, 1) := by decide +kernel
theorem dL_undo_12 : decode cL_undo 12 = .ok (.iconst 1, 1) := by decide +kernel
theorem dL_undo_13 : decode cL_undo 13 = .ok (.ireturn, 1) := by decide +kernel
theorem dL_undo_14 : decode cL_undo 14 = .ok (.iconst 0, 1) := by decide +kernel
theorem dL_undo_15 : decode cL_undo 15 = .ok (.ireturn, 1) := by decide +kernel
theorem dL_law_0 : decode cL_law 0 = .ok (.new 8, 3) := by decide +kernel
theorem dL_law_3 : decode cL_law 3 = .ok (.dup, 1) := by decide +kernel
theorem dL_law_4 : decode cL_law 4 = .ok (.invokespecial 81, 3) := by decide +kernel
theorem dL_law_7 : decode cL_law 7 = .ok (.astore_n 1, 1) := by decide +kernel
theorem dL_law_8 : decode cL_law 8 = .ok (.new 82, 3) := by decide +kernel
theorem dL_law_11 : decode cL_law 11 = .ok (.dup, 1) := by decide +kernel
theorem dL_law_12 : decode cL_law 12 = .ok (.invokespecial 84, 3) := by decide +kernel
theorem dL_law_15 : decode cL_law 15 = .ok (.astore_n 2, 1) := by decide +kernel
theorem dL_law_16 : decode cL_law 16 = .ok (.iconst 1, 1) := by decide +kernel
theorem dL_law_17 : decode cL_law 17 = .ok (.newarray .long, 2) := by decide +kernel
theorem dL_law_19 : decode cL_law 19 = .ok (.astore_n 3, 1) := by decide +kernel
theorem dL_law_20 : decode cL_law 20 = .ok (.iconst 0, 1) := by decide +kernel
theorem dL_law_21 : decode cL_law 21 = .ok (.istore 4, 2) := by decide +kernel
theorem dL_law_23 : decode cL_law 23 = .ok (.iload 4, 2) := by decide +kernel
theorem dL_law_25 : decode cL_law 25 = .ok (.aload_n 0, 1) := by decide +kernel
theorem dL_law_26 : decode cL_law 26 = .ok (.arraylength, 1) := by decide +kernel
theorem dL_law_27 : decode cL_law 27 = .ok (.iconst 4, 1) := by decide +kernel
theorem dL_law_28 : decode cL_law 28 = .ok (.isub, 1) := by decide +kernel
theorem dL_law_29 : decode cL_law 29 = .ok (.if_icmp .gt 1451, 3) := by decide +kernel
theorem dL_law_32 : decode cL_law 32 = .ok (.aload_n 0, 1) := by decide +kernel
theorem dL_law_33 : decode cL_law 33 = .ok (.iload 4, 2) := by decide +kernel
theorem dL_law_35 : decode cL_law 35 = .ok (.iaload, 1) := by decide +kernel
theorem dL_law_36 : decode cL_law 36 = .ok (.bipush 31, 2) := by decide +kernel
theorem dL_law_38 : decode cL_law 38 = .ok (.iand, 1) := by decide +kernel
theorem dL_law_39 : decode cL_law 39 = .ok (.tableswitch 1435 0 22 #[105, 185, 241, 297, 365, 421, 477, 490, 558, 614, 627, 695, 763, 831, 911, 979, 1054, 1141, 1197, 1253, 1321, 1377, 1421], 105) := by decide +kernel
theorem dL_law_144 : decode cL_law 144 = .ok (.aload_n 1, 1) := by decide +kernel
theorem dL_law_145 : decode cL_law 145 = .ok (.aload_n 0, 1) := by decide +kernel
theorem dL_law_146 : decode cL_law 146 = .ok (.iload 4, 2) := by decide +kernel
theorem dL_law_148 : decode cL_law 148 = .ok (.iconst 1, 1) := by decide +kernel
theorem dL_law_149 : decode cL_law 149 = .ok (.iadd, 1) := by decide +kernel
theorem dL_law_150 : decode cL_law 150 = .ok (.iaload, 1) := by decide +kernel
theorem dL_law_151 : decode cL_law 151 = .ok (.aload_n 0, 1) := by decide +kernel
theorem dL_law_152 : decode cL_law 152 = .ok (.iload 4, 2) := by decide +kernel
theorem dL_law_154 : decode cL_law 154 = .ok (.iconst 2, 1) := by decide +kernel
theorem dL_law_155 : decode cL_law 155 = .ok (.iadd, 1) := by decide +kernel
theorem dL_law_156 : decode cL_law 156 = .ok (.iaload, 1) := by decide +kernel
theorem dL_law_157 : decode cL_law 157 = .ok (.aload_n 0, 1) := by decide +kernel
theorem dL_law_158 : decode cL_law 158 = .ok (.iload 4, 2) := by decide +kernel
theorem dL_law_160 : decode cL_law 160 = .ok (.iconst 3, 1) := by decide +kernel
theorem dL_law_161 : decode cL_law 161 = .ok (.iadd, 1) := by decide +kernel
theorem dL_law_162 : decode cL_law 162 = .ok (.iaload, 1) := by decide +kernel
theorem dL_law_163 : decode cL_law 163 = .ok (.aload_n 3, 1) := by decide +kernel
theorem dL_law_164 : decode cL_law 164 = .ok (.invokestatic 85, 3) := by decide +kernel
theorem dL_law_167 : decode cL_law 167 = .ok (.istore 5, 2) := by decide +kernel
theorem dL_law_169 : decode cL_law 169 = .ok (.aload_n 2, 1) := by decide +kernel
theorem dL_law_170 : decode cL_law 170 = .ok (.aload_n 0, 1) := by decide +kernel
theorem dL_law_171 : decode cL_law 171 = .ok (.iload 4, 2) := by decide +kernel
theorem dL_law_173 : decode cL_law 173 = .ok (.iconst 1, 1) := by decide +kernel
theorem dL_law_174 : decode cL_law 174 = .ok (.iadd, 1) := by decide +kernel
theorem dL_law_175 : decode cL_law 175 = .ok (.iaload, 1) := by decide +kernel
theorem dL_law_176 : decode cL_law 176 = .ok (.aload_n 0, 1) := by decide +kernel
theorem dL_law_177 : decode cL_law 177 = .ok (.iload 4, 2) := by decide +kernel
theorem dL_law_179 : decode cL_law 179 = .ok (.iconst 2, 1) := by decide +kernel
theorem dL_law_180 : decode cL_law 180 = .ok (.iadd, 1) := by decide +kernel
theorem dL_law_181 : decode cL_law 181 = .ok (.iaload, 1) := by decide +kernel
theorem dL_law_182 : decode cL_law 182 = .ok (.aload_n 0, 1) := by decide +kernel
theorem dL_law_183 : decode cL_law 183 = .ok (.iload 4, 2) := by decide +kernel
theorem dL_law_185 : decode cL_law 185 = .ok (.iconst 3, 1) := by decide +kernel
theorem dL_law_186 : decode cL_law 186 = .ok (.iadd, 1) := by decide +kernel
theorem dL_law_187 : decode cL_law 187 = .ok (.iaload, 1) := by decide +kernel
theorem dL_law_188 : decode cL_law 188 = .ok (.invokevirtual 90, 3) := by decide +kernel
theorem dL_law_191 : decode cL_law 191 = .ok (.istore 6, 2) := by decide +kernel
theorem dL_law_193 : decode cL_law 193 = .ok (.aload_n 2, 1) := by decide +kernel
theorem dL_law_194 : decode cL_law 194 = .ok (.invokevirtual 91, 3) := by decide +kernel
theorem dL_law_197 : decode cL_law 197 = .ok (.iload 5, 2) := by decide +kernel
theorem dL_law_199 : decode cL_law 199 = .ok (.if_icmp .eq 5, 3) := by decide +kernel
theorem dL_law_202 : decode cL_law 202 = .ok (.iconst 0, 1) := by decide +kernel
theorem dL_law_203 : decode cL_law 203 = .ok (.ireturn, 1) := by decide +kernel
theorem dL_law_204 : decode cL_law 204 = .ok (.iload 5, 2) := by decide +kernel
theorem dL_law_206 : decode cL_law 206 = .ok (.ifCond .ne 15, 3) := by decide +kernel
theorem dL_law_209 : decode cL_law 209 = .ok (.aload_n 3, 1) := by decide +kernel
theorem dL_law_210 : decode cL_law 210 = .ok (.iconst 0, 1) := by decide +kernel
theorem dL_law_211 : decode cL_law 211 = .ok (.laload, 1) := by decide +kernel
theorem dL_law_212 : decode cL_law 212 = .ok (.iload 6, 2) := by decide +kernel
theorem dL_law_214 : decode cL_law 214 = .ok (.i2l, 1) := by decide +kernel
theorem dL_law_215 : decode cL_law 215 = .ok (.lcmp, 1) := by decide +kernel
theorem dL_law_216 : decode cL_law 216 = .ok (.ifCond .eq 5, 3) := by decide +kernel
theorem dL_law_219 : decode cL_law 219 = .ok (.iconst 0, 1) := by decide +kernel
theorem dL_law_220 : decode cL_law 220 = .ok (.ireturn, 1) := by decide +kernel
theorem dL_law_221 : decode cL_law 221 = .ok (.goto 1253, 3) := by decide +kernel
theorem dL_law_224 : decode cL_law 224 = .ok (.aload_n 1, 1) := by decide +kernel
theorem dL_law_225 : decode cL_law 225 = .ok (.aload_n 0, 1) := by decide +kernel
theorem dL_law_226 : decode cL_law 226 = .ok (.iload 4, 2) := by decide +kernel
theorem dL_law_228 : decode cL_law 228 = .ok (.iconst 1, 1) := by decide +kernel
theorem dL_law_229 : decode cL_law 229 = .ok (.iadd, 1) := by decide +kernel
theorem dL_law_230 : decode cL_law 230 = .ok (.iaload, 1) := by decide +kernel
theorem dL_law_231 : decode cL_law 231 = .ok (.aload_n 3, 1) := by decide +kernel
theorem dL_law_232 : decode cL_law 232 = .ok (.invokestatic 94, 3) := by decide +kernel
theorem dL_law_235 : decode cL_law 235 = .ok (.istore 5, 2) := by decide +kernel
theorem dL_law_237 : decode cL_law 237 = .ok (.aload_n 2, 1) := by decide +kernel
theorem dL_law_238 : decode cL_law 238 = .ok (.aload_n 0, 1) := by decide +kernel
theorem dL_law_239 : decode cL_law 239 = .ok (.iload 4, 2) := by decide +kernel
theorem dL_law_241 : decode cL_law 241 = .ok (.iconst 1, 1) := by decide +kernel
theorem dL_law_242 : decode cL_law 242 = .ok (.iadd, 1) := by decide +kernel
theorem dL_law_243 : decode cL_law 243 = .ok (.iaload, 1) := by decide +kernel
theorem dL_law_244 : decode cL_law 244 = .ok (.invokevirtual 97, 3) := by decide +kernel
theorem dL_law_247 : decode cL_law 247 = .ok (.istore 6, 2) := by decide +kernel
theorem dL_law_249 : decode cL_law 249 = .ok (.aload_n 2, 1) := by decide +kernel
theorem dL_law_250 : decode cL_law 250 = .ok (.invokevirtual 91, 3) := by decide +kernel
theorem dL_law_253 : decode cL_law 253 = .ok (.iload 5, 2) := by decide +kernel
theorem dL_law_255 : decode cL_law 255 = .ok (.if_icmp .eq 5, 3) := by decide +kernel
theorem dL_law_258 : decode cL_law 258 = .ok (.iconst 0, 1) := by decide +kernel
theorem dL_law_259 : decode cL_law 259 = .ok (.ireturn, 1) := by decide +kernel
theorem dL_law_260 : decode cL_law 260 = .ok (.iload 5, 2) := by decide +kernel
theorem dL_law_262 : decode cL_law 262 = .ok (.ifCond .ne 15, 3) := by decide +kernel
theorem dL_law_265 : decode cL_law 265 = .ok (.aload_n 3, 1) := by decide +kernel
theorem dL_law_266 : decode cL_law 266 = .ok (.iconst 0, 1) := by decide +kernel
theorem dL_law_267 : decode cL_law 267 = .ok (.laload, 1) := by decide +kernel
theorem dL_law_268 : decode cL_law 268 = .ok (.iload 6, 2) := by decide +kernel
theorem dL_law_270 : decode cL_law 270 = .ok (.i2l, 1) := by decide +kernel
theorem dL_law_271 : decode cL_law 271 = .ok (.lcmp, 1) := by decide +kernel
theorem dL_law_272 : decode cL_law 272 = .ok (.ifCond .eq 5, 3) := by decide +kernel
theorem dL_law_275 : decode cL_law 275 = .ok (.iconst 0, 1) := by decide +kernel
theorem dL_law_276 : decode cL_law 276 = .ok (.ireturn, 1) := by decide +kernel
theorem dL_law_277 : decode cL_law 277 = .ok (.goto 1197, 3) := by decide +kernel
theorem dL_law_280 : decode cL_law 280 = .ok (.aload_n 1, 1) := by decide +kernel
theorem dL_law_281 : decode cL_law 281 = .ok (.aload_n 0, 1) := by decide +kernel
theorem dL_law_282 : decode cL_law 282 = .ok (.iload 4, 2) := by decide +kernel
theorem dL_law_284 : decode cL_law 284 = .ok (.iconst 1, 1) := by decide +kernel
theorem dL_law_285 : decode cL_law 285 = .ok (.iadd, 1) := by decide +kernel
theorem dL_law_286 : decode cL_law 286 = .ok (.iaload, 1) := by decide +kernel
theorem dL_law_287 : decode cL_law 287 = .ok (.aload_n 3, 1) := by decide +kernel
theorem dL_law_288 : decode cL_law 288 = .ok (.invokestatic 98, 3) := by decide +kernel
theorem dL_law_291 : decode cL_law 291 = .ok (.istore 5, 2) := by decide +kernel
theorem dL_law_293 : decode cL_law 293 = .ok (.aload_n 2, 1) := by decide +kernel
theorem dL_law_294 : decode cL_law 294 = .ok (.aload_n 0, 1) := by decide +kernel
theorem dL_law_295 : decode cL_law 295 = .ok (.iload 4, 2) := by decide +kernel
theorem dL_law_297 : decode cL_law 297 = .ok (.iconst 1, 1) := by decide +kernel
theorem dL_law_298 : decode cL_law 298 = .ok (.iadd, 1) := by decide +kernel
theorem dL_law_299 : decode cL_law 299 = .ok (.iaload, 1) := by decide +kernel
theorem dL_law_300 : decode cL_law 300 = .ok (.invokevirtual 100, 3) := by decide +kernel
theorem dL_law_303 : decode cL_law 303 = .ok (.istore 6, 2) := by decide +kernel
theorem dL_law_305 : decode cL_law 305 = .ok (.aload_n 2, 1) := by decide +kernel
theorem dL_law_306 : decode cL_law 306 = .ok (.invokevirtual 91, 3) := by decide +kernel
theorem dL_law_309 : decode cL_law 309 = .ok (.iload 5, 2) := by decide +kernel
theorem dL_law_311 : decode cL_law 311 = .ok (.if_icmp .eq 5, 3) := by decide +kernel
theorem dL_law_314 : decode cL_law 314 = .ok (.iconst 0, 1) := by decide +kernel
theorem dL_law_315 : decode cL_law 315 = .ok (.ireturn, 1) := by decide +kernel
theorem dL_law_316 : decode cL_law 316 = .ok (.iload 5, 2) := by decide +kernel
theorem dL_law_318 : decode cL_law 318 = .ok (.ifCond .ne 15, 3) := by decide +kernel
theorem dL_law_321 : decode cL_law 321 = .ok (.aload_n 3, 1) := by decide +kernel
theorem dL_law_322 : decode cL_law 322 = .ok (.iconst 0, 1) := by decide +kernel
theorem dL_law_323 : decode cL_law 323 = .ok (.laload, 1) := by decide +kernel
theorem dL_law_324 : decode cL_law 324 = .ok (.iload 6, 2) := by decide +kernel
theorem dL_law_326 : decode cL_law 326 = .ok (.i2l, 1) := by decide +kernel
theorem dL_law_327 : decode cL_law 327 = .ok (.lcmp, 1) := by decide +kernel
theorem dL_law_328 : decode cL_law 328 = .ok (.ifCond .eq 5, 3) := by decide +kernel
theorem dL_law_331 : decode cL_law 331 = .ok (.iconst 0, 1) := by decide +kernel
theorem dL_law_332 : decode cL_law 332 = .ok (.ireturn, 1) := by decide +kernel
theorem dL_law_333 : decode cL_law 333 = .ok (.goto 1141, 3) := by decide +kernel
theorem dL_law_336 : decode cL_law 336 = .ok (.aload_n 1, 1) := by decide +kernel
theorem dL_law_337 : decode cL_law 337 = .ok (.aload_n 0, 1) := by decide +kernel
theorem dL_law_338 : decode cL_law 338 = .ok (.iload 4, 2) := by decide +kernel
theorem dL_law_340 : decode cL_law 340 = .ok (.iconst 1, 1) := by decide +kernel
theorem dL_law_341 : decode cL_law 341 = .ok (.iadd, 1) := by decide +kernel
theorem dL_law_342 : decode cL_law 342 = .ok (.iaload, 1) := by decide +kernel
theorem dL_law_343 : decode cL_law 343 = .ok (.aload_n 0, 1) := by decide +kernel
theorem dL_law_344 : decode cL_law 344 = .ok (.iload 4, 2) := by decide +kernel
theorem dL_law_346 : decode cL_law 346 = .ok (.iconst 2, 1) := by decide +kernel
theorem dL_law_347 : decode cL_law 347 = .ok (.iadd, 1) := by decide +kernel
theorem dL_law_348 : decode cL_law 348 = .ok (.iaload, 1) := by decide +kernel
theorem dL_law_349 : decode cL_law 349 = .ok (.aload_n 3, 1) := by decide +kernel
theorem dL_law_350 : decode cL_law 350 = .ok (.invokestatic 101, 3) := by decide +kernel
theorem dL_law_353 : decode cL_law 353 = .ok (.istore 5, 2) := by decide +kernel
theorem dL_law_355 : decode cL_law 355 = .ok (.aload_n 2, 1) := by decide +kernel
theorem dL_law_356 : decode cL_law 356 = .ok (.aload_n 0, 1) := by decide +kernel
theorem dL_law_357 : decode cL_law 357 = .ok (.iload 4, 2) := by decide +kernel
theorem dL_law_359 : decode cL_law 359 = .ok (.iconst 1, 1) := by decide +kernel
theorem dL_law_360 : decode cL_law 360 = .ok (.iadd, 1) := by decide +kernel
theorem dL_law_361 : decode cL_law 361 = .ok (.iaload, 1) := by decide +kernel
theorem dL_law_362 : decode cL_law 362 = .ok (.aload_n 0, 1) := by decide +kernel
theorem dL_law_363 : decode cL_law 363 = .ok (.iload 4, 2) := by decide +kernel
theorem dL_law_365 : decode cL_law 365 = .ok (.iconst 2, 1) := by decide +kernel
theorem dL_law_366 : decode cL_law 366 = .ok (.iadd, 1) := by decide +kernel
theorem dL_law_367 : decode cL_law 367 = .ok (.iaload, 1) := by decide +kernel
theorem dL_law_368 : decode cL_law 368 = .ok (.invokevirtual 104, 3) := by decide +kernel
theorem dL_law_371 : decode cL_law 371 = .ok (.istore 6, 2) := by decide +kernel
theorem dL_law_373 : decode cL_law 373 = .ok (.aload_n 2, 1) := by decide +kernel
theorem dL_law_374 : decode cL_law 374 = .ok (.invokevirtual 91, 3) := by decide +kernel
theorem dL_law_377 : decode cL_law 377 = .ok (.iload 5, 2) := by decide +kernel
theorem dL_law_379 : decode cL_law 379 = .ok (.if_icmp .eq 5, 3) := by decide +kernel
theorem dL_law_382 : decode cL_law 382 = .ok (.iconst 0, 1) := by decide +kernel
theorem dL_law_383 : decode cL_law 383 = .ok (.ireturn, 1) := by decide +kernel
theorem dL_law_384 : decode cL_law 384 = .ok (.iload 5, 2) := by decide +kernel
theorem dL_law_386 : decode cL_law 386 = .ok (.ifCond .ne 15, 3) := by decide +kernel
theorem dL_law_389 : decode cL_law 389 = .ok (.aload_n 3, 1) := by decide +kernel
theorem dL_law_390 : decode cL_law 390 = .ok (.iconst 0, 1) := by decide +kernel
theorem dL_law_391 : decode cL_law 391 = .ok (.laload, 1) := by decide +kernel
theorem dL_law_392 : decode cL_law 392 = .ok (.iload 6, 2) := by decide +kernel
theorem dL_law_394 : decode cL_law 394 = .ok (.i2l, 1) := by decide +kernel
theorem dL_law_395 : decode cL_law 395 = .ok (.lcmp, 1) := by decide +kernel
theorem dL_law_396 : decode cL_law 396 = .ok (.ifCond .eq 5, 3) := by decide +kernel
theorem dL_law_399 : decode cL_law 399 = .ok (.iconst 0, 1) := by decide +kernel
theorem dL_law_400 : decode cL_law 400 = .ok (.ireturn, 1) := by decide +kernel
theorem dL_law_401 : decode cL_law 401 = .ok (.goto 1073, 3) := by decide +kernel
theorem dL_law_404 : decode cL_law 404 = .ok (.aload_n 1, 1) := by decide +kernel
theorem dL_law_405 : decode cL_law 405 = .ok (.aload_n 0, 1) := by decide +kernel
theorem dL_law_406 : decode cL_law 406 = .ok (.iload 4, 2) := by decide +kernel
theorem dL_law_408 : decode cL_law 408 = .ok (.iconst 1, 1) := by decide +kernel
theorem dL_law_409 : decode cL_law 409 = .ok (.iadd, 1) := by decide +kernel
theorem dL_law_410 : decode cL_law 410 = .ok (.iaload, 1) := by decide +kernel
theorem dL_law_411 : decode cL_law 411 = .ok (.aload_n 3, 1) := by decide +kernel
theorem dL_law_412 : decode cL_law 412 = .ok (.invokestatic 105, 3) := by decide +kernel
theorem dL_law_415 : decode cL_law 415 = .ok (.istore 5, 2) := by decide +kernel
theorem dL_law_417 : decode cL_law 417 = .ok (.aload_n 2, 1) := by decide +kernel
theorem dL_law_418 : decode cL_law 418 = .ok (.aload_n 0, 1) := by decide +kernel
theorem dL_law_419 : decode cL_law 419 = .ok (.iload 4, 2) := by decide +kernel
theorem dL_law_421 : decode cL_law 421 = .ok (.iconst 1, 1) := by decide +kernel
theorem dL_law_422 : decode cL_law 422 = .ok (.iadd, 1) := by decide +kernel
theorem dL_law_423 : decode cL_law 423 = .ok (.iaload, 1) := by decide +kernel
theorem dL_law_424 : decode cL_law 424 = .ok (.invokevirtual 107, 3) := by decide +kernel
theorem dL_law_427 : decode cL_law 427 = .ok (.istore 6, 2) := by decide +kernel
theorem dL_law_429 : decode cL_law 429 = .ok (.aload_n 2, 1) := by decide +kernel
theorem dL_law_430 : decode cL_law 430 = .ok (.invokevirtual 91, 3) := by decide +kernel
theorem dL_law_433 : decode cL_law 433 = .ok (.iload 5, 2) := by decide +kernel
theorem dL_law_435 : decode cL_law 435 = .ok (.if_icmp .eq 5, 3) := by decide +kernel
theorem dL_law_438 : decode cL_law 438 = .ok (.iconst 0, 1) := by decide +kernel
theorem dL_law_439 : decode cL_law 439 = .ok (.ireturn, 1) := by decide +kernel
theorem dL_law_440 : decode cL_law 440 = .ok (.iload 5, 2) := by decide +kernel
theorem dL_law_442 : decode cL_law 442 = .ok (.ifCond .ne 15, 3) := by decide +kernel
theorem dL_law_445 : decode cL_law 445 = .ok (.aload_n 3, 1) := by decide +kernel
theorem dL_law_446 : decode cL_law 446 = .ok (.iconst 0, 1) := by decide +kernel
theorem dL_law_447 : decode cL_law 447 = .ok (.laload, 1) := by decide +kernel
theorem dL_law_448 : decode cL_law 448 = .ok (.iload 6, 2) := by decide +kernel
theorem dL_law_450 : decode cL_law 450 = .ok (.i2l, 1) := by decide +kernel
theorem dL_law_451 : decode cL_law 451 = .ok (.lcmp, 1) := by decide +kernel
theorem dL_law_452 : decode cL_law 452 = .ok (.ifCond .eq 5, 3) := by decide +kernel
theorem dL_law_455 : decode cL_law 455 = .ok (.iconst 0, 1) := by decide +kernel
theorem dL_law_456 : decode cL_law 456 = .ok (.ireturn, 1) := by decide +kernel
theorem dL_law_457 : decode cL_law 457 = .ok (.goto 1017, 3) := by decide +kernel
theorem dL_law_460 : decode cL_law 460 = .ok (.aload_n 1, 1) := by decide +kernel
theorem dL_law_461 : decode cL_law 461 = .ok (.aload_n 0, 1) := by decide +kernel
theorem dL_law_462 : decode cL_law 462 = .ok (.iload 4, 2) := by decide +kernel
theorem dL_law_464 : decode cL_law 464 = .ok (.iconst 1, 1) := by decide +kernel
theorem dL_law_465 : decode cL_law 465 = .ok (.iadd, 1) := by decide +kernel
theorem dL_law_466 : decode cL_law 466 = .ok (.iaload, 1) := by decide +kernel
theorem dL_law_467 : decode cL_law 467 = .ok (.aload_n 3, 1) := by decide +kernel
theorem dL_law_468 : decode cL_law 468 = .ok (.invokestatic 108, 3) := by decide +kernel
theorem dL_law_471 : decode cL_law 471 = .ok (.istore 5, 2) := by decide +kernel
theorem dL_law_473 : decode cL_law 473 = .ok (.aload_n 2, 1) := by decide +kernel
theorem dL_law_474 : decode cL_law 474 = .ok (.aload_n 0, 1) := by decide +kernel
theorem dL_law_475 : decode cL_law 475 = .ok (.iload 4, 2) := by decide +kernel
theorem dL_law_477 : decode cL_law 477 = .ok (.iconst 1, 1) := by decide +kernel
theorem dL_law_478 : decode cL_law 478 = .ok (.iadd, 1) := by decide +kernel
theorem dL_law_479 : decode cL_law 479 = .ok (.iaload, 1) := by decide +kernel
theorem dL_law_480 : decode cL_law 480 = .ok (.invokevirtual 110, 3) := by decide +kernel
theorem dL_law_483 : decode cL_law 483 = .ok (.istore 6, 2) := by decide +kernel
theorem dL_law_485 : decode cL_law 485 = .ok (.aload_n 2, 1) := by decide +kernel
theorem dL_law_486 : decode cL_law 486 = .ok (.invokevirtual 91, 3) := by decide +kernel
theorem dL_law_489 : decode cL_law 489 = .ok (.iload 5, 2) := by decide +kernel
theorem dL_law_491 : decode cL_law 491 = .ok (.if_icmp .eq 5, 3) := by decide +kernel
theorem dL_law_494 : decode cL_law 494 = .ok (.iconst 0, 1) := by decide +kernel
theorem dL_law_495 : decode cL_law 495 = .ok (.ireturn, 1) := by decide +kernel
theorem dL_law_496 : decode cL_law 496 = .ok (.iload 5, 2) := by decide +kernel
theorem dL_law_498 : decode cL_law 498 = .ok (.ifCond .ne 15, 3) := by decide +kernel
theorem dL_law_501 : decode cL_law 501 = .ok (.aload_n 3, 1) := by decide +kernel
theorem dL_law_502 : decode cL_law 502 = .ok (.iconst 0, 1) := by decide +kernel
theorem dL_law_503 : decode cL_law 503 = .ok (.laload, 1) := by decide +kernel
theorem dL_law_504 : decode cL_law 504 = .ok (.iload 6, 2) := by decide +kernel
theorem dL_law_506 : decode cL_law 506 = .ok (.i2l, 1) := by decide +kernel
theorem dL_law_507 : decode cL_law 507 = .ok (.lcmp, 1) := by decide +kernel
theorem dL_law_508 : decode cL_law 508 = .ok (.ifCond .eq 5, 3) := by decide +kernel
theorem dL_law_511 : decode cL_law 511 = .ok (.iconst 0, 1) := by decide +kernel
theorem dL_law_512 : decode cL_law 512 = .ok (.ireturn, 1) := by decide +kernel
theorem dL_law_513 : decode cL_law 513 = .ok (.goto 961, 3) := by decide +kernel
theorem dL_law_516 : decode cL_law 516 = .ok (.aload_n 1, 1) := by decide +kernel
theorem dL_law_517 : decode cL_law 517 = .ok (.invokevirtual 111, 3) := by decide +kernel
theorem dL_law_520 : decode cL_law 520 = .ok (.aload_n 2, 1) := by decide +kernel
theorem dL_law_521 : decode cL_law 521 = .ok (.invokevirtual 114, 3) := by decide +kernel
theorem dL_law_524 : decode cL_law 524 = .ok (.if_icmp .eq 950, 3) := by decide +kernel
theorem dL_law_527 : decode cL_law 527 = .ok (.iconst 0, 1) := by decide +kernel
theorem dL_law_528 : decode cL_law 528 = .ok (.ireturn, 1) := by decide +kernel
theorem dL_law_529 : decode cL_law 529 = .ok (.aload_n 1, 1) := by decide +kernel
theorem dL_law_530 : decode cL_law 530 = .ok (.aload_n 0, 1) := by decide +kernel
theorem dL_law_531 : decode cL_law 531 = .ok (.iload 4, 2) := by decide +kernel
theorem dL_law_533 : decode cL_law 533 = .ok (.iconst 1, 1) := by decide +kernel
theorem dL_law_534 : decode cL_law 534 = .ok (.iadd, 1) := by decide +kernel
theorem dL_law_535 : decode cL_law 535 = .ok (.iaload, 1) := by decide +kernel
theorem dL_law_536 : decode cL_law 536 = .ok (.aload_n 0, 1) := by decide +kernel
theorem dL_law_537 : decode cL_law 537 = .ok (.iload 4, 2) := by decide +kernel
theorem dL_law_539 : decode cL_law 539 = .ok (.iconst 2, 1) := by decide +kernel
theorem dL_law_540 : decode cL_law 540 = .ok (.iadd, 1) := by decide +kernel
theorem dL_law_541 : decode cL_law 541 = .ok (.iaload, 1) := by decide +kernel
theorem dL_law_542 : decode cL_law 542 = .ok (.aload_n 3, 1) := by decide +kernel
theorem dL_law_543 : decode cL_law 543 = .ok (.invokestatic 115, 3) := by decide +kernel
theorem dL_law_546 : decode cL_law 546 = .ok (.istore 5, 2) := by decide +kernel
theorem dL_law_548 : decode cL_law 548 = .ok (.aload_n 2, 1) := by decide +kernel
theorem dL_law_549 : decode cL_law 549 = .ok (.aload_n 0, 1) := by decide +kernel
theorem dL_law_550 : decode cL_law 550 = .ok (.iload 4, 2) := by decide +kernel
theorem dL_law_552 : decode cL_law 552 = .ok (.iconst 1, 1) := by decide +kernel
theorem dL_law_553 : decode cL_law 553 = .ok (.iadd, 1) := by decide +kernel
theorem dL_law_554 : decode cL_law 554 = .ok (.iaload, 1) := by decide +kernel
theorem dL_law_555 : decode cL_law 555 = .ok (.aload_n 0, 1) := by decide +kernel
theorem dL_law_556 : decode cL_law 556 = .ok (.iload 4, 2) := by decide +kernel
theorem dL_law_558 : decode cL_law 558 = .ok (.iconst 2, 1) := by decide +kernel
theorem dL_law_559 : decode cL_law 559 = .ok (.iadd, 1) := by decide +kernel
theorem dL_law_560 : decode cL_law 560 = .ok (.iaload, 1) := by decide +kernel
theorem dL_law_561 : decode cL_law 561 = .ok (.invokevirtual 117, 3) := by decide +kernel
theorem dL_law_564 : decode cL_law 564 = .ok (.istore 6, 2) := by decide +kernel
theorem dL_law_566 : decode cL_law 566 = .ok (.aload_n 2, 1) := by decide +kernel
theorem dL_law_567 : decode cL_law 567 = .ok (.invokevirtual 91, 3) := by decide +kernel
theorem dL_law_570 : decode cL_law 570 = .ok (.iload 5, 2) := by decide +kernel
theorem dL_law_572 : decode cL_law 572 = .ok (.if_icmp .eq 5, 3) := by decide +kernel
theorem dL_law_575 : decode cL_law 575 = .ok (.iconst 0, 1) := by decide +kernel
theorem dL_law_576 : decode cL_law 576 = .ok (.ireturn, 1) := by decide +kernel
theorem dL_law_577 : decode cL_law 577 = .ok (.iload 5, 2) := by decide +kernel
theorem dL_law_579 : decode cL_law 579 = .ok (.ifCond .ne 15, 3) := by decide +kernel
theorem dL_law_582 : decode cL_law 582 = .ok (.aload_n 3, 1) := by decide +kernel
theorem dL_law_583 : decode cL_law 583 = .ok (.iconst 0, 1) := by decide +kernel
theorem dL_law_584 : decode cL_law 584 = .ok (.laload, 1) := by decide +kernel
theorem dL_law_585 : decode cL_law 585 = .ok (.iload 6, 2) := by decide +kernel
theorem dL_law_587 : decode cL_law 587 = .ok (.i2l, 1) := by decide +kernel
theorem dL_law_588 : decode cL_law 588 = .ok (.lcmp, 1) := by decide +kernel
theorem dL_law_589 : decode cL_law 589 = .ok (.ifCond .eq 5, 3) := by decide +kernel
theorem dL_law_592 : decode cL_law 592 = .ok (.iconst 0, 1) := by decide +kernel
theorem dL_law_593 : decode cL_law 593 = .ok (.ireturn, 1) := by decide +kernel
theorem dL_law_594 : decode cL_law 594 = .ok (.goto 880, 3) := by decide +kernel
theorem dL_law_597 : decode cL_law 597 = .ok (.aload_n 1, 1) := by decide +kernel
theorem dL_law_598 : decode cL_law 598 = .ok (.aload_n 0, 1) := by decide +kernel
theorem dL_law_599 : decode cL_law 599 = .ok (.iload 4, 2) := by decide +kernel
theorem dL_law_601 : decode cL_law 601 = .ok (.iconst 1, 1) := by decide +kernel
theorem dL_law_602 : decode cL_law 602 = .ok (.iadd, 1) := by decide +kernel
theorem dL_law_603 : decode cL_law 603 = .ok (.iaload, 1) := by decide +kernel
theorem dL_law_604 : decode cL_law 604 = .ok (.aload_n 3, 1) := by decide +kernel
theorem dL_law_605 : decode cL_law 605 = .ok (.invokestatic 118, 3) := by decide +kernel
theorem dL_law_608 : decode cL_law 608 = .ok (.istore 5, 2) := by decide +kernel
theorem dL_law_610 : decode cL_law 610 = .ok (.aload_n 2, 1) := by decide +kernel
theorem dL_law_611 : decode cL_law 611 = .ok (.aload_n 0, 1) := by decide +kernel
theorem dL_law_612 : decode cL_law 612 = .ok (.iload 4, 2) := by decide +kernel
theorem dL_law_614 : decode cL_law 614 = .ok (.iconst 1, 1) := by decide +kernel
theorem dL_law_615 : decode cL_law 615 = .ok (.iadd, 1) := by decide +kernel
theorem dL_law_616 : decode cL_law 616 = .ok (.iaload, 1) := by decide +kernel
theorem dL_law_617 : decode cL_law 617 = .ok (.invokevirtual 120, 3) := by decide +kernel
theorem dL_law_620 : decode cL_law 620 = .ok (.istore 6, 2) := by decide +kernel
theorem dL_law_622 : decode cL_law 622 = .ok (.aload_n 2, 1) := by decide +kernel
theorem dL_law_623 : decode cL_law 623 = .ok (.invokevirtual 91, 3) := by decide +kernel
theorem dL_law_626 : decode cL_law 626 = .ok (.iload 5, 2) := by decide +kernel
theorem dL_law_628 : decode cL_law 628 = .ok (.if_icmp .eq 5, 3) := by decide +kernel
theorem dL_law_631 : decode cL_law 631 = .ok (.iconst 0, 1) := by decide +kernel
theorem dL_law_632 : decode cL_law 632 = .ok (.ireturn, 1) := by decide +kernel
theorem dL_law_633 : decode cL_law 633 = .ok (.iload 5, 2) := by decide +kernel
theorem dL_law_635 : decode cL_law 635 = .ok (.ifCond .ne 15, 3) := by decide +kernel
theorem dL_law_638 : decode cL_law 638 = .ok (.aload_n 3, 1) := by decide +kernel
theorem dL_law_639 : decode cL_law 639 = .ok (.iconst 0, 1) := by decide +kernel
theorem dL_law_640 : decode cL_law 640 = .ok (.laload, 1) := by decide +kernel
theorem dL_law_641 : decode cL_law 641 = .ok (.iload 6, 2) := by decide +kernel
theorem dL_law_643 : decode cL_law 643 = .ok (.i2l, 1) := by decide +kernel
theorem dL_law_644 : decode cL_law 644 = .ok (.lcmp, 1) := by decide +kernel
theorem dL_law_645 : decode cL_law 645 = .ok (.ifCond .eq 5, 3) := by decide +kernel
theorem dL_law_648 : decode cL_law 648 = .ok (.iconst 0, 1) := by decide +kernel
theorem dL_law_649 : decode cL_law 649 = .ok (.ireturn, 1) := by decide +kernel
theorem dL_law_650 : decode cL_law 650 = .ok (.goto 824, 3) := by decide +kernel
theorem dL_law_653 : decode cL_law 653 = .ok (.aload_n 1, 1) := by decide +kernel
theorem dL_law_654 : decode cL_law 654 = .ok (.invokevirtual 121, 3) := by decide +kernel
theorem dL_law_657 : decode cL_law 657 = .ok (.aload_n 2, 1) := by decide +kernel
theorem dL_law_658 : decode cL_law 658 = .ok (.invokevirtual 124, 3) := by decide +kernel
theorem dL_law_661 : decode cL_law 661 = .ok (.if_icmp .eq 813, 3) := by decide +kernel
theorem dL_law_664 : decode cL_law 664 = .ok (.iconst 0, 1) := by decide +kernel
theorem dL_law_665 : decode cL_law 665 = .ok (.ireturn, 1) := by decide +kernel
theorem dL_law_666 : decode cL_law 666 = .ok (.aload_n 1, 1) := by decide +kernel
theorem dL_law_667 : decode cL_law 667 = .ok (.aload_n 0, 1) := by decide +kernel
theorem dL_law_668 : decode cL_law 668 = .ok (.iload 4, 2) := by decide +kernel
theorem dL_law_670 : decode cL_law 670 = .ok (.iconst 1, 1) := by decide +kernel
theorem dL_law_671 : decode cL_law 671 = .ok (.iadd, 1) := by decide +kernel
theorem dL_law_672 : decode cL_law 672 = .ok (.iaload, 1) := by decide +kernel
theorem dL_law_673 : decode cL_law 673 = .ok (.aload_n 0, 1) := by decide +kernel
theorem dL_law_674 : decode cL_law 674 = .ok (.iload 4, 2) := by decide +kernel
theorem dL_law_676 : decode cL_law 676 = .ok (.iconst 2, 1) := by decide +kernel
theorem dL_law_677 : decode cL_law 677 = .ok (.iadd, 1) := by decide +kernel
theorem dL_law_678 : decode cL_law 678 = .ok (.iaload, 1) := by decide +kernel
theorem dL_law_679 : decode cL_law 679 = .ok (.aload_n 3, 1) := by decide +kernel
theorem dL_law_680 : decode cL_law 680 = .ok (.invokestatic 125, 3) := by decide +kernel
theorem dL_law_683 : decode cL_law 683 = .ok (.istore 5, 2) := by decide +kernel
theorem dL_law_685 : decode cL_law 685 = .ok (.aload_n 2, 1) := by decide +kernel
theorem dL_law_686 : decode cL_law 686 = .ok (.aload_n 0, 1) := by decide +kernel
theorem dL_law_687 : decode cL_law 687 = .ok (.iload 4, 2) := by decide +kernel
theorem dL_law_689 : decode cL_law 689 = .ok (.iconst 1, 1) := by decide +kernel
theorem dL_law_690 : decode cL_law 690 = .ok (.iadd, 1) := by decide +kernel
theorem dL_law_691 : decode cL_law 691 = .ok (.iaload, 1) := by decide +kernel
theorem dL_law_692 : decode cL_law 692 = .ok (.aload_n 0, 1) := by decide +kernel
theorem dL_law_693 : decode cL_law 693 = .ok (.iload 4, 2) := by decide +kernel
theorem dL_law_695 : decode cL_law 695 = .ok (.iconst 2, 1) := by decide +kernel
theorem dL_law_696 : decode cL_law 696 = .ok (.iadd, 1) := by decide +kernel
theorem dL_law_697 : decode cL_law 697 = .ok (.iaload, 1) := by decide +kernel
theorem dL_law_698 : decode cL_law 698 = .ok (.invokevirtual 127, 3) := by decide +kernel
theorem dL_law_701 : decode cL_law 701 = .ok (.istore 6, 2) := by decide +kernel
theorem dL_law_703 : decode cL_law 703 = .ok (.aload_n 2, 1) := by decide +kernel
theorem dL_law_704 : decode cL_law 704 = .ok (.invokevirtual 91, 3) := by decide +kernel
theorem dL_law_707 : decode cL_law 707 = .ok (.iload 5, 2) := by decide +kernel
theorem dL_law_709 : decode cL_law 709 = .ok (.if_icmp .eq 5, 3) := by decide +kernel
theorem dL_law_712 : decode cL_law 712 = .ok (.iconst 0, 1) := by decide +kernel
theorem dL_law_713 : decode cL_law 713 = .ok (.ireturn, 1) := by decide +kernel
theorem dL_law_714 : decode cL_law 714 = .ok (.iload 5, 2) := by decide +kernel
theorem dL_law_716 : decode cL_law 716 = .ok (.ifCond .ne 15, 3) := by decide +kernel
theorem dL_law_719 : decode cL_law 719 = .ok (.aload_n 3, 1) := by decide +kernel
theorem dL_law_720 : decode cL_law 720 = .ok (.iconst 0, 1) := by decide +kernel
theorem dL_law_721 : decode cL_law 721 = .ok (.laload, 1) := by decide +kernel
theorem dL_law_722 : decode cL_law 722 = .ok (.iload 6, 2) := by decide +kernel
theorem dL_law_724 : decode cL_law 724 = .ok (.i2l, 1) := by decide +kernel
theorem dL_law_725 : decode cL_law 725 = .ok (.lcmp, 1) := by decide +kernel
theorem dL_law_726 : decode cL_law 726 = .ok (.ifCond .eq 5, 3) := by decide +kernel
theorem dL_law_729 : decode cL_law 729 = .ok (.iconst 0, 1) := by decide +kernel
theorem dL_law_730 : decode cL_law 730 = .ok (.ireturn, 1) := by decide +kernel
theorem dL_law_731 : decode cL_law 731 = .ok (.goto 743, 3) := by decide +kernel
theorem dL_law_734 : decode cL_law 734 = .ok (.aload_n 1, 1) := by decide +kernel
theorem dL_law_735 : decode cL_law 735 = .ok (.aload_n 0, 1) := by decide +kernel
theorem dL_law_736 : decode cL_law 736 = .ok (.iload 4, 2) := by decide +kernel
theorem dL_law_738 : decode cL_law 738 = .ok (.iconst 1, 1) := by decide +kernel
theorem dL_law_739 : decode cL_law 739 = .ok (.iadd, 1) := by decide +kernel
theorem dL_law_740 : decode cL_law 740 = .ok (.iaload, 1) := by decide +kernel
theorem dL_law_741 : decode cL_law 741 = .ok (.aload_n 0, 1) := by decide +kernel
theorem dL_law_742 : decode cL_law 742 = .ok (.iload 4, 2) := by decide +kernel
theorem dL_law_744 : decode cL_law 744 = .ok (.iconst 2, 1) := by decide +kernel
theorem dL_law_745 : decode cL_law 745 = .ok (.iadd, 1) := by decide +kernel
theorem dL_law_746 : decode cL_law 746 = .ok (.iaload, 1) := by decide +kernel
theorem dL_law_747 : decode cL_law 747 = .ok (.aload_n 3, 1) := by decide +kernel
theorem dL_law_748 : decode cL_law 748 = .ok (.invokestatic 128, 3) := by decide +kernel
theorem dL_law_751 : decode cL_law 751 = .ok (.istore 5, 2) := by decide +kernel
theorem dL_law_753 : decode cL_law 753 = .ok (.aload_n 2, 1) := by decide +kernel
theorem dL_law_754 : decode cL_law 754 = .ok (.aload_n 0, 1) := by decide +kernel
theorem dL_law_755 : decode cL_law 755 = .ok (.iload 4, 2) := by decide +kernel
theorem dL_law_757 : decode cL_law 757 = .ok (.iconst 1, 1) := by decide +kernel
theorem dL_law_758 : decode cL_law 758 = .ok (.iadd, 1) := by decide +kernel
theorem dL_law_759 : decode cL_law 759 = .ok (.iaload, 1) := by decide +kernel
theorem dL_law_760 : decode cL_law 760 = .ok (.aload_n 0, 1) := by decide +kernel
theorem dL_law_761 : decode cL_law 761 = .ok (.iload 4, 2) := by decide +kernel
theorem dL_law_763 : decode cL_law 763 = .ok (.iconst 2, 1) := by decide +kernel
theorem dL_law_764 : decode cL_law 764 = .ok (.iadd, 1) := by decide +kernel
theorem dL_law_765 : decode cL_law 765 = .ok (.iaload, 1) := by decide +kernel
theorem dL_law_766 : decode cL_law 766 = .ok (.invokevirtual 130, 3) := by decide +kernel
theorem dL_law_769 : decode cL_law 769 = .ok (.istore 6, 2) := by decide +kernel
theorem dL_law_771 : decode cL_law 771 = .ok (.aload_n 2, 1) := by decide +kernel
theorem dL_law_772 : decode cL_law 772 = .ok (.invokevirtual 91, 3) := by decide +kernel
theorem dL_law_775 : decode cL_law 775 = .ok (.iload 5, 2) := by decide +kernel
theorem dL_law_777 : decode cL_law 777 = .ok (.if_icmp .eq 5, 3) := by decide +kernel
theorem dL_law_780 : decode cL_law 780 = .ok (.iconst 0, 1) := by decide +kernel
theorem dL_law_781 : decode cL_law 781 = .ok (.ireturn, 1) := by decide +kernel
theorem dL_law_782 : decode cL_law 782 = .ok (.iload 5, 2) := by decide +kernel
theorem dL_law_784 : decode cL_law 784 = .ok (.ifCond .ne 15, 3) := by decide +kernel
theorem dL_law_787 : decode cL_law 787 = .ok (.aload_n 3, 1) := by decide +kernel
theorem dL_law_788 : decode cL_law 788 = .ok (.iconst 0, 1) := by decide +kernel
theorem dL_law_789 : decode cL_law 789 = .ok (.laload, 1) := by decide +kernel
theorem dL_law_790 : decode cL_law 790 = .ok (.iload 6, 2) := by decide +kernel
theorem dL_law_792 : decode cL_law 792 = .ok (.i2l, 1) := by decide +kernel
theorem dL_law_793 : decode cL_law 793 = .ok (.lcmp, 1) := by decide +kernel
theorem dL_law_794 : decode cL_law 794 = .ok (.ifCond .eq 5, 3) := by decide +kernel
theorem dL_law_797 : decode cL_law 797 = .ok (.iconst 0, 1) := by decide +kernel
theorem dL_law_798 : decode cL_law 798 = .ok (.ireturn, 1) := by decide +kernel
theorem dL_law_799 : decode cL_law 799 = .ok (.goto 675, 3) := by decide +kernel
theorem dL_law_802 : decode cL_law 802 = .ok (.aload_n 1, 1) := by decide +kernel
theorem dL_law_803 : decode cL_law 803 = .ok (.aload_n 0, 1) := by decide +kernel
theorem dL_law_804 : decode cL_law 804 = .ok (.iload 4, 2) := by decide +kernel
theorem dL_law_806 : decode cL_law 806 = .ok (.iconst 1, 1) := by decide +kernel
theorem dL_law_807 : decode cL_law 807 = .ok (.iadd, 1) := by decide +kernel
theorem dL_law_808 : decode cL_law 808 = .ok (.iaload, 1) := by decide +kernel
theorem dL_law_809 : decode cL_law 809 = .ok (.aload_n 0, 1) := by decide +kernel
theorem dL_law_810 : decode cL_law 810 = .ok (.iload 4, 2) := by decide +kernel
theorem dL_law_812 : decode cL_law 812 = .ok (.iconst 2, 1) := by decide +kernel
theorem dL_law_813 : decode cL_law 813 = .ok (.iadd, 1) := by decide +kernel
theorem dL_law_814 : decode cL_law 814 = .ok (.iaload, 1) := by decide +kernel
theorem dL_law_815 : decode cL_law 815 = .ok (.aload_n 3, 1) := by decide +kernel
theorem dL_law_816 : decode cL_law 816 = .ok (.invokestatic 131, 3) := by decide +kernel
theorem dL_law_819 : decode cL_law 819 = .ok (.istore 5, 2) := by decide +kernel
theorem dL_law_821 : decode cL_law 821 = .ok (.aload_n 2, 1) := by decide +kernel
theorem dL_law_822 : decode cL_law 822 = .ok (.aload_n 0, 1) := by decide +kernel
theorem dL_law_823 : decode cL_law 823 = .ok (.iload 4, 2) := by decide +kernel
theorem dL_law_825 : decode cL_law 825 = .ok (.iconst 1, 1) := by decide +kernel
theorem dL_law_826 : decode cL_law 826 = .ok (.iadd, 1) := by decide +kernel
theorem dL_law_827 : decode cL_law 827 = .ok (.iaload, 1) := by decide +kernel
theorem dL_law_828 : decode cL_law 828 = .ok (.aload_n 0, 1) := by decide +kernel
theorem dL_law_829 : decode cL_law 829 = .ok (.iload 4, 2) := by decide +kernel
theorem dL_law_831 : decode cL_law 831 = .ok (.iconst 2, 1) := by decide +kernel
theorem dL_law_832 : decode cL_law 832 = .ok (.iadd, 1) := by decide +kernel
theorem dL_law_833 : decode cL_law 833 = .ok (.iaload, 1) := by decide +kernel
theorem dL_law_834 : decode cL_law 834 = .ok (.invokevirtual 133, 3) := by decide +kernel
theorem dL_law_837 : decode cL_law 837 = .ok (.istore 6, 2) := by decide +kernel
theorem dL_law_839 : decode cL_law 839 = .ok (.aload_n 2, 1) := by decide +kernel
theorem dL_law_840 : decode cL_law 840 = .ok (.invokevirtual 91, 3) := by decide +kernel
theorem dL_law_843 : decode cL_law 843 = .ok (.iload 5, 2) := by decide +kernel
theorem dL_law_845 : decode cL_law 845 = .ok (.if_icmp .eq 5, 3) := by decide +kernel
theorem dL_law_848 : decode cL_law 848 = .ok (.iconst 0, 1) := by decide +kernel
theorem dL_law_849 : decode cL_law 849 = .ok (.ireturn, 1) := by decide +kernel
theorem dL_law_850 : decode cL_law 850 = .ok (.iload 5, 2) := by decide +kernel
theorem dL_law_852 : decode cL_law 852 = .ok (.ifCond .ne 15, 3) := by decide +kernel
theorem dL_law_855 : decode cL_law 855 = .ok (.aload_n 3, 1) := by decide +kernel
theorem dL_law_856 : decode cL_law 856 = .ok (.iconst 0, 1) := by decide +kernel
theorem dL_law_857 : decode cL_law 857 = .ok (.laload, 1) := by decide +kernel
theorem dL_law_858 : decode cL_law 858 = .ok (.iload 6, 2) := by decide +kernel
theorem dL_law_860 : decode cL_law 860 = .ok (.i2l, 1) := by decide +kernel
theorem dL_law_861 : decode cL_law 861 = .ok (.lcmp, 1) := by decide +kernel
theorem dL_law_862 : decode cL_law 862 = .ok (.ifCond .eq 5, 3) := by decide +kernel
theorem dL_law_865 : decode cL_law 865 = .ok (.iconst 0, 1) := by decide +kernel
theorem dL_law_866 : decode cL_law 866 = .ok (.ireturn, 1) := by decide +kernel
theorem dL_law_867 : decode cL_law 867 = .ok (.goto 607, 3) := by decide +kernel
theorem dL_law_870 : decode cL_law 870 = .ok (.aload_n 1, 1) := by decide +kernel
theorem dL_law_871 : decode cL_law 871 = .ok (.aload_n 0, 1) := by decide +kernel
theorem dL_law_872 : decode cL_law 872 = .ok (.iload 4, 2) := by decide +kernel
theorem dL_law_874 : decode cL_law 874 = .ok (.iconst 1, 1) := by decide +kernel
theorem dL_law_875 : decode cL_law 875 = .ok (.iadd, 1) := by decide +kernel
theorem dL_law_876 : decode cL_law 876 = .ok (.iaload, 1) := by decide +kernel
theorem dL_law_877 : decode cL_law 877 = .ok (.aload_n 0, 1) := by decide +kernel
theorem dL_law_878 : decode cL_law 878 = .ok (.iload 4, 2) := by decide +kernel
theorem dL_law_880 : decode cL_law 880 = .ok (.iconst 2, 1) := by decide +kernel
theorem dL_law_881 : decode cL_law 881 = .ok (.iadd, 1) := by decide +kernel
theorem dL_law_882 : decode cL_law 882 = .ok (.iaload, 1) := by decide +kernel
theorem dL_law_883 : decode cL_law 883 = .ok (.aload_n 0, 1) := by decide +kernel
theorem dL_law_884 : decode cL_law 884 = .ok (.iload 4, 2) := by decide +kernel
theorem dL_law_886 : decode cL_law 886 = .ok (.iconst 3, 1) := by decide +kernel
theorem dL_law_887 : decode cL_law 887 = .ok (.iadd, 1) := by decide +kernel
theorem dL_law_888 : decode cL_law 888 = .ok (.iaload, 1) := by decide +kernel
theorem dL_law_889 : decode cL_law 889 = .ok (.aload_n 3, 1) := by decide +kernel
theorem dL_law_890 : decode cL_law 890 = .ok (.invokestatic 134, 3) := by decide +kernel
theorem dL_law_893 : decode cL_law 893 = .ok (.istore 5, 2) := by decide +kernel
theorem dL_law_895 : decode cL_law 895 = .ok (.aload_n 2, 1) := by decide +kernel
theorem dL_law_896 : decode cL_law 896 = .ok (.aload_n 0, 1) := by decide +kernel
theorem dL_law_897 : decode cL_law 897 = .ok (.iload 4, 2) := by decide +kernel
theorem dL_law_899 : decode cL_law 899 = .ok (.iconst 1, 1) := by decide +kernel
theorem dL_law_900 : decode cL_law 900 = .ok (.iadd, 1) := by decide +kernel
theorem dL_law_901 : decode cL_law 901 = .ok (.iaload, 1) := by decide +kernel
theorem dL_law_902 : decode cL_law 902 = .ok (.aload_n 0, 1) := by decide +kernel
theorem dL_law_903 : decode cL_law 903 = .ok (.iload 4, 2) := by decide +kernel
theorem dL_law_905 : decode cL_law 905 = .ok (.iconst 2, 1) := by decide +kernel
theorem dL_law_906 : decode cL_law 906 = .ok (.iadd, 1) := by decide +kernel
theorem dL_law_907 : decode cL_law 907 = .ok (.iaload, 1) := by decide +kernel
theorem dL_law_908 : decode cL_law 908 = .ok (.aload_n 0, 1) := by decide +kernel
theorem dL_law_909 : decode cL_law 909 = .ok (.iload 4, 2) := by decide +kernel
theorem dL_law_911 : decode cL_law 911 = .ok (.iconst 3, 1) := by decide +kernel
theorem dL_law_912 : decode cL_law 912 = .ok (.iadd, 1) := by decide +kernel
theorem dL_law_913 : decode cL_law 913 = .ok (.iaload, 1) := by decide +kernel
theorem dL_law_914 : decode cL_law 914 = .ok (.invokevirtual 136, 3) := by decide +kernel
theorem dL_law_917 : decode cL_law 917 = .ok (.istore 6, 2) := by decide +kernel
theorem dL_law_919 : decode cL_law 919 = .ok (.aload_n 2, 1) := by decide +kernel
theorem dL_law_920 : decode cL_law 920 = .ok (.invokevirtual 91, 3) := by decide +kernel
theorem dL_law_923 : decode cL_law 923 = .ok (.iload 5, 2) := by decide +kernel
theorem dL_law_925 : decode cL_law 925 = .ok (.if_icmp .eq 5, 3) := by decide +kernel
theorem dL_law_928 : decode cL_law 928 = .ok (.iconst 0, 1) := by decide +kernel
theorem dL_law_929 : decode cL_law 929 = .ok (.ireturn, 1) := by decide +kernel
theorem dL_law_930 : decode cL_law 930 = .ok (.iload 5, 2) := by decide +kernel
theorem dL_law_932 : decode cL_law 932 = .ok (.ifCond .ne 15, 3) := by decide +kernel
theorem dL_law_935 : decode cL_law 935 = .ok (.aload_n 3, 1) := by decide +kernel
theorem dL_law_936 : decode cL_law 936 = .ok (.iconst 0, 1) := by decide +kernel
theorem dL_law_937 : decode cL_law 937 = .ok (.laload, 1) := by decide +kernel
theorem dL_law_938 : decode cL_law 938 = .ok (.iload 6, 2) := by decide +kernel
theorem dL_law_940 : decode cL_law 940 = .ok (.i2l, 1) := by decide +kernel
theorem dL_law_941 : decode cL_law 941 = .ok (.lcmp, 1) := by decide +kernel
theorem dL_law_942 : decode cL_law 942 = .ok (.ifCond .eq 5, 3) := by decide +kernel
theorem dL_law_945 : decode cL_law 945 = .ok (.iconst 0, 1) := by decide +kernel
theorem dL_law_946 : decode cL_law 946 = .ok (.ireturn, 1) := by decide +kernel
theorem dL_law_947 : decode cL_law 947 = .ok (.goto 527, 3) := by decide +kernel
theorem dL_law_950 : decode cL_law 950 = .ok (.aload_n 1, 1) := by decide +kernel
theorem dL_law_951 : decode cL_law 951 = .ok (.aload_n 0, 1) := by decide +kernel
theorem dL_law_952 : decode cL_law 952 = .ok (.iload 4, 2) := by decide +kernel
theorem dL_law_954 : decode cL_law 954 = .ok (.iconst 1, 1) := by decide +kernel
theorem dL_law_955 : decode cL_law 955 = .ok (.iadd, 1) := by decide +kernel
theorem dL_law_956 : decode cL_law 956 = .ok (.iaload, 1) := by decide +kernel
theorem dL_law_957 : decode cL_law 957 = .ok (.aload_n 0, 1) := by decide +kernel
theorem dL_law_958 : decode cL_law 958 = .ok (.iload 4, 2) := by decide +kernel
theorem dL_law_960 : decode cL_law 960 = .ok (.iconst 2, 1) := by decide +kernel
theorem dL_law_961 : decode cL_law 961 = .ok (.iadd, 1) := by decide +kernel
theorem dL_law_962 : decode cL_law 962 = .ok (.iaload, 1) := by decide +kernel
theorem dL_law_963 : decode cL_law 963 = .ok (.aload_n 3, 1) := by decide +kernel
theorem dL_law_964 : decode cL_law 964 = .ok (.invokestatic 137, 3) := by decide +kernel
theorem dL_law_967 : decode cL_law 967 = .ok (.istore 5, 2) := by decide +kernel
theorem dL_law_969 : decode cL_law 969 = .ok (.aload_n 2, 1) := by decide +kernel
theorem dL_law_970 : decode cL_law 970 = .ok (.aload_n 0, 1) := by decide +kernel
theorem dL_law_971 : decode cL_law 971 = .ok (.iload 4, 2) := by decide +kernel
theorem dL_law_973 : decode cL_law 973 = .ok (.iconst 1, 1) := by decide +kernel
theorem dL_law_974 : decode cL_law 974 = .ok (.iadd, 1) := by decide +kernel
theorem dL_law_975 : decode cL_law 975 = .ok (.iaload, 1) := by decide +kernel
theorem dL_law_976 : decode cL_law 976 = .ok (.aload_n 0, 1) := by decide +kernel
theorem dL_law_977 : decode cL_law 977 = .ok (.iload 4, 2) := by decide +kernel
theorem dL_law_979 : decode cL_law 979 = .ok (.iconst 2, 1) := by decide +kernel
theorem dL_law_980 : decode cL_law 980 = .ok (.iadd, 1) := by decide +kernel
theorem dL_law_981 : decode cL_law 981 = .ok (.iaload, 1) := by decide +kernel
theorem dL_law_982 : decode cL_law 982 = .ok (.invokevirtual 139, 3) := by decide +kernel
theorem dL_law_985 : decode cL_law 985 = .ok (.istore 6, 2) := by decide +kernel
theorem dL_law_987 : decode cL_law 987 = .ok (.aload_n 2, 1) := by decide +kernel
theorem dL_law_988 : decode cL_law 988 = .ok (.invokevirtual 91, 3) := by decide +kernel
theorem dL_law_991 : decode cL_law 991 = .ok (.iload 5, 2) := by decide +kernel
theorem dL_law_993 : decode cL_law 993 = .ok (.if_icmp .eq 5, 3) := by decide +kernel
theorem dL_law_996 : decode cL_law 996 = .ok (.iconst 0, 1) := by decide +kernel
theorem dL_law_997 : decode cL_law 997 = .ok (.ireturn, 1) := by decide +kernel
theorem dL_law_998 : decode cL_law 998 = .ok (.iload 5, 2) := by decide +kernel
theorem dL_law_1000 : decode cL_law 1000 = .ok (.ifCond .ne 15, 3) := by decide +kernel
theorem dL_law_1003 : decode cL_law 1003 = .ok (.aload_n 3, 1) := by decide +kernel
theorem dL_law_1004 : decode cL_law 1004 = .ok (.iconst 0, 1) := by decide +kernel
theorem dL_law_1005 : decode cL_law 1005 = .ok (.laload, 1) := by decide +kernel
theorem dL_law_1006 : decode cL_law 1006 = .ok (.iload 6, 2) := by decide +kernel
theorem dL_law_1008 : decode cL_law 1008 = .ok (.i2l, 1) := by decide +kernel
theorem dL_law_1009 : decode cL_law 1009 = .ok (.lcmp, 1) := by decide +kernel
theorem dL_law_1010 : decode cL_law 1010 = .ok (.ifCond .eq 5, 3) := by decide +kernel
theorem dL_law_1013 : decode cL_law 1013 = .ok (.iconst 0, 1) := by decide +kernel
theorem dL_law_1014 : decode cL_law 1014 = .ok (.ireturn, 1) := by decide +kernel
theorem dL_law_1015 : decode cL_law 1015 = .ok (.goto 459, 3) := by decide +kernel
theorem dL_law_1018 : decode cL_law 1018 = .ok (.aload_n 1, 1) := by decide +kernel
theorem dL_law_1019 : decode cL_law 1019 = .ok (.aload_n 0, 1) := by decide +kernel
theorem dL_law_1020 : decode cL_law 1020 = .ok (.iload 4, 2) := by decide +kernel
theorem dL_law_1022 : decode cL_law 1022 = .ok (.iconst 1, 1) := by decide +kernel
theorem dL_law_1023 : decode cL_law 1023 = .ok (.iadd, 1) := by decide +kernel
theorem dL_law_1024 : decode cL_law 1024 = .ok (.iaload, 1) := by decide +kernel
theorem dL_law_1025 : decode cL_law 1025 = .ok (.aload_n 0, 1) := by decide +kernel
theorem dL_law_1026 : decode cL_law 1026 = .ok (.iload 4, 2) := by decide +kernel
theorem dL_law_1028 : decode cL_law 1028 = .ok (.iconst 2, 1) := by decide +kernel
theorem dL_law_1029 : decode cL_law 1029 = .ok (.iadd, 1) := by decide +kernel
theorem dL_law_1030 : decode cL_law 1030 = .ok (.iaload, 1) := by decide +kernel
theorem dL_law_1031 : decode cL_law 1031 = .ok (.aload_n 3, 1) := by decide +kernel
theorem dL_law_1032 : decode cL_law 1032 = .ok (.invokestatic 140, 3) := by decide +kernel
theorem dL_law_1035 : decode cL_law 1035 = .ok (.istore 5, 2) := by decide +kernel
theorem dL_law_1037 : decode cL_law 1037 = .ok (.aload_n 2, 1) := by decide +kernel
theorem dL_law_1038 : decode cL_law 1038 = .ok (.aload_n 0, 1) := by decide +kernel
theorem dL_law_1039 : decode cL_law 1039 = .ok (.iload 4, 2) := by decide +kernel
theorem dL_law_1041 : decode cL_law 1041 = .ok (.iconst 1, 1) := by decide +kernel
theorem dL_law_1042 : decode cL_law 1042 = .ok (.iadd, 1) := by decide +kernel
theorem dL_law_1043 : decode cL_law 1043 = .ok (.iaload, 1) := by decide +kernel
theorem dL_law_1044 : decode cL_law 1044 = .ok (.aload_n 0, 1) := by decide +kernel
theorem dL_law_1045 : decode cL_law 1045 = .ok (.iload 4, 2) := by decide +kernel
theorem dL_law_1047 : decode cL_law 1047 = .ok (.iconst 2, 1) := by decide +kernel
theorem dL_law_1048 : decode cL_law 1048 = .ok (.iadd, 1) := by decide +kernel
theorem dL_law_1049 : decode cL_law 1049 = .ok (.iaload, 1) := by decide +kernel
theorem dL_law_1050 : decode cL_law 1050 = .ok (.invokevirtual 142, 3) := by decide +kernel
theorem dL_law_1053 : decode cL_law 1053 = .ok (.istore 6, 2) := by decide +kernel
theorem dL_law_1055 : decode cL_law 1055 = .ok (.aload_n 2, 1) := by decide +kernel
theorem dL_law_1056 : decode cL_law 1056 = .ok (.invokevirtual 91, 3) := by decide +kernel
theorem dL_law_1059 : decode cL_law 1059 = .ok (.iload 5, 2) := by decide +kernel
theorem dL_law_1061 : decode cL_law 1061 = .ok (.if_icmp .eq 5, 3) := by decide +kernel
theorem dL_law_1064 : decode cL_law 1064 = .ok (.iconst 0, 1) := by decide +kernel
theorem dL_law_1065 : decode cL_law 1065 = .ok (.ireturn, 1) := by decide +kernel
theorem dL_law_1066 : decode cL_law 1066 = .ok (.iload 5, 2) := by decide +kernel
theorem dL_law_1068 : decode cL_law 1068 = .ok (.ifCond .ne 22, 3) := by decide +kernel
theorem dL_law_1071 : decode cL_law 1071 = .ok (.aload_n 3, 1) := by decide +kernel
theorem dL_law_1072 : decode cL_law 1072 = .ok (.iconst 0, 1) := by decide +kernel
theorem dL_law_1073 : decode cL_law 1073 = .ok (.laload, 1) := by decide +kernel
theorem dL_law_1074 : decode cL_law 1074 = .ok (.iload 6, 2) := by decide +kernel
theorem dL_law_1076 : decode cL_law 1076 = .ok (.ifCond .eq 7, 3) := by decide +kernel
theorem dL_law_1079 : decode cL_law 1079 = .ok (.lconst 1, 1) := by decide +kernel
theorem dL_law_1080 : decode cL_law 1080 = .ok (.goto 4, 3) := by decide +kernel
theorem dL_law_1083 : decode cL_law 1083 = .ok (.lconst 0, 1) := by decide +kernel
theorem dL_law_1084 : decode cL_law 1084 = .ok (.lcmp, 1) := by decide +kernel
theorem dL_law_1085 : decode cL_law 1085 = .ok (.ifCond .eq 5, 3) := by decide +kernel
theorem dL_law_1088 : decode cL_law 1088 = .ok (.iconst 0, 1) := by decide +kernel
theorem dL_law_1089 : decode cL_law 1089 = .ok (.ireturn, 1) := by decide +kernel
theorem dL_law_1090 : decode cL_law 1090 = .ok (.goto 384, 3) := by decide +kernel
theorem dL_law_1093 : decode cL_law 1093 = .ok (.aload_n 1, 1) := by decide +kernel
theorem dL_law_1094 : decode cL_law 1094 = .ok (.aload_n 0, 1) := by decide +kernel
theorem dL_law_1095 : decode cL_law 1095 = .ok (.iload 4, 2) := by decide +kernel
theorem dL_law_1097 : decode cL_law 1097 = .ok (.iconst 1, 1) := by decide +kernel
theorem dL_law_1098 : decode cL_law 1098 = .ok (.iadd, 1) := by decide +kernel
theorem dL_law_1099 : decode cL_law 1099 = .ok (.iaload, 1) := by decide +kernel
theorem dL_law_1100 : decode cL_law 1100 = .ok (.aload_n 0, 1) := by decide +kernel
theorem dL_law_1101 : decode cL_law 1101 = .ok (.iload 4, 2) := by decide +kernel
theorem dL_law_1103 : decode cL_law 1103 = .ok (.iconst 2, 1) := by decide +kernel
theorem dL_law_1104 : decode cL_law 1104 = .ok (.iadd, 1) := by decide +kernel
theorem dL_law_1105 : decode cL_law 1105 = .ok (.iaload, 1) := by decide +kernel
theorem dL_law_1106 : decode cL_law 1106 = .ok (.aload_n 0, 1) := by decide +kernel
theorem dL_law_1107 : decode cL_law 1107 = .ok (.iload 4, 2) := by decide +kernel
theorem dL_law_1109 : decode cL_law 1109 = .ok (.iconst 3, 1) := by decide +kernel
theorem dL_law_1110 : decode cL_law 1110 = .ok (.iadd, 1) := by decide +kernel
theorem dL_law_1111 : decode cL_law 1111 = .ok (.iaload, 1) := by decide +kernel
theorem dL_law_1112 : decode cL_law 1112 = .ok (.aload_n 3, 1) := by decide +kernel
theorem dL_law_1113 : decode cL_law 1113 = .ok (.invokestatic 143, 3) := by decide +kernel
theorem dL_law_1116 : decode cL_law 1116 = .ok (.istore 5, 2) := by decide +kernel
theorem dL_law_1118 : decode cL_law 1118 = .ok (.aload_n 2, 1) := by decide +kernel
theorem dL_law_1119 : decode cL_law 1119 = .ok (.aload_n 0, 1) := by decide +kernel
theorem dL_law_1120 : decode cL_law 1120 = .ok (.iload 4, 2) := by decide +kernel
theorem dL_law_1122 : decode cL_law 1122 = .ok (.iconst 1, 1) := by decide +kernel
theorem dL_law_1123 : decode cL_law 1123 = .ok (.iadd, 1) := by decide +kernel
theorem dL_law_1124 : decode cL_law 1124 = .ok (.iaload, 1) := by decide +kernel
theorem dL_law_1125 : decode cL_law 1125 = .ok (.aload_n 0, 1) := by decide +kernel
theorem dL_law_1126 : decode cL_law 1126 = .ok (.iload 4, 2) := by decide +kernel
theorem dL_law_1128 : decode cL_law 1128 = .ok (.iconst 2, 1) := by decide +kernel
theorem dL_law_1129 : decode cL_law 1129 = .ok (.iadd, 1) := by decide +kernel
theorem dL_law_1130 : decode cL_law 1130 = .ok (.iaload, 1) := by decide +kernel
theorem dL_law_1131 : decode cL_law 1131 = .ok (.aload_n 0, 1) := by decide +kernel
theorem dL_law_1132 : decode cL_law 1132 = .ok (.iload 4, 2) := by decide +kernel
theorem dL_law_1134 : decode cL_law 1134 = .ok (.iconst 3, 1) := by decide +kernel
theorem dL_law_1135 : decode cL_law 1135 = .ok (.iadd, 1) := by decide +kernel
theorem dL_law_1136 : decode cL_law 1136 = .ok (.iaload, 1) := by decide +kernel
theorem dL_law_1137 : decode cL_law 1137 = .ok (.invokevirtual 145, 3) := by decide +kernel
theorem dL_law_1140 : decode cL_law 1140 = .ok (.istore 6, 2) := by decide +kernel
theorem dL_law_1142 : decode cL_law 1142 = .ok (.aload_n 2, 1) := by decide +kernel
theorem dL_law_1143 : decode cL_law 1143 = .ok (.invokevirtual 91, 3) := by decide +kernel
theorem dL_law_1146 : decode cL_law 1146 = .ok (.iload 5, 2) := by decide +kernel
theorem dL_law_1148 : decode cL_law 1148 = .ok (.if_icmp .eq 5, 3) := by decide +kernel
theorem dL_law_1151 : decode cL_law 1151 = .ok (.iconst 0, 1) := by decide +kernel
theorem dL_law_1152 : decode cL_law 1152 = .ok (.ireturn, 1) := by decide +kernel
theorem dL_law_1153 : decode cL_law 1153 = .ok (.iload 5, 2) := by decide +kernel
theorem dL_law_1155 : decode cL_law 1155 = .ok (.ifCond .ne 22, 3) := by decide +kernel
theorem dL_law_1158 : decode cL_law 1158 = .ok (.aload_n 3, 1) := by decide +kernel
theorem dL_law_1159 : decode cL_law 1159 = .ok (.iconst 0, 1) := by decide +kernel
theorem dL_law_1160 : decode cL_law 1160 = .ok (.laload, 1) := by decide +kernel
theorem dL_law_1161 : decode cL_law 1161 = .ok (.iload 6, 2) := by decide +kernel
theorem dL_law_1163 : decode cL_law 1163 = .ok (.ifCond .eq 7, 3) := by decide +kernel
theorem dL_law_1166 : decode cL_law 1166 = .ok (.lconst 1, 1) := by decide +kernel
theorem dL_law_1167 : decode cL_law 1167 = .ok (.goto 4, 3) := by decide +kernel
theorem dL_law_1170 : decode cL_law 1170 = .ok (.lconst 0, 1) := by decide +kernel
theorem dL_law_1171 : decode cL_law 1171 = .ok (.lcmp, 1) := by decide +kernel
theorem dL_law_1172 : decode cL_law 1172 = .ok (.ifCond .eq 5, 3) := by decide +kernel
theorem dL_law_1175 : decode cL_law 1175 = .ok (.iconst 0, 1) := by decide +kernel
theorem dL_law_1176 : decode cL_law 1176 = .ok (.ireturn, 1) := by decide +kernel
theorem dL_law_1177 : decode cL_law 1177 = .ok (.goto 297, 3) := by decide +kernel
theorem dL_law_1180 : decode cL_law 1180 = .ok (.aload_n 1, 1) := by decide +kernel
theorem dL_law_1181 : decode cL_law 1181 = .ok (.aload_n 0, 1) := by decide +kernel
theorem dL_law_1182 : decode cL_law 1182 = .ok (.iload 4, 2) := by decide +kernel
theorem dL_law_1184 : decode cL_law 1184 = .ok (.iconst 1, 1) := by decide +kernel
theorem dL_law_1185 : decode cL_law 1185 = .ok (.iadd, 1) := by decide +kernel
theorem dL_law_1186 : decode cL_law 1186 = .ok (.iaload, 1) := by decide +kernel
theorem dL_law_1187 : decode cL_law 1187 = .ok (.aload_n 3, 1) := by decide +kernel
theorem dL_law_1188 : decode cL_law 1188 = .ok (.invokestatic 146, 3) := by decide +kernel
theorem dL_law_1191 : decode cL_law 1191 = .ok (.istore 5, 2) := by decide +kernel
theorem dL_law_1193 : decode cL_law 1193 = .ok (.aload_n 2, 1) := by decide +kernel
theorem dL_law_1194 : decode cL_law 1194 = .ok (.aload_n 0, 1) := by decide +kernel
theorem dL_law_1195 : decode cL_law 1195 = .ok (.iload 4, 2) := by decide +kernel
theorem dL_law_1197 : decode cL_law 1197 = .ok (.iconst 1, 1) := by decide +kernel
theorem dL_law_1198 : decode cL_law 1198 = .ok (.iadd, 1) := by decide +kernel
theorem dL_law_1199 : decode cL_law 1199 = .ok (.iaload, 1) := by decide +kernel
theorem dL_law_1200 : decode cL_law 1200 = .ok (.invokevirtual 148, 3) := by decide +kernel
theorem dL_law_1203 : decode cL_law 1203 = .ok (.istore 6, 2) := by decide +kernel
theorem dL_law_1205 : decode cL_law 1205 = .ok (.aload_n 2, 1) := by decide +kernel
theorem dL_law_1206 : decode cL_law 1206 = .ok (.invokevirtual 91, 3) := by decide +kernel
theorem dL_law_1209 : decode cL_law 1209 = .ok (.iload 5, 2) := by decide +kernel
theorem dL_law_1211 : decode cL_law 1211 = .ok (.if_icmp .eq 5, 3) := by decide +kernel
theorem dL_law_1214 : decode cL_law 1214 = .ok (.iconst 0, 1) := by decide +kernel
theorem dL_law_1215 : decode cL_law 1215 = .ok (.ireturn, 1) := by decide +kernel
theorem dL_law_1216 : decode cL_law 1216 = .ok (.iload 5, 2) := by decide +kernel
theorem dL_law_1218 : decode cL_law 1218 = .ok (.ifCond .ne 15, 3) := by decide +kernel
theorem dL_law_1221 : decode cL_law 1221 = .ok (.aload_n 3, 1) := by decide +kernel
theorem dL_law_1222 : decode cL_law 1222 = .ok (.iconst 0, 1) := by decide +kernel
theorem dL_law_1223 : decode cL_law 1223 = .ok (.laload, 1) := by decide +kernel
theorem dL_law_1224 : decode cL_law 1224 = .ok (.iload 6, 2) := by decide +kernel
theorem dL_law_1226 : decode cL_law 1226 = .ok (.i2l, 1) := by decide +kernel
theorem dL_law_1227 : decode cL_law 1227 = .ok (.lcmp, 1) := by decide +kernel
theorem dL_law_1228 : decode cL_law 1228 = .ok (.ifCond .eq 5, 3) := by decide +kernel
theorem dL_law_1231 : decode cL_law 1231 = .ok (.iconst 0, 1) := by decide +kernel
theorem dL_law_1232 : decode cL_law 1232 = .ok (.ireturn, 1) := by decide +kernel
theorem dL_law_1233 : decode cL_law 1233 = .ok (.goto 241, 3) := by decide +kernel
theorem dL_law_1236 : decode cL_law 1236 = .ok (.aload_n 1, 1) := by decide +kernel
theorem dL_law_1237 : decode cL_law 1237 = .ok (.aload_n 0, 1) := by decide +kernel
theorem dL_law_1238 : decode cL_law 1238 = .ok (.iload 4, 2) := by decide +kernel
theorem dL_law_1240 : decode cL_law 1240 = .ok (.iconst 1, 1) := by decide +kernel
theorem dL_law_1241 : decode cL_law 1241 = .ok (.iadd, 1) := by decide +kernel
theorem dL_law_1242 : decode cL_law 1242 = .ok (.iaload, 1) := by decide +kernel
theorem dL_law_1243 : decode cL_law 1243 = .ok (.aload_n 3, 1) := by decide +kernel
theorem dL_law_1244 : decode cL_law 1244 = .ok (.invokestatic 149, 3) := by decide +kernel
theorem dL_law_1247 : decode cL_law 1247 = .ok (.istore 5, 2) := by decide +kernel
theorem dL_law_1249 : decode cL_law 1249 = .ok (.aload_n 2, 1) := by decide +kernel
theorem dL_law_1250 : decode cL_law 1250 = .ok (.aload_n 0, 1) := by decide +kernel
theorem dL_law_1251 : decode cL_law 1251 = .ok (.iload 4, 2) := by decide +kernel
theorem dL_law_1253 : decode cL_law 1253 = .ok (.iconst 1, 1) := by decide +kernel
theorem dL_law_1254 : decode cL_law 1254 = .ok (.iadd, 1) := by decide +kernel
theorem dL_law_1255 : decode cL_law 1255 = .ok (.iaload, 1) := by decide +kernel
theorem dL_law_1256 : decode cL_law 1256 = .ok (.invokevirtual 151, 3) := by decide +kernel
theorem dL_law_1259 : decode cL_law 1259 = .ok (.istore 6, 2) := by decide +kernel
theorem dL_law_1261 : decode cL_law 1261 = .ok (.aload_n 2, 1) := by decide +kernel
theorem dL_law_1262 : decode cL_law 1262 = .ok (.invokevirtual 91, 3) := by decide +kernel
theorem dL_law_1265 : decode cL_law 1265 = .ok (.iload 5, 2) := by decide +kernel
theorem dL_law_1267 : decode cL_law 1267 = .ok (.if_icmp .eq 5, 3) := by decide +kernel
theorem dL_law_1270 : decode cL_law 1270 = .ok (.iconst 0, 1) := by decide +kernel
theorem dL_law_1271 : decode cL_law 1271 = .ok (.ireturn, 1) := by decide +kernel
theorem dL_law_1272 : decode cL_law 1272 = .ok (.iload 5, 2) := by decide +kernel
theorem dL_law_1274 : decode cL_law 1274 = .ok (.ifCond .ne 15, 3) := by decide +kernel
theorem dL_law_1277 : decode cL_law 1277 = .ok (.aload_n 3, 1) := by decide +kernel
theorem dL_law_1278 : decode cL_law 1278 = .ok (.iconst 0, 1) := by decide +kernel
theorem dL_law_1279 : decode cL_law 1279 = .ok (.laload, 1) := by decide +kernel
theorem dL_law_1280 : decode cL_law 1280 = .ok (.iload 6, 2) := by decide +kernel
theorem dL_law_1282 : decode cL_law 1282 = .ok (.i2l, 1) := by decide +kernel
theorem dL_law_1283 : decode cL_law 1283 = .ok (.lcmp, 1) := by decide +kernel
theorem dL_law_1284 : decode cL_law 1284 = .ok (.ifCond .eq 5, 3) := by decide +kernel
theorem dL_law_1287 : decode cL_law 1287 = .ok (.iconst 0, 1) := by decide +kernel
theorem dL_law_1288 : decode cL_law 1288 = .ok (.ireturn, 1) := by decide +kernel
theorem dL_law_1289 : decode cL_law 1289 = .ok (.goto 185, 3) := by decide +kernel
theorem dL_law_1292 : decode cL_law 1292 = .ok (.aload_n 1, 1) := by decide +kernel
theorem dL_law_1293 : decode cL_law 1293 = .ok (.aload_n 0, 1) := by decide +kernel
theorem dL_law_1294 : decode cL_law 1294 = .ok (.iload 4, 2) := by decide +kernel
theorem dL_law_1296 : decode cL_law 1296 = .ok (.iconst 1, 1) := by decide +kernel
theorem dL_law_1297 : decode cL_law 1297 = .ok (.iadd, 1) := by decide +kernel
theorem dL_law_1298 : decode cL_law 1298 = .ok (.iaload, 1) := by decide +kernel
theorem dL_law_1299 : decode cL_law 1299 = .ok (.aload_n 0, 1) := by decide +kernel
theorem dL_law_1300 : decode cL_law 1300 = .ok (.iload 4, 2) := by decide +kernel
theorem dL_law_1302 : decode cL_law 1302 = .ok (.iconst 2, 1) := by decide +kernel
theorem dL_law_1303 : decode cL_law 1303 = .ok (.iadd, 1) := by decide +kernel
theorem dL_law_1304 : decode cL_law 1304 = .ok (.iaload, 1) := by decide +kernel
theorem dL_law_1305 : decode cL_law 1305 = .ok (.aload_n 3, 1) := by decide +kernel
theorem dL_law_1306 : decode cL_law 1306 = .ok (.invokestatic 152, 3) := by decide +kernel
theorem dL_law_1309 : decode cL_law 1309 = .ok (.istore 5, 2) := by decide +kernel
theorem dL_law_1311 : decode cL_law 1311 = .ok (.aload_n 2, 1) := by decide +kernel
theorem dL_law_1312 : decode cL_law 1312 = .ok (.aload_n 0, 1) := by decide +kernel
theorem dL_law_1313 : decode cL_law 1313 = .ok (.iload 4, 2) := by decide +kernel
theorem dL_law_1315 : decode cL_law 1315 = .ok (.iconst 1, 1) := by decide +kernel
theorem dL_law_1316 : decode cL_law 1316 = .ok (.iadd, 1) := by decide +kernel
theorem dL_law_1317 : decode cL_law 1317 = .ok (.iaload, 1) := by decide +kernel
theorem dL_law_1318 : decode cL_law 1318 = .ok (.aload_n 0, 1) := by decide +kernel
theorem dL_law_1319 : decode cL_law 1319 = .ok (.iload 4, 2) := by decide +kernel
theorem dL_law_1321 : decode cL_law 1321 = .ok (.iconst 2, 1) := by decide +kernel
theorem dL_law_1322 : decode cL_law 1322 = .ok (.iadd, 1) := by decide +kernel
theorem dL_law_1323 : decode cL_law 1323 = .ok (.iaload, 1) := by decide +kernel
theorem dL_law_1324 : decode cL_law 1324 = .ok (.invokevirtual 154, 3) := by decide +kernel
theorem dL_law_1327 : decode cL_law 1327 = .ok (.istore 6, 2) := by decide +kernel
theorem dL_law_1329 : decode cL_law 1329 = .ok (.aload_n 2, 1) := by decide +kernel
theorem dL_law_1330 : decode cL_law 1330 = .ok (.invokevirtual 91, 3) := by decide +kernel
theorem dL_law_1333 : decode cL_law 1333 = .ok (.iload 5, 2) := by decide +kernel
theorem dL_law_1335 : decode cL_law 1335 = .ok (.if_icmp .eq 5, 3) := by decide +kernel
theorem dL_law_1338 : decode cL_law 1338 = .ok (.iconst 0, 1) := by decide +kernel
theorem dL_law_1339 : decode cL_law 1339 = .ok (.ireturn, 1) := by decide +kernel
theorem dL_law_1340 : decode cL_law 1340 = .ok (.iload 5, 2) := by decide +kernel
theorem dL_law_1342 : decode cL_law 1342 = .ok (.ifCond .ne 15, 3) := by decide +kernel
theorem dL_law_1345 : decode cL_law 1345 = .ok (.aload_n 3, 1) := by decide +kernel
theorem dL_law_1346 : decode cL_law 1346 = .ok (.iconst 0, 1) := by decide +kernel
theorem dL_law_1347 : decode cL_law 1347 = .ok (.laload, 1) := by decide +kernel
theorem dL_law_1348 : decode cL_law 1348 = .ok (.iload 6, 2) := by decide +kernel
theorem dL_law_1350 : decode cL_law 1350 = .ok (.i2l, 1) := by decide +kernel
theorem dL_law_1351 : decode cL_law 1351 = .ok (.lcmp, 1) := by decide +kernel
theorem dL_law_1352 : decode cL_law 1352 = .ok (.ifCond .eq 5, 3) := by decide +kernel
theorem dL_law_1355 : decode cL_law 1355 = .ok (.iconst 0, 1) := by decide +kernel
theorem dL_law_1356 : decode cL_law 1356 = .ok (.ireturn, 1) := by decide +kernel
theorem dL_law_1357 : decode cL_law 1357 = .ok (.goto 117, 3) := by decide +kernel
theorem dL_law_1360 : decode cL_law 1360 = .ok (.aload_n 1, 1) := by decide +kernel
theorem dL_law_1361 : decode cL_law 1361 = .ok (.aload_n 0, 1) := by decide +kernel
theorem dL_law_1362 : decode cL_law 1362 = .ok (.iload 4, 2) := by decide +kernel
theorem dL_law_1364 : decode cL_law 1364 = .ok (.iconst 1, 1) := by decide +kernel
theorem dL_law_1365 : decode cL_law 1365 = .ok (.iadd, 1) := by decide +kernel
theorem dL_law_1366 : decode cL_law 1366 = .ok (.iaload, 1) := by decide +kernel
theorem dL_law_1367 : decode cL_law 1367 = .ok (.aload_n 3, 1) := by decide +kernel
theorem dL_law_1368 : decode cL_law 1368 = .ok (.invokestatic 155, 3) := by decide +kernel
theorem dL_law_1371 : decode cL_law 1371 = .ok (.istore 5, 2) := by decide +kernel
theorem dL_law_1373 : decode cL_law 1373 = .ok (.aload_n 2, 1) := by decide +kernel
theorem dL_law_1374 : decode cL_law 1374 = .ok (.aload_n 0, 1) := by decide +kernel
theorem dL_law_1375 : decode cL_law 1375 = .ok (.iload 4, 2) := by decide +kernel
theorem dL_law_1377 : decode cL_law 1377 = .ok (.iconst 1, 1) := by decide +kernel
theorem dL_law_1378 : decode cL_law 1378 = .ok (.iadd, 1) := by decide +kernel
theorem dL_law_1379 : decode cL_law 1379 = .ok (.iaload, 1) := by decide +kernel
theorem dL_law_1380 : decode cL_law 1380 = .ok (.invokevirtual 157, 3) := by decide +kernel
theorem dL_law_1383 : decode cL_law 1383 = .ok (.istore 6, 2) := by decide +kernel
theorem dL_law_1385 : decode cL_law 1385 = .ok (.aload_n 2, 1) := by decide +kernel
theorem dL_law_1386 : decode cL_law 1386 = .ok (.invokevirtual 91, 3) := by decide +kernel
theorem dL_law_1389 : decode cL_law 1389 = .ok (.iload 5, 2) := by decide +kernel
theorem dL_law_1391 : decode cL_law 1391 = .ok (.if_icmp .eq 5, 3) := by decide +kernel
theorem dL_law_1394 : decode cL_law 1394 = .ok (.iconst 0, 1) := by decide +kernel
theorem dL_law_1395 : decode cL_law 1395 = .ok (.ireturn, 1) := by decide +kernel
theorem dL_law_1396 : decode cL_law 1396 = .ok (.iload 5, 2) := by decide +kernel
theorem dL_law_1398 : decode cL_law 1398 = .ok (.ifCond .ne 15, 3) := by decide +kernel
theorem dL_law_1401 : decode cL_law 1401 = .ok (.aload_n 3, 1) := by decide +kernel
theorem dL_law_1402 : decode cL_law 1402 = .ok (.iconst 0, 1) := by decide +kernel
theorem dL_law_1403 : decode cL_law 1403 = .ok (.laload, 1) := by decide +kernel
theorem dL_law_1404 : decode cL_law 1404 = .ok (.iload 6, 2) := by decide +kernel
theorem dL_law_1406 : decode cL_law 1406 = .ok (.i2l, 1) := by decide +kernel
theorem dL_law_1407 : decode cL_law 1407 = .ok (.lcmp, 1) := by decide +kernel
theorem dL_law_1408 : decode cL_law 1408 = .ok (.ifCond .eq 5, 3) := by decide +kernel
theorem dL_law_1411 : decode cL_law 1411 = .ok (.iconst 0, 1) := by decide +kernel
theorem dL_law_1412 : decode cL_law 1412 = .ok (.ireturn, 1) := by decide +kernel
theorem dL_law_1413 : decode cL_law 1413 = .ok (.goto 61, 3) := by decide +kernel
theorem dL_law_1416 : decode cL_law 1416 = .ok (.aload_n 1, 1) := by decide +kernel
theorem dL_law_1417 : decode cL_law 1417 = .ok (.aload_n 3, 1) := by decide +kernel
theorem dL_law_1418 : decode cL_law 1418 = .ok (.invokestatic 158, 3) := by decide +kernel
theorem dL_law_1421 : decode cL_law 1421 = .ok (.istore 5, 2) := by decide +kernel
theorem dL_law_1423 : decode cL_law 1423 = .ok (.aload_n 2, 1) := by decide +kernel
theorem dL_law_1424 : decode cL_law 1424 = .ok (.invokevirtual 161, 3) := by decide +kernel
theorem dL_law_1427 : decode cL_law 1427 = .ok (.istore 6, 2) := by decide +kernel
theorem dL_law_1429 : decode cL_law 1429 = .ok (.aload_n 2, 1) := by decide +kernel
theorem dL_law_1430 : decode cL_law 1430 = .ok (.invokevirtual 91, 3) := by decide +kernel
theorem dL_law_1433 : decode cL_law 1433 = .ok (.iload 5, 2) := by decide +kernel
theorem dL_law_1435 : decode cL_law 1435 = .ok (.if_icmp .eq 5, 3) := by decide +kernel
theorem dL_law_1438 : decode cL_law 1438 = .ok (.iconst 0, 1) := by decide +kernel
theorem dL_law_1439 : decode cL_law 1439 = .ok (.ireturn, 1) := by decide +kernel
theorem dL_law_1440 : decode cL_law 1440 = .ok (.iload 5, 2) := by decide +kernel
theorem dL_law_1442 : decode cL_law 1442 = .ok (.ifCond .ne 15, 3) := by decide +kernel
theorem dL_law_1445 : decode cL_law 1445 = .ok (.aload_n 3, 1) := by decide +kernel
theorem dL_law_1446 : decode cL_law 1446 = .ok (.iconst 0, 1) := by decide +kernel
theorem dL_law_1447 : decode cL_law 1447 = .ok (.laload, 1) := by decide +kernel
theorem dL_law_1448 : decode cL_law 1448 = .ok (.iload 6, 2) := by decide +kernel
theorem dL_law_1450 : decode cL_law 1450 = .ok (.i2l, 1) := by decide +kernel
theorem dL_law_1451 : decode cL_law 1451 = .ok (.lcmp, 1) := by decide +kernel
theorem dL_law_1452 : decode cL_law 1452 = .ok (.ifCond .eq 5, 3) := by decide +kernel
theorem dL_law_1455 : decode cL_law 1455 = .ok (.iconst 0, 1) := by decide +kernel
theorem dL_law_1456 : decode cL_law 1456 = .ok (.ireturn, 1) := by decide +kernel
theorem dL_law_1457 : decode cL_law 1457 = .ok (.goto 17, 3) := by decide +kernel
theorem dL_law_1460 : decode cL_law 1460 = .ok (.aload_n 1, 1) := by decide +kernel
theorem dL_law_1461 : decode cL_law 1461 = .ok (.invokevirtual 162, 3) := by decide +kernel
theorem dL_law_1464 : decode cL_law 1464 = .ok (.aload_n 2, 1) := by decide +kernel
theorem dL_law_1465 : decode cL_law 1465 = .ok (.invokevirtual 166, 3) := by decide +kernel
theorem dL_law_1468 : decode cL_law 1468 = .ok (.lcmp, 1) := by decide +kernel
theorem dL_law_1469 : decode cL_law 1469 = .ok (.ifCond .eq 5, 3) := by decide +kernel
theorem dL_law_1472 : decode cL_law 1472 = .ok (.iconst 0, 1) := by decide +kernel
theorem dL_law_1473 : decode cL_law 1473 = .ok (.ireturn, 1) := by decide +kernel
theorem dL_law_1474 : decode cL_law 1474 = .ok (.iinc 4 4, 3) := by decide +kernel
theorem dL_law_1477 : decode cL_law 1477 = .ok (.goto (-1454), 3) := by decide +kernel
theorem dL_law_1480 : decode cL_law 1480 = .ok (.iconst 1, 1) := by decide +kernel
theorem dL_law_1481 : decode cL_law 1481 = .ok (.ireturn, 1) := by decide +kernel
end
section
/-! THE MACHINE'S PART: a method's own instructions as a tree of pure propositions; a tree that holds gives the walk. -/
abbrev Mm : Type := (Nat → Nat → Int32) × (Nat → Int64)
abbrev Ls : Type := List (Option Value)
abbrev Tr : Type := Ls → List Value → Mm → Prop
abbrev Rs : Type := (Option Value × Mm) ⊕ (String × Mm)
abbrev Sp : Type := List Value → Mm → Option Rs
def k_asc : Nat → Ls → List (Nat × Value)
  | _, [] => []
  | i, none :: t => k_asc (i + 1) t
  | i, some v :: t => (i, v) :: k_asc (i + 1) t
theorem k_asc_mem : ∀ (L : Ls) (k j : Nat) (w : Value), (j, w) ∈ k_asc k L ↔ ∃ t, j = k + t ∧ L[t]? = some (some w)
  | [], k, j, w => by simp [k_asc]
  | none :: L, k, j, w => by
    rw [k_asc, k_asc_mem L]
    constructor
    · rintro ⟨t, rfl, h⟩
      exact ⟨t + 1, by omega, by simpa using h⟩
    · rintro ⟨t, rfl, h⟩
      cases t with
      | zero => simp at h
      | succ t => exact ⟨t, by omega, by simpa using h⟩
  | some v :: L, k, j, w => by
    rw [k_asc, List.mem_cons, k_asc_mem L]
    constructor
    · rintro (h | ⟨t, rfl, h⟩)
      · cases h
        exact ⟨0, by omega, by simp⟩
      · exact ⟨t + 1, by omega, by simpa using h⟩
    · rintro ⟨t, rfl, h⟩
      cases t with
      | zero =>
        simp at h
        subst h
        exact Or.inl rfl
      | succ t => exact Or.inr ⟨t, by omega, by simpa using h⟩
theorem k_has {ls : Array Slot} {n : Nat} {L : Ls} {i : Nat} {v : Value} (h : lv_has ls n (k_asc 0 L)) (hi : L[i]? = some (some v)) : ls[i]? = some (.val v) :=
  h.2.2 (i, v) ((k_asc_mem L 0 i v).mpr ⟨i, by omega, hi⟩)
/-- what is left of a place when the next one is written -/
def k_kz : Option Value → Option Value
  | some (.long _) => none
  | some (.double _) => none
  | o => o
def k_sv : Nat → Value → Ls → Ls
  | _, _, [] => []
  | 0, v, _ :: L => some v :: L
  | 1, v, o :: L => k_kz o :: k_sv 0 v L
  | n + 2, v, o :: L => o :: k_sv (n + 1) v L
def k_cl : Nat → Ls → Ls
  | _, [] => []
  | 0, _ :: L => none :: L
  | n + 1, o :: L => o :: k_cl n L
theorem k_kz_some {o : Option Value} {w : Value} (h : k_kz o = some w) : o = some w ∧ ¬ w.category = 2 := by
  cases o with
  | none => cases h
  | some x => cases x <;> simp [k_kz] at h <;> subst h <;> simp [Value.category]
theorem k_sv_mem : ∀ (i : Nat) (v : Value) (L : Ls) (j : Nat) (w : Value), (k_sv i v L)[j]? = some (some w) → (j = i ∧ w = v) ∨ (¬ j = i ∧ L[j]? = some (some w) ∧ ¬ (j + 1 = i ∧ w.category = 2))
  | _, _, [], j, w => by intro h; unfold k_sv at h; simp at h
  | 0, v, o :: L, j, w => by
    intro h
    unfold k_sv at h
    cases j with
    | zero => simp at h; exact Or.inl ⟨rfl, h.symm⟩
    | succ j => exact Or.inr ⟨by omega, by simpa using h, by omega⟩
  | 1, v, o :: L, j, w => by
    intro h
    unfold k_sv at h
    cases j with
    | zero =>
      simp at h
      obtain ⟨h1, h2⟩ := k_kz_some h
      subst h1
      exact Or.inr ⟨by omega, by simp, fun q => h2 q.2⟩
    | succ j =>
      rcases k_sv_mem 0 v L j w (by simpa using h) with ⟨e, e2⟩ | ⟨e, e2, -⟩
      · exact Or.inl ⟨by omega, e2⟩
      · exact Or.inr ⟨by omega, by simpa using e2, by omega⟩
  | n + 2, v, o :: L, j, w => by
    intro h
    unfold k_sv at h
    cases j with
    | zero => exact Or.inr ⟨by omega, by simpa using h, by omega⟩
    | succ j =>
      rcases k_sv_mem (n + 1) v L j w (by simpa using h) with ⟨e, e2⟩ | ⟨e, e2, e3⟩
      · exact Or.inl ⟨by omega, e2⟩
      · exact Or.inr ⟨by omega, by simpa using e2, fun q => e3 ⟨by omega, q.2⟩⟩
theorem k_cl_mem : ∀ (i : Nat) (L : Ls) (j : Nat) (w : Value), (k_cl i L)[j]? = some (some w) → ¬ j = i ∧ L[j]? = some (some w)
  | _, [], j, w => by intro h; unfold k_cl at h; simp at h
  | 0, o :: L, j, w => by
    intro h
    unfold k_cl at h
    cases j with
    | zero => simp at h
    | succ j => exact ⟨by omega, by simpa using h⟩
  | n + 1, o :: L, j, w => by
    intro h
    unfold k_cl at h
    cases j with
    | zero => exact ⟨by omega, by simpa using h⟩
    | succ j =>
      obtain ⟨e, e2⟩ := k_cl_mem n L j w (by simpa using h)
      exact ⟨by omega, by simpa using e2⟩
theorem k_has_sv {ls : Array Slot} {n i : Nat} {v : Value} {L : Ls} (h : lv_has ls n ((i, v) :: (k_asc 0 L).filter (fun q => !(q.1 == i) && !(q.1 + 1 == i && q.2.category == 2)))) : lv_has ls n (k_asc 0 (k_sv i v L)) := by
  refine ⟨h.1, h.2.1, fun q hq => h.2.2 q ?_⟩
  obtain ⟨j, w⟩ := q
  obtain ⟨t, ht, h1⟩ := (k_asc_mem _ 0 j w).mp hq
  have ht : j = t := by omega
  subst ht
  rcases k_sv_mem i v L j w h1 with ⟨rfl, rfl⟩ | ⟨e1, e2, e3⟩
  · exact List.mem_cons_self
  · refine List.mem_cons_of_mem _ (List.mem_filter.mpr ⟨(k_asc_mem L 0 j w).mpr ⟨j, by omega, e2⟩, ?_⟩)
    simp [e1]
    exact Decidable.not_and_iff_or_not.mp e3
theorem k_has_sv2 {ls : Array Slot} {n i : Nat} {v : Value} {L : Ls} (h : lv_has ls n ((i, v) :: (k_asc 0 L).filter (fun q => !(q.1 == i) && (!(q.1 == i + 1) && !(q.1 + 1 == i && q.2.category == 2))))) : lv_has ls n (k_asc 0 (k_cl (i + 1) (k_sv i v L))) := by
  refine ⟨h.1, h.2.1, fun q hq => h.2.2 q ?_⟩
  obtain ⟨j, w⟩ := q
  obtain ⟨t, ht, h1⟩ := (k_asc_mem _ 0 j w).mp hq
  have ht : j = t := by omega
  subst ht
  obtain ⟨e0, h1⟩ := k_cl_mem _ _ j w h1
  rcases k_sv_mem i v L j w h1 with ⟨rfl, rfl⟩ | ⟨e1, e2, e3⟩
  · exact List.mem_cons_self
  · refine List.mem_cons_of_mem _ (List.mem_filter.mpr ⟨(k_asc_mem L 0 j w).mpr ⟨j, by omega, e2⟩, ?_⟩)
    simp [e1, e0]
    exact Decidable.not_and_iff_or_not.mp e3
/-- the cells: 0 the class, 1 its trees, 2 its state, 3 its undo stack, 4 cells, 5 rows; 6 the reference, 7 its m, 8 its saved; 9 the law's out -/
def k_W (ad : Nat → Nat) (cI cL : ClassId) (M : Mm) : va_W :=
  [(ad 0, .inr (3, [.ref (ad 1), .ref (ad 2), .ref (ad 3)])),
   (ad 1, .inr (1, [.ref (ad 2)])),
   (ad 2, .inr (0, [.ref (ad 4)])),
   (ad 3, .inr (2, [.ref (ad 5), .int (M.1 4 0), .int (M.1 4 1)])),
   (ad 4, .inl (cI, 463, .inl (M.1 0))),
   (ad 5, .inl (cI, 1852, .inl (M.1 1))),
   (ad 6, .inr (4, [.ref (ad 7), .ref (ad 8), .int (M.1 4 2), .int (M.1 4 3), .long (M.2 0)])),
   (ad 7, .inl (cI, 395, .inl (M.1 2))),
   (ad 8, .inl (cI, 1580, .inl (M.1 3))),
   (ad 9, .inl (cL, 1, .inr (.inl (fun j => M.2 (j + 1)))))]
def k_up (M : Mm) (a j : Nat) (v : Int32) : Mm := (fun b => if b = a then upd (M.1 b) j v else M.1 b, M.2)
def k_uL (M : Mm) (j : Nat) (v : Int64) : Mm := (M.1, vp_updL M.2 j v)
abbrev Cx : Type := Program × Launch × Env × Room × State × MethodId × Array Value × List Frame × Method × Code × (State → Prop) × va_G × ClassId × ClassId × (Nat → Prop) × Heap × Nat × Nat
def k_G : List Cond := lw_tbl.filter goodWord
theorem k_gm {w : Cond} (i : Nat) (h : lw_tbl[i]? = some w) (hg : goodWord w = true) : w ∈ k_G := List.mem_filter.mpr ⟨List.mem_of_getElem? h, hg⟩
theorem k_good : GoodIn k_G k_G := fun w h => ⟨h, good_of_word (List.mem_filter.mp h).2⟩
def k_V (ad : Nat → Nat) (X : Cx) (pc : Nat) (L : Ls) (st : List Value) (M : Mm) : Prop := match X with
  | (p, l, e, R, s, m, args, below, meth, c, Q, D, cI, cL, A0, H0, ck, cn) => ∀ (H : Heap) (locs : List Loc) (ls : Array Slot), va_P D vwCl (k_W ad cI cL M) H → va_S A0 H0 H locs → lv_has ls c.maxLocals (k_asc 0 L) → W p l e R s m args below meth c H locs ck cn Q (F0 m pc ls st)
def k_C (ad : Nat → Nat) (X : Cx) (cc : ByteArray) (own : String) (nL fr lo : Nat) : Prop := match X with
  | (p, l, e, R, s, m, args, below, meth, c, Q, D, cI, cL, A0, H0, ck, cn) => p.tables.exec = Jvm.exec ∧ c.code = cc ∧ c.maxLocals = nL ∧ s.vm.findClass own = some m.cls ∧ (∀ w ∈ k_G, w.before args s = true) ∧ va_K D vwCl [(cI, .int), (cL, .long)] s ∧ (∀ M, va_D A0 (k_W ad cI cL M)) ∧ (∀ q, H0.size ≤ q → A0 q) ∧ (fr ≤ R.frames ∧ lo ≤ R.locals ∧ ck ≤ R.cells ∧ cn ≤ R.slots)
def Sd (ad : Nat → Nat) (X : Cx) (pc : Nat) (t : Tr) : Prop := ∀ L st M, t L st M → k_V ad X pc L st M
/-! the trees -/
def tt_c (v : Int32) (t : Tr) : Tr := fun L st M => t L (.int v :: st) M
def tt_lc (v : Int64) (t : Tr) : Tr := fun L st M => t L (.long v :: st) M
def tt_il (i : Nat) (t : Tr) : Tr := fun L st M => match L[i]? with
  | some (some (.int x)) => t L (.int x :: st) M
  | _ => False
def tt_ll (i : Nat) (t : Tr) : Tr := fun L st M => match L[i]? with
  | some (some (.long x)) => t L (.long x :: st) M
  | _ => False
def tt_al (i : Nat) (t : Tr) : Tr := fun L st M => match L[i]? with
  | some (some (.ref x)) => t L (.ref x :: st) M
  | _ => False
def tt_is (i : Nat) (t : Tr) : Tr := fun L st M => match st with
  | .int x :: st => t (k_sv i (.int x) L) st M
  | _ => False
def tt_lsv (i : Nat) (t : Tr) : Tr := fun L st M => match st with
  | .long x :: st => t (k_cl (i + 1) (k_sv i (.long x) L)) st M
  | _ => False
def tt_as (i : Nat) (t : Tr) : Tr := fun L st M => match st with
  | .ref x :: st => t (k_sv i (.ref x) L) st M
  | _ => False
def tt_inc (i : Nat) (k : Int32) (t : Tr) : Tr := fun L st M => match L[i]? with
  | some (some (.int x)) => t (k_sv i (.int (x + k)) L) st M
  | _ => False
def tt_add (t : Tr) : Tr := fun L st M => match st with
  | .int y :: .int x :: st => t L (.int (x + y) :: st) M
  | _ => False
def tt_sub (t : Tr) : Tr := fun L st M => match st with
  | .int y :: .int x :: st => t L (.int (x - y) :: st) M
  | _ => False
def tt_mul (t : Tr) : Tr := fun L st M => match st with
  | .int y :: .int x :: st => t L (.int (x * y) :: st) M
  | _ => False
def tt_and (t : Tr) : Tr := fun L st M => match st with
  | .int y :: .int x :: st => t L (.int (x &&& y) :: st) M
  | _ => False
def tt_ladd (t : Tr) : Tr := fun L st M => match st with
  | .long y :: .long x :: st => t L (.long (x + y) :: st) M
  | _ => False
def tt_lmul (t : Tr) : Tr := fun L st M => match st with
  | .long y :: .long x :: st => t L (.long (x * y) :: st) M
  | _ => False
def tt_i2l (t : Tr) : Tr := fun L st M => match st with
  | .int x :: st => t L (.long x.toInt64 :: st) M
  | _ => False
def tt_lcmp (t : Tr) : Tr := fun L st M => match st with
  | .long y :: .long x :: st => t L (.int (lg_cmp x y) :: st) M
  | _ => False
def tt_dupr (t : Tr) : Tr := fun L st M => match st with
  | .ref x :: st => t L (.ref x :: .ref x :: st) M
  | _ => False
def tt_dup2 (t : Tr) : Tr := fun L st M => match st with
  | .int x :: .ref y :: st => t L (.int x :: .ref y :: .int x :: .ref y :: st) M
  | _ => False
def tt_eq0 (a b : Tr) : Tr := fun L st M => match st with
  | .int x :: st => (x = 0 → a L st M) ∧ (¬ x = 0 → b L st M)
  | _ => False
def tt_lt0 (a b : Tr) : Tr := fun L st M => match st with
  | .int x :: st => (x < 0 → a L st M) ∧ (¬ x < 0 → b L st M)
  | _ => False
def tt_le0 (a b : Tr) : Tr := fun L st M => match st with
  | .int x :: st => (x ≤ 0 → a L st M) ∧ (¬ x ≤ 0 → b L st M)
  | _ => False
def tt_ge0 (a b : Tr) : Tr := fun L st M => match st with
  | .int x :: st => (0 ≤ x → a L st M) ∧ (¬ 0 ≤ x → b L st M)
  | _ => False
def tt_gt0 (a b : Tr) : Tr := fun L st M => match st with
  | .int x :: st => (0 < x → a L st M) ∧ (¬ 0 < x → b L st M)
  | _ => False
def tt_eq2 (a b : Tr) : Tr := fun L st M => match st with
  | .int y :: .int x :: st => (x = y → a L st M) ∧ (¬ x = y → b L st M)
  | _ => False
def tt_lt2 (a b : Tr) : Tr := fun L st M => match st with
  | .int y :: .int x :: st => (x < y → a L st M) ∧ (¬ x < y → b L st M)
  | _ => False
def tt_ge2 (a b : Tr) : Tr := fun L st M => match st with
  | .int y :: .int x :: st => (y ≤ x → a L st M) ∧ (¬ y ≤ x → b L st M)
  | _ => False
def tt_gt2 (a b : Tr) : Tr := fun L st M => match st with
  | .int y :: .int x :: st => (y < x → a L st M) ∧ (¬ y < x → b L st M)
  | _ => False
def tt_le2 (a b : Tr) : Tr := fun L st M => match st with
  | .int y :: .int x :: st => (x ≤ y → a L st M) ∧ (¬ x ≤ y → b L st M)
  | _ => False
/-- a reference field of the cell o, which holds the cell o2 -/
def tt_gr (ad : Nat → Nat) (o o2 : Nat) (t : Tr) : Tr := fun L st M => match st with
  | .ref a :: st => a = ad o ∧ t L (.ref (ad o2) :: st) M
  | _ => False
/-- an int field: the place j of the numbers' row 4 -/
def tt_gi (ad : Nat → Nat) (o j : Nat) (t : Tr) : Tr := fun L st M => match st with
  | .ref a :: st => a = ad o ∧ t L (.int (M.1 4 j) :: st) M
  | _ => False
def tt_pi (ad : Nat → Nat) (o j : Nat) (t : Tr) : Tr := fun L st M => match st with
  | .int v :: .ref a :: st => a = ad o ∧ t L st (k_up M 4 j v)
  | _ => False
def tt_gl (ad : Nat → Nat) (t : Tr) : Tr := fun L st M => match st with
  | .ref a :: st => a = ad 6 ∧ t L (.long (M.2 0) :: st) M
  | _ => False
def tt_pl (ad : Nat → Nat) (t : Tr) : Tr := fun L st M => match st with
  | .long v :: .ref a :: st => a = ad 6 ∧ t L st (k_uL M 0 v)
  | _ => False
/-- an int row: the cell o of n places is the numbers' row r -/
def tt_ia (ad : Nat → Nat) (o n r : Nat) (t : Tr) : Tr := fun L st M => match st with
  | .int i :: .ref a :: st => a = ad o ∧ vp_in i n ∧ t L (.int (M.1 r i.toNatClampNeg) :: st) M
  | _ => False
def tt_st (ad : Nat → Nat) (o n r : Nat) (t : Tr) : Tr := fun L st M => match st with
  | .int x :: .int i :: .ref a :: st => a = ad o ∧ vp_in i n ∧ t L st (k_up M r i.toNatClampNeg x)
  | _ => False
def tt_ir (res : Rs) : Tr := fun _ st M => match st with
  | [.int v] => res = .inl (some (.int v), M)
  | _ => False
def tt_zr (res : Rs) : Tr := fun _ st M => match st with
  | [.int v] => (v = 0 ∨ v = 1) ∧ res = .inl (some (.int v), M)
  | _ => False
def tt_lr (res : Rs) : Tr := fun _ st M => match st with
  | [.long v] => res = .inl (some (.long v), M)
  | _ => False
def tt_vr (res : Rs) : Tr := fun _ st M => match st with
  | [] => res = .inl (none, M)
  | _ => False
def tt_it (B : Tr → Tr) : Nat → Tr
  | 0 => fun _ _ _ => False
  | n + 1 => B (tt_it B n)
def tt_lp (B : Tr → Tr) : Tr := fun L st M => ∃ n, tt_it B n L st M
def tt_cv (ad : Nat → Nat) (o n : Nat) (F : Sp) (t : Tr) : Tr := fun L st M => match st.drop n with
  | .ref a :: rest => a = ad o ∧ rest.length ≤ 4 ∧ (match F (st.take n).reverse M with
    | some (.inl r) => t L (r.1.toList ++ rest) r.2
    | _ => False)
  | _ => False
def tt_cs (n : Nat) (F : Sp) (t : Tr) : Tr := fun L st M => n ≤ st.length ∧ (st.drop n).length ≤ 4 ∧ (match F (st.take n).reverse M with
    | some (.inl r) => t L (r.1.toList ++ st.drop n) r.2
    | _ => False)
def tt_max (t : Tr) : Tr := fun L st M => match st with
  | .int y :: .int x :: st => st.length ≤ 4 ∧ t L (.int (if x < y then y else x) :: st) M
  | _ => False
def tt_min (t : Tr) : Tr := fun L st M => match st with
  | .int y :: .int x :: st => st.length ≤ 4 ∧ t L (.int (if y < x then y else x) :: st) M
  | _ => False
end
section
/-! THE TREES ARE SOUND: an instruction, a row -/
section KS
variable {ad : Nat → Nat} {X : Cx} {cc : ByteArray} {own : String} {nL fr lo pc : Nat} {t t1 t2 : Tr}
theorem ss_go {off : Int} {tgt : Nat} (C : k_C ad X cc own nL fr lo) (d : decode cc pc = .ok (.goto off, 3)) (ht : (pc : Int) + off = (tgt : Int)) (k : Sd ad X tgt t) : Sd ad X pc t := by
  obtain ⟨p, l, e, R, s, m, args, below, meth, c, Q, D, cI, cL, A0, H0, ck, cn⟩ := X
  obtain ⟨hx, hb, hml, hown, hts, hK, hD, hA, hR⟩ := C
  intro L st M h H locs ls hP hS hl
  exact lv_goto hx hb d ht (k L st M h H locs ls hP hS hl)
theorem ss_c {n : Int} {v : Int32} (C : k_C ad X cc own nL fr lo) (d : decode cc pc = .ok (.iconst n, 1)) (hv : Int32.ofInt n = v) (k : Sd ad X (pc + 1) t) : Sd ad X pc (tt_c v t) := by
  obtain ⟨p, l, e, R, s, m, args, below, meth, c, Q, D, cI, cL, A0, H0, ck, cn⟩ := X
  obtain ⟨hx, hb, hml, hown, hts, hK, hD, hA, hR⟩ := C
  intro L st M h H locs ls hP hS hl
  exact lv_iconst hx hb d hv (k L _ M h H locs ls hP hS hl)
theorem ss_bp {n : Int} {v : Int32} (C : k_C ad X cc own nL fr lo) (d : decode cc pc = .ok (.bipush n, 2)) (hv : (Int8.ofInt n).toInt32 = v) (k : Sd ad X (pc + 2) t) : Sd ad X pc (tt_c v t) := by
  obtain ⟨p, l, e, R, s, m, args, below, meth, c, Q, D, cI, cL, A0, H0, ck, cn⟩ := X
  obtain ⟨hx, hb, hml, hown, hts, hK, hD, hA, hR⟩ := C
  intro L st M h H locs ls hP hS hl
  exact lv_bipush hx hb d hv (k L _ M h H locs ls hP hS hl)
theorem ss_sp {n : Int} {v : Int32} (C : k_C ad X cc own nL fr lo) (d : decode cc pc = .ok (.sipush n, 3)) (hv : (Int16.ofInt n).toInt32 = v) (k : Sd ad X (pc + 3) t) : Sd ad X pc (tt_c v t) := by
  obtain ⟨p, l, e, R, s, m, args, below, meth, c, Q, D, cI, cL, A0, H0, ck, cn⟩ := X
  obtain ⟨hx, hb, hml, hown, hts, hK, hD, hA, hR⟩ := C
  intro L st M h H locs ls hP hS hl
  exact lv_sipush hx hb d hv (k L _ M h H locs ls hP hS hl)
theorem ss_lc {n : Fin 2} {v : Int64} (C : k_C ad X cc own nL fr lo) (d : decode cc pc = .ok (.lconst n, 1)) (hv : Int64.ofNat (n : Nat) = v) (k : Sd ad X (pc + 1) t) : Sd ad X pc (tt_lc v t) := by
  obtain ⟨p, l, e, R, s, m, args, below, meth, c, Q, D, cI, cL, A0, H0, ck, cn⟩ := X
  obtain ⟨hx, hb, hml, hown, hts, hK, hD, hA, hR⟩ := C
  intro L st M h H locs ls hP hS hl
  exact lv_lconst hx hb d hv (k L _ M h H locs ls hP hS hl)
theorem ss_l2 {index : Nat} {v : Int64} (C : k_C ad X cc own nL fr lo) (d : decode cc pc = .ok (.ldc2_w index, 3)) (hw : Cond.constantLong own index v ∈ k_G) (k : Sd ad X (pc + 3) t) : Sd ad X pc (tt_lc v t) := by
  obtain ⟨p, l, e, R, s, m, args, below, meth, c, Q, D, cI, cL, A0, H0, ck, cn⟩ := X
  obtain ⟨hx, hb, hml, hown, hts, hK, hD, hA, hR⟩ := C
  intro L st M h H locs ls hP hS hl
  exact lv_ldc2 hx hb hown (hts _ hw) d (k L _ M h H locs ls hP hS hl)
theorem ss_il {i : Nat} (C : k_C ad X cc own nL fr lo) (d : decode cc pc = .ok (.iload i, 2)) (k : Sd ad X (pc + 2) t) : Sd ad X pc (tt_il i t) := by
  obtain ⟨p, l, e, R, s, m, args, below, meth, c, Q, D, cI, cL, A0, H0, ck, cn⟩ := X
  obtain ⟨hx, hb, hml, hown, hts, hK, hD, hA, hR⟩ := C
  intro L st M h H locs ls hP hS hl
  unfold tt_il at h
  split at h
  · next x hi => exact lv_iload hx hb d (k_has hl hi) (k L _ M h H locs ls hP hS hl)
  · exact h.elim
theorem ss_il0 {i : Nat} {f : Fin 4} (C : k_C ad X cc own nL fr lo) (d : decode cc pc = .ok (.iload_n f, 1)) (hf : (f : Nat) = i) (k : Sd ad X (pc + 1) t) : Sd ad X pc (tt_il i t) := by
  obtain ⟨p, l, e, R, s, m, args, below, meth, c, Q, D, cI, cL, A0, H0, ck, cn⟩ := X
  obtain ⟨hx, hb, hml, hown, hts, hK, hD, hA, hR⟩ := C
  intro L st M h H locs ls hP hS hl
  unfold tt_il at h
  split at h
  · next x hi => exact lv_iload_n hx hb d hf (k_has hl hi) (k L _ M h H locs ls hP hS hl)
  · exact h.elim
theorem ss_ll {i : Nat} (C : k_C ad X cc own nL fr lo) (d : decode cc pc = .ok (.lload i, 2)) (k : Sd ad X (pc + 2) t) : Sd ad X pc (tt_ll i t) := by
  obtain ⟨p, l, e, R, s, m, args, below, meth, c, Q, D, cI, cL, A0, H0, ck, cn⟩ := X
  obtain ⟨hx, hb, hml, hown, hts, hK, hD, hA, hR⟩ := C
  intro L st M h H locs ls hP hS hl
  unfold tt_ll at h
  split at h
  · next x hi => exact lv_lload hx hb d (k_has hl hi) (k L _ M h H locs ls hP hS hl)
  · exact h.elim
theorem ss_ll0 {i : Nat} {f : Fin 4} (C : k_C ad X cc own nL fr lo) (d : decode cc pc = .ok (.lload_n f, 1)) (hf : (f : Nat) = i) (k : Sd ad X (pc + 1) t) : Sd ad X pc (tt_ll i t) := by
  obtain ⟨p, l, e, R, s, m, args, below, meth, c, Q, D, cI, cL, A0, H0, ck, cn⟩ := X
  obtain ⟨hx, hb, hml, hown, hts, hK, hD, hA, hR⟩ := C
  intro L st M h H locs ls hP hS hl
  unfold tt_ll at h
  split at h
  · next x hi => exact lv_lload_n hx hb d hf (k_has hl hi) (k L _ M h H locs ls hP hS hl)
  · exact h.elim
theorem ss_al {i : Nat} (C : k_C ad X cc own nL fr lo) (d : decode cc pc = .ok (.aload i, 2)) (k : Sd ad X (pc + 2) t) : Sd ad X pc (tt_al i t) := by
  obtain ⟨p, l, e, R, s, m, args, below, meth, c, Q, D, cI, cL, A0, H0, ck, cn⟩ := X
  obtain ⟨hx, hb, hml, hown, hts, hK, hD, hA, hR⟩ := C
  intro L st M h H locs ls hP hS hl
  unfold tt_al at h
  split at h
  · next x hi => exact lv_aload hx hb d (k_has hl hi) (k L _ M h H locs ls hP hS hl)
  · exact h.elim
theorem ss_al0 {i : Nat} {f : Fin 4} (C : k_C ad X cc own nL fr lo) (d : decode cc pc = .ok (.aload_n f, 1)) (hf : (f : Nat) = i) (k : Sd ad X (pc + 1) t) : Sd ad X pc (tt_al i t) := by
  obtain ⟨p, l, e, R, s, m, args, below, meth, c, Q, D, cI, cL, A0, H0, ck, cn⟩ := X
  obtain ⟨hx, hb, hml, hown, hts, hK, hD, hA, hR⟩ := C
  intro L st M h H locs ls hP hS hl
  unfold tt_al at h
  split at h
  · next x hi => exact lv_aload_n hx hb d hf (k_has hl hi) (k L _ M h H locs ls hP hS hl)
  · exact h.elim
theorem ss_is {i : Nat} (C : k_C ad X cc own nL fr lo) (d : decode cc pc = .ok (.istore i, 2)) (hn : i < nL) (k : Sd ad X (pc + 2) t) : Sd ad X pc (tt_is i t) := by
  obtain ⟨p, l, e, R, s, m, args, below, meth, c, Q, D, cI, cL, A0, H0, ck, cn⟩ := X
  obtain ⟨hx, hb, hml, hown, hts, hK, hD, hA, hR⟩ := C
  intro L st M h H locs ls hP hS hl
  unfold tt_is at h
  split at h
  · exact lv_istore hx hb d hl (by rw [hml]; exact hn) rfl (fun ls' hl' => k _ _ M h H locs ls' hP hS (k_has_sv hl'))
  · exact h.elim
theorem ss_is0 {i : Nat} {f : Fin 4} (C : k_C ad X cc own nL fr lo) (d : decode cc pc = .ok (.istore_n f, 1)) (hf : (f : Nat) = i) (hn : i < nL) (k : Sd ad X (pc + 1) t) : Sd ad X pc (tt_is i t) := by
  obtain ⟨p, l, e, R, s, m, args, below, meth, c, Q, D, cI, cL, A0, H0, ck, cn⟩ := X
  obtain ⟨hx, hb, hml, hown, hts, hK, hD, hA, hR⟩ := C
  intro L st M h H locs ls hP hS hl
  unfold tt_is at h
  split at h
  · exact lv_istore_n hx hb d hf hl (by rw [hml]; exact hn) rfl (fun ls' hl' => k _ _ M h H locs ls' hP hS (k_has_sv hl'))
  · exact h.elim
theorem ss_ls {i : Nat} (C : k_C ad X cc own nL fr lo) (d : decode cc pc = .ok (.lstore i, 2)) (hn : i + 1 < nL) (k : Sd ad X (pc + 2) t) : Sd ad X pc (tt_lsv i t) := by
  obtain ⟨p, l, e, R, s, m, args, below, meth, c, Q, D, cI, cL, A0, H0, ck, cn⟩ := X
  obtain ⟨hx, hb, hml, hown, hts, hK, hD, hA, hR⟩ := C
  intro L st M h H locs ls hP hS hl
  unfold tt_lsv at h
  split at h
  · exact lv_lstore hx hb d hl (by rw [hml]; exact hn) rfl (fun ls' hl' => k _ _ M h H locs ls' hP hS (k_has_sv2 hl'))
  · exact h.elim
theorem ss_ls0 {i : Nat} {f : Fin 4} (C : k_C ad X cc own nL fr lo) (d : decode cc pc = .ok (.lstore_n f, 1)) (hf : (f : Nat) = i) (hn : i + 1 < nL) (k : Sd ad X (pc + 1) t) : Sd ad X pc (tt_lsv i t) := by
  obtain ⟨p, l, e, R, s, m, args, below, meth, c, Q, D, cI, cL, A0, H0, ck, cn⟩ := X
  obtain ⟨hx, hb, hml, hown, hts, hK, hD, hA, hR⟩ := C
  intro L st M h H locs ls hP hS hl
  unfold tt_lsv at h
  split at h
  · exact lv_lstore_n hx hb d hf hl (by rw [hml]; exact hn) rfl (fun ls' hl' => k _ _ M h H locs ls' hP hS (k_has_sv2 hl'))
  · exact h.elim
theorem ss_as {i : Nat} (C : k_C ad X cc own nL fr lo) (d : decode cc pc = .ok (.astore i, 2)) (hn : i < nL) (k : Sd ad X (pc + 2) t) : Sd ad X pc (tt_as i t) := by
  obtain ⟨p, l, e, R, s, m, args, below, meth, c, Q, D, cI, cL, A0, H0, ck, cn⟩ := X
  obtain ⟨hx, hb, hml, hown, hts, hK, hD, hA, hR⟩ := C
  intro L st M h H locs ls hP hS hl
  unfold tt_as at h
  split at h
  · exact lv_astore hx hb d hl (by rw [hml]; exact hn) rfl (fun ls' hl' => k _ _ M h H locs ls' hP hS (k_has_sv hl'))
  · exact h.elim
theorem ss_as0 {i : Nat} {f : Fin 4} (C : k_C ad X cc own nL fr lo) (d : decode cc pc = .ok (.astore_n f, 1)) (hf : (f : Nat) = i) (hn : i < nL) (k : Sd ad X (pc + 1) t) : Sd ad X pc (tt_as i t) := by
  obtain ⟨p, l, e, R, s, m, args, below, meth, c, Q, D, cI, cL, A0, H0, ck, cn⟩ := X
  obtain ⟨hx, hb, hml, hown, hts, hK, hD, hA, hR⟩ := C
  intro L st M h H locs ls hP hS hl
  unfold tt_as at h
  split at h
  · exact lv_astore_n hx hb d hf hl (by rw [hml]; exact hn) rfl (fun ls' hl' => k _ _ M h H locs ls' hP hS (k_has_sv hl'))
  · exact h.elim
theorem ss_inc {i : Nat} {n : Int} {v : Int32} (C : k_C ad X cc own nL fr lo) (d : decode cc pc = .ok (.iinc i n, 3)) (hv : Int32.ofInt n = v) (hn : i < nL) (k : Sd ad X (pc + 3) t) : Sd ad X pc (tt_inc i v t) := by
  obtain ⟨p, l, e, R, s, m, args, below, meth, c, Q, D, cI, cL, A0, H0, ck, cn⟩ := X
  obtain ⟨hx, hb, hml, hown, hts, hK, hD, hA, hR⟩ := C
  intro L st M h H locs ls hP hS hl
  unfold tt_inc at h
  split at h
  · next x hi =>
    obtain ⟨q, hq⟩ := List.getElem?_of_mem ((k_asc_mem L 0 i _).mpr ⟨i, by omega, hi⟩)
    exact lv_iinc hx hb d hl hq (by rw [hv]) (by rw [hml]; exact hn) rfl (fun ls' hl' => k _ _ M h H locs ls' hP hS (k_has_sv hl'))
  · exact h.elim
theorem ss_add (C : k_C ad X cc own nL fr lo) (d : decode cc pc = .ok (.iadd, 1)) (k : Sd ad X (pc + 1) t) : Sd ad X pc (tt_add t) := by
  obtain ⟨p, l, e, R, s, m, args, below, meth, c, Q, D, cI, cL, A0, H0, ck, cn⟩ := X
  obtain ⟨hx, hb, hml, hown, hts, hK, hD, hA, hR⟩ := C
  intro L st M h H locs ls hP hS hl
  unfold tt_add at h
  split at h
  · exact lv_iadd hx hb d (k L _ M h H locs ls hP hS hl)
  · exact h.elim
theorem ss_sub (C : k_C ad X cc own nL fr lo) (d : decode cc pc = .ok (.isub, 1)) (k : Sd ad X (pc + 1) t) : Sd ad X pc (tt_sub t) := by
  obtain ⟨p, l, e, R, s, m, args, below, meth, c, Q, D, cI, cL, A0, H0, ck, cn⟩ := X
  obtain ⟨hx, hb, hml, hown, hts, hK, hD, hA, hR⟩ := C
  intro L st M h H locs ls hP hS hl
  unfold tt_sub at h
  split at h
  · exact lv_isub hx hb d (k L _ M h H locs ls hP hS hl)
  · exact h.elim
theorem ss_mul (C : k_C ad X cc own nL fr lo) (d : decode cc pc = .ok (.imul, 1)) (k : Sd ad X (pc + 1) t) : Sd ad X pc (tt_mul t) := by
  obtain ⟨p, l, e, R, s, m, args, below, meth, c, Q, D, cI, cL, A0, H0, ck, cn⟩ := X
  obtain ⟨hx, hb, hml, hown, hts, hK, hD, hA, hR⟩ := C
  intro L st M h H locs ls hP hS hl
  unfold tt_mul at h
  split at h
  · exact lv_imul hx hb d (k L _ M h H locs ls hP hS hl)
  · exact h.elim
theorem ss_and (C : k_C ad X cc own nL fr lo) (d : decode cc pc = .ok (.iand, 1)) (k : Sd ad X (pc + 1) t) : Sd ad X pc (tt_and t) := by
  obtain ⟨p, l, e, R, s, m, args, below, meth, c, Q, D, cI, cL, A0, H0, ck, cn⟩ := X
  obtain ⟨hx, hb, hml, hown, hts, hK, hD, hA, hR⟩ := C
  intro L st M h H locs ls hP hS hl
  unfold tt_and at h
  split at h
  · exact lv_iand hx hb d (k L _ M h H locs ls hP hS hl)
  · exact h.elim
theorem ss_ladd (C : k_C ad X cc own nL fr lo) (d : decode cc pc = .ok (.ladd, 1)) (k : Sd ad X (pc + 1) t) : Sd ad X pc (tt_ladd t) := by
  obtain ⟨p, l, e, R, s, m, args, below, meth, c, Q, D, cI, cL, A0, H0, ck, cn⟩ := X
  obtain ⟨hx, hb, hml, hown, hts, hK, hD, hA, hR⟩ := C
  intro L st M h H locs ls hP hS hl
  unfold tt_ladd at h
  split at h
  · exact lv_ladd hx hb d (k L _ M h H locs ls hP hS hl)
  · exact h.elim
theorem ss_lmul (C : k_C ad X cc own nL fr lo) (d : decode cc pc = .ok (.lmul, 1)) (k : Sd ad X (pc + 1) t) : Sd ad X pc (tt_lmul t) := by
  obtain ⟨p, l, e, R, s, m, args, below, meth, c, Q, D, cI, cL, A0, H0, ck, cn⟩ := X
  obtain ⟨hx, hb, hml, hown, hts, hK, hD, hA, hR⟩ := C
  intro L st M h H locs ls hP hS hl
  unfold tt_lmul at h
  split at h
  · exact lv_lmul hx hb d (k L _ M h H locs ls hP hS hl)
  · exact h.elim
theorem ss_i2l (C : k_C ad X cc own nL fr lo) (d : decode cc pc = .ok (.i2l, 1)) (k : Sd ad X (pc + 1) t) : Sd ad X pc (tt_i2l t) := by
  obtain ⟨p, l, e, R, s, m, args, below, meth, c, Q, D, cI, cL, A0, H0, ck, cn⟩ := X
  obtain ⟨hx, hb, hml, hown, hts, hK, hD, hA, hR⟩ := C
  intro L st M h H locs ls hP hS hl
  unfold tt_i2l at h
  split at h
  · exact lv_i2l hx hb d rfl (k L _ M h H locs ls hP hS hl)
  · exact h.elim
theorem ss_lcmp (C : k_C ad X cc own nL fr lo) (d : decode cc pc = .ok (.lcmp, 1)) (k : Sd ad X (pc + 1) t) : Sd ad X pc (tt_lcmp t) := by
  obtain ⟨p, l, e, R, s, m, args, below, meth, c, Q, D, cI, cL, A0, H0, ck, cn⟩ := X
  obtain ⟨hx, hb, hml, hown, hts, hK, hD, hA, hR⟩ := C
  intro L st M h H locs ls hP hS hl
  unfold tt_lcmp at h
  split at h
  · exact W.lcmp hx hb d (k L _ M h H locs ls hP hS hl)
  · exact h.elim
theorem ss_dupr (C : k_C ad X cc own nL fr lo) (d : decode cc pc = .ok (.dup, 1)) (k : Sd ad X (pc + 1) t) : Sd ad X pc (tt_dupr t) := by
  obtain ⟨p, l, e, R, s, m, args, below, meth, c, Q, D, cI, cL, A0, H0, ck, cn⟩ := X
  obtain ⟨hx, hb, hml, hown, hts, hK, hD, hA, hR⟩ := C
  intro L st M h H locs ls hP hS hl
  unfold tt_dupr at h
  split at h
  · exact lv_dup hx hb d rfl (k L _ M h H locs ls hP hS hl)
  · exact h.elim
theorem ss_dup2 (C : k_C ad X cc own nL fr lo) (d : decode cc pc = .ok (.dup2, 1)) (k : Sd ad X (pc + 1) t) : Sd ad X pc (tt_dup2 t) := by
  obtain ⟨p, l, e, R, s, m, args, below, meth, c, Q, D, cI, cL, A0, H0, ck, cn⟩ := X
  obtain ⟨hx, hb, hml, hown, hts, hK, hD, hA, hR⟩ := C
  intro L st M h H locs ls hP hS hl
  unfold tt_dup2 at h
  split at h
  · exact lv_dup2_11 hx hb d rfl rfl (k L _ M h H locs ls hP hS hl)
  · exact h.elim
theorem ss_eq0 {off : Int} {tgt : Nat} (C : k_C ad X cc own nL fr lo) (d : decode cc pc = .ok (.ifCond .eq off, 3)) (ht : (pc : Int) + off = (tgt : Int)) (k1 : Sd ad X tgt t1) (k2 : Sd ad X (pc + 3) t2) : Sd ad X pc (tt_eq0 t1 t2) := by
  obtain ⟨p, l, e, R, s, m, args, below, meth, c, Q, D, cI, cL, A0, H0, ck, cn⟩ := X
  obtain ⟨hx, hb, hml, hown, hts, hK, hD, hA, hR⟩ := C
  intro L st M h H locs ls hP hS hl
  unfold tt_eq0 at h
  split at h
  · exact lv_if_eq hx hb d ht (fun q => k1 L _ M (h.1 q) H locs ls hP hS hl) (fun q => k2 L _ M (h.2 q) H locs ls hP hS hl)
  · exact h.elim
theorem ss_lt0 {off : Int} {tgt : Nat} (C : k_C ad X cc own nL fr lo) (d : decode cc pc = .ok (.ifCond .lt off, 3)) (ht : (pc : Int) + off = (tgt : Int)) (k1 : Sd ad X tgt t1) (k2 : Sd ad X (pc + 3) t2) : Sd ad X pc (tt_lt0 t1 t2) := by
  obtain ⟨p, l, e, R, s, m, args, below, meth, c, Q, D, cI, cL, A0, H0, ck, cn⟩ := X
  obtain ⟨hx, hb, hml, hown, hts, hK, hD, hA, hR⟩ := C
  intro L st M h H locs ls hP hS hl
  unfold tt_lt0 at h
  split at h
  · exact lv_if_lt hx hb d ht (fun q => k1 L _ M (h.1 q) H locs ls hP hS hl) (fun q => k2 L _ M (h.2 q) H locs ls hP hS hl)
  · exact h.elim
theorem ss_le0 {off : Int} {tgt : Nat} (C : k_C ad X cc own nL fr lo) (d : decode cc pc = .ok (.ifCond .le off, 3)) (ht : (pc : Int) + off = (tgt : Int)) (k1 : Sd ad X tgt t1) (k2 : Sd ad X (pc + 3) t2) : Sd ad X pc (tt_le0 t1 t2) := by
  obtain ⟨p, l, e, R, s, m, args, below, meth, c, Q, D, cI, cL, A0, H0, ck, cn⟩ := X
  obtain ⟨hx, hb, hml, hown, hts, hK, hD, hA, hR⟩ := C
  intro L st M h H locs ls hP hS hl
  unfold tt_le0 at h
  split at h
  · exact lv_if_le hx hb d ht (fun q => k1 L _ M (h.1 q) H locs ls hP hS hl) (fun q => k2 L _ M (h.2 q) H locs ls hP hS hl)
  · exact h.elim
theorem ss_ge0 {off : Int} {tgt : Nat} (C : k_C ad X cc own nL fr lo) (d : decode cc pc = .ok (.ifCond .ge off, 3)) (ht : (pc : Int) + off = (tgt : Int)) (k1 : Sd ad X tgt t1) (k2 : Sd ad X (pc + 3) t2) : Sd ad X pc (tt_ge0 t1 t2) := by
  obtain ⟨p, l, e, R, s, m, args, below, meth, c, Q, D, cI, cL, A0, H0, ck, cn⟩ := X
  obtain ⟨hx, hb, hml, hown, hts, hK, hD, hA, hR⟩ := C
  intro L st M h H locs ls hP hS hl
  unfold tt_ge0 at h
  split at h
  · exact lv_if_ge hx hb d ht (fun q => k1 L _ M (h.1 q) H locs ls hP hS hl) (fun q => k2 L _ M (h.2 q) H locs ls hP hS hl)
  · exact h.elim
theorem ss_gt0 {off : Int} {tgt : Nat} (C : k_C ad X cc own nL fr lo) (d : decode cc pc = .ok (.ifCond .gt off, 3)) (ht : (pc : Int) + off = (tgt : Int)) (k1 : Sd ad X tgt t1) (k2 : Sd ad X (pc + 3) t2) : Sd ad X pc (tt_gt0 t1 t2) := by
  obtain ⟨p, l, e, R, s, m, args, below, meth, c, Q, D, cI, cL, A0, H0, ck, cn⟩ := X
  obtain ⟨hx, hb, hml, hown, hts, hK, hD, hA, hR⟩ := C
  intro L st M h H locs ls hP hS hl
  unfold tt_gt0 at h
  split at h
  · exact lv_if_gt hx hb d ht (fun q => k1 L _ M (h.1 q) H locs ls hP hS hl) (fun q => k2 L _ M (h.2 q) H locs ls hP hS hl)
  · exact h.elim
theorem ss_eq2 {off : Int} {tgt : Nat} (C : k_C ad X cc own nL fr lo) (d : decode cc pc = .ok (.if_icmp .eq off, 3)) (ht : (pc : Int) + off = (tgt : Int)) (k1 : Sd ad X tgt t1) (k2 : Sd ad X (pc + 3) t2) : Sd ad X pc (tt_eq2 t1 t2) := by
  obtain ⟨p, l, e, R, s, m, args, below, meth, c, Q, D, cI, cL, A0, H0, ck, cn⟩ := X
  obtain ⟨hx, hb, hml, hown, hts, hK, hD, hA, hR⟩ := C
  intro L st M h H locs ls hP hS hl
  unfold tt_eq2 at h
  split at h
  · exact lv_icmp_eq hx hb d ht (fun q => k1 L _ M (h.1 q) H locs ls hP hS hl) (fun q => k2 L _ M (h.2 q) H locs ls hP hS hl)
  · exact h.elim
theorem ss_lt2 {off : Int} {tgt : Nat} (C : k_C ad X cc own nL fr lo) (d : decode cc pc = .ok (.if_icmp .lt off, 3)) (ht : (pc : Int) + off = (tgt : Int)) (k1 : Sd ad X tgt t1) (k2 : Sd ad X (pc + 3) t2) : Sd ad X pc (tt_lt2 t1 t2) := by
  obtain ⟨p, l, e, R, s, m, args, below, meth, c, Q, D, cI, cL, A0, H0, ck, cn⟩ := X
  obtain ⟨hx, hb, hml, hown, hts, hK, hD, hA, hR⟩ := C
  intro L st M h H locs ls hP hS hl
  unfold tt_lt2 at h
  split at h
  · exact lv_icmp_lt hx hb d ht (fun q => k1 L _ M (h.1 q) H locs ls hP hS hl) (fun q => k2 L _ M (h.2 q) H locs ls hP hS hl)
  · exact h.elim
theorem ss_ge2 {off : Int} {tgt : Nat} (C : k_C ad X cc own nL fr lo) (d : decode cc pc = .ok (.if_icmp .ge off, 3)) (ht : (pc : Int) + off = (tgt : Int)) (k1 : Sd ad X tgt t1) (k2 : Sd ad X (pc + 3) t2) : Sd ad X pc (tt_ge2 t1 t2) := by
  obtain ⟨p, l, e, R, s, m, args, below, meth, c, Q, D, cI, cL, A0, H0, ck, cn⟩ := X
  obtain ⟨hx, hb, hml, hown, hts, hK, hD, hA, hR⟩ := C
  intro L st M h H locs ls hP hS hl
  unfold tt_ge2 at h
  split at h
  · exact lv_icmp_ge hx hb d ht (fun q => k1 L _ M (h.1 q) H locs ls hP hS hl) (fun q => k2 L _ M (h.2 q) H locs ls hP hS hl)
  · exact h.elim
theorem ss_gt2 {off : Int} {tgt : Nat} (C : k_C ad X cc own nL fr lo) (d : decode cc pc = .ok (.if_icmp .gt off, 3)) (ht : (pc : Int) + off = (tgt : Int)) (k1 : Sd ad X tgt t1) (k2 : Sd ad X (pc + 3) t2) : Sd ad X pc (tt_gt2 t1 t2) := by
  obtain ⟨p, l, e, R, s, m, args, below, meth, c, Q, D, cI, cL, A0, H0, ck, cn⟩ := X
  obtain ⟨hx, hb, hml, hown, hts, hK, hD, hA, hR⟩ := C
  intro L st M h H locs ls hP hS hl
  unfold tt_gt2 at h
  split at h
  · exact lv_icmp_gt hx hb d ht (fun q => k1 L _ M (h.1 q) H locs ls hP hS hl) (fun q => k2 L _ M (h.2 q) H locs ls hP hS hl)
  · exact h.elim
theorem ss_le2 {off : Int} {tgt : Nat} (C : k_C ad X cc own nL fr lo) (d : decode cc pc = .ok (.if_icmp .le off, 3)) (ht : (pc : Int) + off = (tgt : Int)) (k1 : Sd ad X tgt t1) (k2 : Sd ad X (pc + 3) t2) : Sd ad X pc (tt_le2 t1 t2) := by
  obtain ⟨p, l, e, R, s, m, args, below, meth, c, Q, D, cI, cL, A0, H0, ck, cn⟩ := X
  obtain ⟨hx, hb, hml, hown, hts, hK, hD, hA, hR⟩ := C
  intro L st M h H locs ls hP hS hl
  unfold tt_le2 at h
  split at h
  · exact lv_icmp_le hx hb d ht (fun q => k1 L _ M (h.1 q) H locs ls hP hS hl) (fun q => k2 L _ M (h.2 q) H locs ls hP hS hl)
  · exact h.elim
theorem ss_ne0 {off : Int} {tgt : Nat} (C : k_C ad X cc own nL fr lo) (d : decode cc pc = .ok (.ifCond .ne off, 3)) (ht : (pc : Int) + off = (tgt : Int)) (k1 : Sd ad X tgt t1) (k2 : Sd ad X (pc + 3) t2) : Sd ad X pc (tt_eq0 t2 t1) := by
  obtain ⟨p, l, e, R, s, m, args, below, meth, c, Q, D, cI, cL, A0, H0, ck, cn⟩ := X
  obtain ⟨hx, hb, hml, hown, hts, hK, hD, hA, hR⟩ := C
  intro L st M h H locs ls hP hS hl
  unfold tt_eq0 at h
  split at h
  · exact lv_if_ne hx hb d ht (fun q => k1 L _ M (h.2 q) H locs ls hP hS hl) (fun q => k2 L _ M (h.1 q) H locs ls hP hS hl)
  · exact h.elim
theorem ss_ne2 {off : Int} {tgt : Nat} (C : k_C ad X cc own nL fr lo) (d : decode cc pc = .ok (.if_icmp .ne off, 3)) (ht : (pc : Int) + off = (tgt : Int)) (k1 : Sd ad X tgt t1) (k2 : Sd ad X (pc + 3) t2) : Sd ad X pc (tt_eq2 t2 t1) := by
  obtain ⟨p, l, e, R, s, m, args, below, meth, c, Q, D, cI, cL, A0, H0, ck, cn⟩ := X
  obtain ⟨hx, hb, hml, hown, hts, hK, hD, hA, hR⟩ := C
  intro L st M h H locs ls hP hS hl
  unfold tt_eq2 at h
  split at h
  · exact lv_icmp_ne hx hb d ht (fun q => k1 L _ M (h.2 q) H locs ls hP hS hl) (fun q => k2 L _ M (h.1 q) H locs ls hP hS hl)
  · exact h.elim
theorem ss_lp {B : Tr → Tr} (h : ∀ k : Tr, Sd ad X pc k → Sd ad X pc (B k)) : Sd ad X pc (tt_lp B) := by
  have key : ∀ n, Sd ad X pc (tt_it B n) := by
    intro n
    induction n with
    | zero => exact fun L st M q => q.elim
    | succ n ih => exact h _ ih
  intro L st M ⟨n, q⟩
  exact key n L st M q
end KS
end
section
/-! fields, rows, returns, calls -/
theorem k_inX0 : ∀ w ∈ u_ws RX0 TX0 1, w ∈ k_G := by decide +kernel
theorem k_inX1 : ∀ w ∈ u_ws RX1 TX1 1, w ∈ k_G := by decide +kernel
theorem k_inX2 : ∀ w ∈ u_ws RX2 TX2 3, w ∈ k_G := by decide +kernel
theorem k_inX3 : ∀ w ∈ u_ws RX3 TX3 3, w ∈ k_G := by decide +kernel
theorem k_inX4 : ∀ w ∈ u_ws RX4 TX4 5, w ∈ k_G := by decide +kernel
section KM
variable {ad : Nat → Nat} {X : Cx} {cc : ByteArray} {own : String} {nL fr lo pc : Nat} {t t1 t2 : Tr}
theorem ss_gr {o o2 index ci N k : Nat} {C : String} {T : u_T} (C0 : k_C ad X cc own nL fr lo) (d : decode cc pc = .ok (.getfield index, 3)) (hin : ∀ w ∈ u_ws C T N, w ∈ k_G) (hc : vwCl[ci]? = some (C, T, N)) (hk : k < N) (hlink : Cond.fieldLink own index (T k).1 (T k).2.1 (T k).2.2.1 ∈ k_G)
    (hW : ∀ cI cL M, ∃ fs, (k_W ad cI cL M)[o]? = some (ad o, .inr (ci, fs)) ∧ fs[k]? = some (.ref (ad o2))) (k0 : Sd ad X (pc + 3) t) : Sd ad X pc (tt_gr ad o o2 t) := by
  obtain ⟨p, l, e, R, s, m, args, below, meth, c, Q, D, cI, cL, A0, H0, ck, cn⟩ := X
  obtain ⟨hx, hb, hml, hown, hts, hK, hD, hA, hR⟩ := C0
  intro L st M h H locs ls hP hS hl
  unfold tt_gr at h
  split at h
  · obtain ⟨rfl, h⟩ := h
    obtain ⟨fs, h1, h2⟩ := hW cI cL M
    exact va_get hx hb hts hin hown hK hP o h1 hc k hk (hts _ hlink) (fun _ h9 => h9) h2 d (k0 L _ M h H locs ls hP hS hl)
  · exact h.elim
theorem ss_gi {o j index ci N k : Nat} {C : String} {T : u_T} (C0 : k_C ad X cc own nL fr lo) (d : decode cc pc = .ok (.getfield index, 3)) (hin : ∀ w ∈ u_ws C T N, w ∈ k_G) (hc : vwCl[ci]? = some (C, T, N)) (hk : k < N) (hlink : Cond.fieldLink own index (T k).1 (T k).2.1 (T k).2.2.1 ∈ k_G)
    (hW : ∀ cI cL M, ∃ fs, (k_W ad cI cL M)[o]? = some (ad o, .inr (ci, fs)) ∧ fs[k]? = some (.int (M.1 4 j))) (k0 : Sd ad X (pc + 3) t) : Sd ad X pc (tt_gi ad o j t) := by
  obtain ⟨p, l, e, R, s, m, args, below, meth, c, Q, D, cI, cL, A0, H0, ck, cn⟩ := X
  obtain ⟨hx, hb, hml, hown, hts, hK, hD, hA, hR⟩ := C0
  intro L st M h H locs ls hP hS hl
  unfold tt_gi at h
  split at h
  · obtain ⟨rfl, h⟩ := h
    obtain ⟨fs, h1, h2⟩ := hW cI cL M
    exact va_get hx hb hts hin hown hK hP o h1 hc k hk (hts _ hlink) (fun _ h9 => h9) h2 d (k0 L _ M h H locs ls hP hS hl)
  · exact h.elim
theorem ss_pi {o j index ci N k : Nat} {C : String} {T : u_T} {ty0 : Nat → FieldType} (C0 : k_C ad X cc own nL fr lo) (d : decode cc pc = .ok (.putfield index, 3)) (hin : ∀ w ∈ u_ws C T N, w ∈ k_G) (hty : ∀ k, k < N → parseFieldDescriptor (T k).2.2.1 = some (ty0 k)) (hnm : ∀ a, a < N → ∀ b, b < N → a ≠ b → (T a).2.1 ≠ (T b).2.1) (hc : vwCl[ci]? = some (C, T, N)) (hk : k < N) (hfin : (T k).2.2.2 = false) (hd : parseFieldDescriptor (T k).2.2.1 = some .int) (hlink : Cond.fieldLink own index (T k).1 (T k).2.1 (T k).2.2.1 ∈ k_G)
    (hW : ∀ cI cL M v, ∃ fs, (k_W ad cI cL M)[o]? = some (ad o, .inr (ci, fs)) ∧ k < fs.length ∧ (k_W ad cI cL M).set o (ad o, .inr (ci, fs.set k (.int v))) = k_W ad cI cL (k_up M 4 j v)) (k0 : Sd ad X (pc + 3) t) : Sd ad X pc (tt_pi ad o j t) := by
  obtain ⟨p, l, e, R, s, m, args, below, meth, c, Q, D, cI, cL, A0, H0, ck, cn⟩ := X
  obtain ⟨hx, hb, hml, hown, hts, hK, hD, hA, hR⟩ := C0
  intro L st M h H locs ls hP hS hl
  unfold tt_pi at h
  split at h
  · next v a st1 =>
    obtain ⟨rfl, h⟩ := h
    obtain ⟨fs, h1, h2, h3⟩ := hW cI cL M v
    exact va_put hx hb hts hin ty0 hty hnm hown hK hP (hD M) hS o h1 hc k hk (hts _ hlink) (fun _ h9 => h9) hfin hd rfl rfl h2 d (fun H1 locs1 hP1 _ hS1 => k0 L _ _ h H1 locs1 ls (by rw [← h3]; exact hP1) hS1 hl)
  · exact h.elim
theorem ss_gl {index : Nat} (C0 : k_C ad X cc own nL fr lo) (d : decode cc pc = .ok (.getfield index, 3)) (hlink : Cond.fieldLink own index "StripeTreesModel" "hash" "J" ∈ k_G) (k0 : Sd ad X (pc + 3) t) : Sd ad X pc (tt_gl ad t) := by
  obtain ⟨p, l, e, R, s, m, args, below, meth, c, Q, D, cI, cL, A0, H0, ck, cn⟩ := X
  obtain ⟨hx, hb, hml, hown, hts, hK, hD, hA, hR⟩ := C0
  intro L st M h H locs ls hP hS hl
  unfold tt_gl at h
  split at h
  · obtain ⟨rfl, h⟩ := h
    exact va_get (C := RX4) (T := TX4) (N := 5) (ci := 4) (ref := "StripeTreesModel") hx hb hts k_inX4 hown hK hP 6 rfl rfl 4 (by decide) (hts _ hlink) (fun _ h9 => h9) rfl d (k0 L _ M h H locs ls hP hS hl)
  · exact h.elim
theorem ss_pl {index : Nat} (C0 : k_C ad X cc own nL fr lo) (d : decode cc pc = .ok (.putfield index, 3)) (hlink : Cond.fieldLink own index "StripeTreesModel" "hash" "J" ∈ k_G) (k0 : Sd ad X (pc + 3) t) : Sd ad X pc (tt_pl ad t) := by
  obtain ⟨p, l, e, R, s, m, args, below, meth, c, Q, D, cI, cL, A0, H0, ck, cn⟩ := X
  obtain ⟨hx, hb, hml, hown, hts, hK, hD, hA, hR⟩ := C0
  intro L st M h H locs ls hP hS hl
  unfold tt_pl at h
  split at h
  · next v a st1 =>
    obtain ⟨rfl, h⟩ := h
    exact va_put (C := RX4) (T := TX4) (N := 5) (ci := 4) (ty := .long) (ref := "StripeTreesModel") hx hb hts k_inX4 tyX4 tyX4_ok nmX4 hown hK hP (hD M) hS 6 rfl rfl 4 (by decide) (hts _ hlink) (fun _ h9 => h9) rfl (by decide +kernel) rfl rfl (by simp) d (fun H1 locs1 hP1 _ hS1 => k0 L _ _ h H1 locs1 ls hP1 hS1 hl)
  · exact h.elim
theorem ss_ia {o n r : Nat} (hW : ∀ cI cL M, (k_W ad cI cL M)[o]? = some (ad o, .inl (cI, n, .inl (M.1 r)))) (C0 : k_C ad X cc own nL fr lo) (d : decode cc pc = .ok (.iaload, 1)) (k0 : Sd ad X (pc + 1) t) : Sd ad X pc (tt_ia ad o n r t) := by
  obtain ⟨p, l, e, R, s, m, args, below, meth, c, Q, D, cI, cL, A0, H0, ck, cn⟩ := X
  obtain ⟨hx, hb, hml, hown, hts, hK, hD, hA, hR⟩ := C0
  intro L st M h H locs ls hP hS hl
  unfold tt_ia at h
  split at h
  · obtain ⟨rfl, hi, h⟩ := h
    exact va_iald hx hb hK hP o 0 (hW cI cL M) rfl hi d (k0 L _ M h H locs ls hP hS hl)
  · exact h.elim
theorem ss_st {o n r : Nat} (hW : ∀ cI cL M, (k_W ad cI cL M)[o]? = some (ad o, .inl (cI, n, .inl (M.1 r)))) (hU : ∀ cI cL M j x, (k_W ad cI cL M).set o (ad o, .inl (cI, n, .inl (upd (M.1 r) j x))) = k_W ad cI cL (k_up M r j x)) (C0 : k_C ad X cc own nL fr lo) (d : decode cc pc = .ok (.iastore, 1)) (k0 : Sd ad X (pc + 1) t) : Sd ad X pc (tt_st ad o n r t) := by
  obtain ⟨p, l, e, R, s, m, args, below, meth, c, Q, D, cI, cL, A0, H0, ck, cn⟩ := X
  obtain ⟨hx, hb, hml, hown, hts, hK, hD, hA, hR⟩ := C0
  intro L st M h H locs ls hP hS hl
  unfold tt_st at h
  split at h
  · obtain ⟨rfl, hi, h⟩ := h
    exact va_iast hx hb hK hP (hD M) hS o 0 (hW cI cL M) rfl hi d (fun H1 locs1 hP1 _ hS1 => k0 L _ _ h H1 locs1 ls (by rw [← hU]; exact hP1) hS1 hl)
  · exact h.elim
/-- the fields, one by one -/
theorem ss_X_trees {i : Nat} (C : k_C ad X cc own nL fr lo) (d : decode cc pc = .ok (.getfield i, 3)) (h : Cond.fieldLink own i "StripeTrees" "trees" "LStripeTrees$Trees;" ∈ k_G) (k : Sd ad X (pc + 3) t) : Sd ad X pc (tt_gr ad 0 1 t) := ss_gr (ci := 3) (k := 0) C d k_inX3 rfl (by decide) h (fun _ _ _ => ⟨_, rfl, rfl⟩) k
theorem ss_X_state {i : Nat} (C : k_C ad X cc own nL fr lo) (d : decode cc pc = .ok (.getfield i, 3)) (h : Cond.fieldLink own i "StripeTrees" "state" "LStripeTrees$State;" ∈ k_G) (k : Sd ad X (pc + 3) t) : Sd ad X pc (tt_gr ad 0 2 t) := ss_gr (ci := 3) (k := 1) C d k_inX3 rfl (by decide) h (fun _ _ _ => ⟨_, rfl, rfl⟩) k
theorem ss_X_undoStack {i : Nat} (C : k_C ad X cc own nL fr lo) (d : decode cc pc = .ok (.getfield i, 3)) (h : Cond.fieldLink own i "StripeTrees" "undoStack" "LStripeTrees$UndoStack;" ∈ k_G) (k : Sd ad X (pc + 3) t) : Sd ad X pc (tt_gr ad 0 3 t) := ss_gr (ci := 3) (k := 2) C d k_inX3 rfl (by decide) h (fun _ _ _ => ⟨_, rfl, rfl⟩) k
theorem ss_T_state {i : Nat} (C : k_C ad X cc own nL fr lo) (d : decode cc pc = .ok (.getfield i, 3)) (h : Cond.fieldLink own i "StripeTrees$Trees" "state" "LStripeTrees$State;" ∈ k_G) (k : Sd ad X (pc + 3) t) : Sd ad X pc (tt_gr ad 1 2 t) := ss_gr (ci := 1) (k := 0) C d k_inX1 rfl (by decide) h (fun _ _ _ => ⟨_, rfl, rfl⟩) k
theorem ss_S_cells {i : Nat} (C : k_C ad X cc own nL fr lo) (d : decode cc pc = .ok (.getfield i, 3)) (h : Cond.fieldLink own i "StripeTrees$State" "cells" "[I" ∈ k_G) (k : Sd ad X (pc + 3) t) : Sd ad X pc (tt_gr ad 2 4 t) := ss_gr (ci := 0) (k := 0) C d k_inX0 rfl (by decide) h (fun _ _ _ => ⟨_, rfl, rfl⟩) k
theorem ss_U_rows {i : Nat} (C : k_C ad X cc own nL fr lo) (d : decode cc pc = .ok (.getfield i, 3)) (h : Cond.fieldLink own i "StripeTrees$UndoStack" "rows" "[I" ∈ k_G) (k : Sd ad X (pc + 3) t) : Sd ad X pc (tt_gr ad 3 5 t) := ss_gr (ci := 2) (k := 0) C d k_inX2 rfl (by decide) h (fun _ _ _ => ⟨_, rfl, rfl⟩) k
theorem ss_M_m {i : Nat} (C : k_C ad X cc own nL fr lo) (d : decode cc pc = .ok (.getfield i, 3)) (h : Cond.fieldLink own i "StripeTreesModel" "m" "[I" ∈ k_G) (k : Sd ad X (pc + 3) t) : Sd ad X pc (tt_gr ad 6 7 t) := ss_gr (ci := 4) (k := 0) C d k_inX4 rfl (by decide) h (fun _ _ _ => ⟨_, rfl, rfl⟩) k
theorem ss_M_saved {i : Nat} (C : k_C ad X cc own nL fr lo) (d : decode cc pc = .ok (.getfield i, 3)) (h : Cond.fieldLink own i "StripeTreesModel" "saved" "[I" ∈ k_G) (k : Sd ad X (pc + 3) t) : Sd ad X pc (tt_gr ad 6 8 t) := ss_gr (ci := 4) (k := 1) C d k_inX4 rfl (by decide) h (fun _ _ _ => ⟨_, rfl, rfl⟩) k
theorem ss_U_saved {i : Nat} (C : k_C ad X cc own nL fr lo) (d : decode cc pc = .ok (.getfield i, 3)) (h : Cond.fieldLink own i "StripeTrees$UndoStack" "saved" "I" ∈ k_G) (k : Sd ad X (pc + 3) t) : Sd ad X pc (tt_gi ad 3 0 t) := ss_gi (ci := 2) (k := 1) C d k_inX2 rfl (by decide) h (fun _ _ _ => ⟨_, rfl, rfl⟩) k
theorem ss_U_next {i : Nat} (C : k_C ad X cc own nL fr lo) (d : decode cc pc = .ok (.getfield i, 3)) (h : Cond.fieldLink own i "StripeTrees$UndoStack" "next" "I" ∈ k_G) (k : Sd ad X (pc + 3) t) : Sd ad X pc (tt_gi ad 3 1 t) := ss_gi (ci := 2) (k := 2) C d k_inX2 rfl (by decide) h (fun _ _ _ => ⟨_, rfl, rfl⟩) k
theorem ss_M_savedCount {i : Nat} (C : k_C ad X cc own nL fr lo) (d : decode cc pc = .ok (.getfield i, 3)) (h : Cond.fieldLink own i "StripeTreesModel" "savedCount" "I" ∈ k_G) (k : Sd ad X (pc + 3) t) : Sd ad X pc (tt_gi ad 6 2 t) := ss_gi (ci := 4) (k := 2) C d k_inX4 rfl (by decide) h (fun _ _ _ => ⟨_, rfl, rfl⟩) k
theorem ss_M_code {i : Nat} (C : k_C ad X cc own nL fr lo) (d : decode cc pc = .ok (.getfield i, 3)) (h : Cond.fieldLink own i "StripeTreesModel" "code" "I" ∈ k_G) (k : Sd ad X (pc + 3) t) : Sd ad X pc (tt_gi ad 6 3 t) := ss_gi (ci := 4) (k := 3) C d k_inX4 rfl (by decide) h (fun _ _ _ => ⟨_, rfl, rfl⟩) k
theorem ss_U_saved_p {i : Nat} (C : k_C ad X cc own nL fr lo) (d : decode cc pc = .ok (.putfield i, 3)) (h : Cond.fieldLink own i "StripeTrees$UndoStack" "saved" "I" ∈ k_G) (k : Sd ad X (pc + 3) t) : Sd ad X pc (tt_pi ad 3 0 t) := ss_pi (ci := 2) (k := 1) C d k_inX2 tyX2_ok nmX2 rfl (by decide) rfl (by decide +kernel) h (fun _ _ _ _ => ⟨_, rfl, by simp, rfl⟩) k
theorem ss_U_next_p {i : Nat} (C : k_C ad X cc own nL fr lo) (d : decode cc pc = .ok (.putfield i, 3)) (h : Cond.fieldLink own i "StripeTrees$UndoStack" "next" "I" ∈ k_G) (k : Sd ad X (pc + 3) t) : Sd ad X pc (tt_pi ad 3 1 t) := ss_pi (ci := 2) (k := 2) C d k_inX2 tyX2_ok nmX2 rfl (by decide) rfl (by decide +kernel) h (fun _ _ _ _ => ⟨_, rfl, by simp, rfl⟩) k
theorem ss_M_savedCount_p {i : Nat} (C : k_C ad X cc own nL fr lo) (d : decode cc pc = .ok (.putfield i, 3)) (h : Cond.fieldLink own i "StripeTreesModel" "savedCount" "I" ∈ k_G) (k : Sd ad X (pc + 3) t) : Sd ad X pc (tt_pi ad 6 2 t) := ss_pi (ci := 4) (k := 2) C d k_inX4 tyX4_ok nmX4 rfl (by decide) rfl (by decide +kernel) h (fun _ _ _ _ => ⟨_, rfl, by simp, rfl⟩) k
theorem ss_M_code_p {i : Nat} (C : k_C ad X cc own nL fr lo) (d : decode cc pc = .ok (.putfield i, 3)) (h : Cond.fieldLink own i "StripeTreesModel" "code" "I" ∈ k_G) (k : Sd ad X (pc + 3) t) : Sd ad X pc (tt_pi ad 6 3 t) := ss_pi (ci := 4) (k := 3) C d k_inX4 tyX4_ok nmX4 rfl (by decide) rfl (by decide +kernel) h (fun _ _ _ _ => ⟨_, rfl, by simp, rfl⟩) k
theorem ss_ia4 (C : k_C ad X cc own nL fr lo) (d : decode cc pc = .ok (.iaload, 1)) (k : Sd ad X (pc + 1) t) : Sd ad X pc (tt_ia ad 4 463 0 t) := ss_ia (fun _ _ _ => rfl) C d k
theorem ss_ia5 (C : k_C ad X cc own nL fr lo) (d : decode cc pc = .ok (.iaload, 1)) (k : Sd ad X (pc + 1) t) : Sd ad X pc (tt_ia ad 5 1852 1 t) := ss_ia (fun _ _ _ => rfl) C d k
theorem ss_ia7 (C : k_C ad X cc own nL fr lo) (d : decode cc pc = .ok (.iaload, 1)) (k : Sd ad X (pc + 1) t) : Sd ad X pc (tt_ia ad 7 395 2 t) := ss_ia (fun _ _ _ => rfl) C d k
theorem ss_ia8 (C : k_C ad X cc own nL fr lo) (d : decode cc pc = .ok (.iaload, 1)) (k : Sd ad X (pc + 1) t) : Sd ad X pc (tt_ia ad 8 1580 3 t) := ss_ia (fun _ _ _ => rfl) C d k
theorem ss_st4 (C : k_C ad X cc own nL fr lo) (d : decode cc pc = .ok (.iastore, 1)) (k : Sd ad X (pc + 1) t) : Sd ad X pc (tt_st ad 4 463 0 t) := ss_st (fun _ _ _ => rfl) (fun _ _ _ _ _ => rfl) C d k
theorem ss_st7 (C : k_C ad X cc own nL fr lo) (d : decode cc pc = .ok (.iastore, 1)) (k : Sd ad X (pc + 1) t) : Sd ad X pc (tt_st ad 7 395 2 t) := ss_st (fun _ _ _ => rfl) (fun _ _ _ _ _ => rfl) C d k
theorem ss_st8 (C : k_C ad X cc own nL fr lo) (d : decode cc pc = .ok (.iastore, 1)) (k : Sd ad X (pc + 1) t) : Sd ad X pc (tt_st ad 8 1580 3 t) := ss_st (fun _ _ _ => rfl) (fun _ _ _ _ _ => rfl) C d k
end KM
end
section
/-! returns, contracts, calls of methods that don't throw -/
def k_A (ad : Nat → Nat) (sz : Nat) : Nat → Prop := fun q => (∃ k, k < 10 ∧ q = ad k) ∨ sz ≤ q
def k_B (ad : Nat → Nat) (D : va_G) (cI cL : ClassId) (M : Mm) (U : State) : Prop := va_P D vwCl (k_W ad cI cL M) U.heap ∧ va_K D vwCl [(cI, .int), (cL, .long)] U
def k_I (ad : Nat → Nat) : Prop := ∀ i j, i < 10 → j < 10 → ad i = ad j → i = j
theorem k_Wq {ad : Nat → Nat} {cI cL : ClassId} {M : Mm} {k : Nat} {q : Nat × va_E} (h : (k_W ad cI cL M)[k]? = some q) : k < 10 ∧ q.1 = ad k := by
  have hk : k < 10 := (List.getElem?_eq_some_iff.mp h).1
  refine ⟨hk, ?_⟩
  match k, hk, h with
  | 0, _, h => simp [k_W] at h; rw [← h]
  | 1, _, h => simp [k_W] at h; rw [← h]
  | 2, _, h => simp [k_W] at h; rw [← h]
  | 3, _, h => simp [k_W] at h; rw [← h]
  | 4, _, h => simp [k_W] at h; rw [← h]
  | 5, _, h => simp [k_W] at h; rw [← h]
  | 6, _, h => simp [k_W] at h; rw [← h]
  | 7, _, h => simp [k_W] at h; rw [← h]
  | 8, _, h => simp [k_W] at h; rw [← h]
  | 9, _, h => simp [k_W] at h; rw [← h]
theorem k_WD {ad : Nat → Nat} (hI : k_I ad) (sz : Nat) (cI cL : ClassId) (M : Mm) : va_D (k_A ad sz) (k_W ad cI cL M) := by
  refine ⟨fun i j p q hi hj hpq => ?_, fun k q hk => ?_⟩
  · obtain ⟨h1, h2⟩ := k_Wq hi
    obtain ⟨h3, h4⟩ := k_Wq hj
    exact hI i j h1 h3 (by rw [← h2, ← h4]; exact hpq)
  · obtain ⟨h1, h2⟩ := k_Wq hk
    exact Or.inl ⟨k, h1, h2⟩
/-- a contract: from every start at which F answers, the method does so, and the numbers are as F says -/
def k_Con (l : Launch) (ad : Nat → Nat) (D : va_G) (cI cL : ClassId) (y : MethodName) (cc : ByteArray) (nL : Nat) (ret : Option FieldType) (fr lo : Nat) (av : List Value → List Value) (F : Sp) : Prop :=
  ∀ (As : List Value) (M : Mm) (r : Option Value × Mm), F As M = some (.inl r) → ∀ sz : Nat, Met l y (Cond.code y cc nL ret :: k_G) ({ frames := fr, cells := 0, slots := 0, locals := lo }) (va_Pc (av As) (fun U => U.heap.size = sz ∧ k_B ad D cI cL M U)) (fun _ st oc t => oc = .returned r.1 ∧ k_B ad D cI cL r.2 t ∧ va_F (k_A ad sz) st t) 0 0 (k_A ad sz)
def k_cv (ad : Nat → Nat) (X : Cx) (y : MethodName) (cc : ByteArray) (nL : Nat) (ret : Option FieldType) (fr lo : Nat) (av : List Value → List Value) (F : Sp) : Prop := match X with
  | (_, l, _, _, _, _, _, _, _, _, _, D, cI, cL, _, _, _, _) => k_Con l ad D cI cL y cc nL ret fr lo av F
/-- what a method owes at its end -/
def k_E (ad : Nat → Nat) (X : Cx) (ret : Option FieldType) (res : Rs) : Prop := match X with
  | (p, l, e, R, s, m, args, below, meth, c, Q, D, cI, cL, A0, H0, ck, cn) => meth.sig.returnType = ret ∧ meth.locks = false ∧ ∀ (o : Option Value) (M : Mm) (H : Heap) (locs : List Loc), res = .inl (o, M) → va_P D vwCl (k_W ad cI cL M) H → va_S A0 H0 H locs → ∀ t, MQ below (fun _ _ oc t => oc = .returned o ∧ t.heap = H ∧ s.WarmedH t.vm) args s ck cn A0 t → Q t
theorem k_mono {p : Program} {l : Launch} {e : Env} {R : Room} {s : State} {m : MethodId} {args : Array Value} {below : List Frame} {meth : Method} {c : Code} {H : Heap} {locs : List Loc} {cells slots : Nat} {Q Q2 : State → Prop} {g : JFrame} (k : W p l e R s m args below meth c H locs cells slots Q g) (h : ∀ t, Q t → Q2 t) : W p l e R s m args below meth c H locs cells slots Q2 g := by
  intro T hT X
  obtain ⟨t, a, b⟩ := k T hT X
  exact ⟨t, a, h t b⟩
section KR
variable {ad : Nat → Nat} {X : Cx} {cc : ByteArray} {own : String} {nL fr lo pc : Nat} {t : Tr} {res : Rs}
theorem ss_ir (C0 : k_C ad X cc own nL fr lo) (E : k_E ad X (some .int) res) (d : decode cc pc = .ok (.ireturn, 1)) : Sd ad X pc (tt_ir res) := by
  obtain ⟨p, l, e, R, s, m, args, below, meth, c, Q, D, cI, cL, A0, H0, ck, cn⟩ := X
  obtain ⟨hx, hb, hml, hown, hts, hK, hD, hA, hR⟩ := C0
  obtain ⟨hr, hlk, hq⟩ := E
  intro L st M h H locs ls hP hS hl
  unfold tt_ir at h
  split at h
  · exact k_mono (W.iret hx hb hr (fun t ht hW => ⟨rfl, ht, hW⟩) hS.2.2 d hlk) (hq _ _ H locs h hP hS)
  · exact h.elim
theorem ss_zr (C0 : k_C ad X cc own nL fr lo) (E : k_E ad X (some .boolean) res) (d : decode cc pc = .ok (.ireturn, 1)) : Sd ad X pc (tt_zr res) := by
  obtain ⟨p, l, e, R, s, m, args, below, meth, c, Q, D, cI, cL, A0, H0, ck, cn⟩ := X
  obtain ⟨hx, hb, hml, hown, hts, hK, hD, hA, hR⟩ := C0
  obtain ⟨hr, hlk, hq⟩ := E
  intro L st M h H locs ls hP hS hl
  unfold tt_zr at h
  split at h
  · next v =>
    obtain ⟨h0, h⟩ := h
    have hn : narrow .boolean (.int v) = .int v := by rcases h0 with rfl | rfl <;> decide +kernel
    exact k_mono (W.zret hx hb hr hn (fun t ht hW => ⟨rfl, ht, hW⟩) hS.2.2 d hlk) (hq _ _ H locs h hP hS)
  · exact h.elim
theorem ss_lr (C0 : k_C ad X cc own nL fr lo) (E : k_E ad X (some .long) res) (d : decode cc pc = .ok (.lreturn, 1)) : Sd ad X pc (tt_lr res) := by
  obtain ⟨p, l, e, R, s, m, args, below, meth, c, Q, D, cI, cL, A0, H0, ck, cn⟩ := X
  obtain ⟨hx, hb, hml, hown, hts, hK, hD, hA, hR⟩ := C0
  obtain ⟨hr, hlk, hq⟩ := E
  intro L st M h H locs ls hP hS hl
  unfold tt_lr at h
  split at h
  · exact k_mono (W.lret hx hb hr (fun t ht hW => ⟨rfl, ht, hW⟩) hS.2.2 d hlk) (hq _ _ H locs h hP hS)
  · exact h.elim
theorem ss_vr (C0 : k_C ad X cc own nL fr lo) (E : k_E ad X none res) (d : decode cc pc = .ok (.return_, 1)) : Sd ad X pc (tt_vr res) := by
  obtain ⟨p, l, e, R, s, m, args, below, meth, c, Q, D, cI, cL, A0, H0, ck, cn⟩ := X
  obtain ⟨hx, hb, hml, hown, hts, hK, hD, hA, hR⟩ := C0
  obtain ⟨hr, hlk, hq⟩ := E
  intro L st M h H locs ls hP hS hl
  unfold tt_vr at h
  split at h
  · exact k_mono (W.vret hx hb hr (fun t ht hW => ⟨rfl, ht, hW⟩) hS.2.2 d hlk) (hq _ _ H locs h hP hS)
  · exact h.elim
/-- which class the cell o is of -/
def k_rc (o : Nat) (C : String) : Prop := ∃ (ci : Nat) (q : vw_C), vwCl[ci]? = some q ∧ q.1 = C ∧ ∀ ad cI cL M, ∃ fs, (k_W ad cI cL M)[o]? = some (ad o, .inr (ci, fs))
theorem k_rc0 : k_rc 0 RX3 := ⟨3, _, rfl, rfl, fun _ _ _ _ => ⟨_, rfl⟩⟩
theorem k_rc1 : k_rc 1 RX1 := ⟨1, _, rfl, rfl, fun _ _ _ _ => ⟨_, rfl⟩⟩
theorem k_rc2 : k_rc 2 RX0 := ⟨0, _, rfl, rfl, fun _ _ _ _ => ⟨_, rfl⟩⟩
theorem k_rc3 : k_rc 3 RX2 := ⟨2, _, rfl, rfl, fun _ _ _ _ => ⟨_, rfl⟩⟩
theorem k_rc6 : k_rc 6 RX4 := ⟨4, _, rfl, rfl, fun _ _ _ _ => ⟨_, rfl⟩⟩
/-- the words of a call -/
def k_wv (own : String) (index : Nat) (y : MethodName) (cb : ByteArray) (mL : Nat) (ret : Option FieldType) (n : Nat) : Prop :=
  Cond.methodLink own index y ∈ k_G ∧ Cond.instanceMethod y ∈ k_G ∧ Cond.selects y.cls y y ∈ k_G ∧ Cond.initialized y.cls ∈ k_G ∧ Cond.code y cb mL ret ∈ k_G ∧ y.cls ≠ "java/lang/invoke/MethodHandle" ∧ y.cls ≠ "java/lang/invoke/VarHandle" ∧ (parseMethodDescriptor y.desc).map (fun d => d.parameters.length) = some n
def k_ws (own : String) (index : Nat) (y : MethodName) (cb : ByteArray) (mL : Nat) (ret : Option FieldType) (n : Nat) : Prop :=
  Cond.methodLink own index y ∈ k_G ∧ Cond.static y ∈ k_G ∧ Cond.initialized y.cls ∈ k_G ∧ Cond.code y cb mL ret ∈ k_G ∧ y.cls ≠ "java/lang/invoke/MethodHandle" ∧ y.cls ≠ "java/lang/invoke/VarHandle" ∧ (parseMethodDescriptor y.desc).map (fun d => d.parameters.length) = some n
theorem k_cons {y : MethodName} {cb : ByteArray} {mL : Nat} {ret : Option FieldType} (h : Cond.code y cb mL ret ∈ k_G) : GoodIn k_G (Cond.code y cb mL ret :: k_G) := by
  intro w hw
  rcases List.mem_cons.mp hw with rfl | hw
  · exact k_good _ h
  · exact k_good _ hw
theorem k_len (st : List Value) (h : st.length ≤ 4) : (st.map fun v => v.category).sum ≤ 8 := by
  have key : ∀ (st : List Value), (st.map fun v => v.category).sum ≤ 2 * st.length := by
    intro st
    induction st with
    | nil => simp
    | cons v st ih =>
      simp only [List.map_cons, List.sum_cons, List.length_cons]
      rcases lv_cat v with q | q <;> omega
  have := key st
  omega
theorem k_pre {ad : Nat → Nat} {D : va_G} {cI cL : ClassId} {M : Mm} {sz : Nat} {av : List Value} : FrameBlind (va_Pc av (fun U => U.heap.size = sz ∧ k_B ad D cI cL M U)) :=
  fun a U g mk q => by
    obtain ⟨q0, q1, qP, qK⟩ := q
    exact ⟨q0, q1, qP, va_K.moved (u := U) (U := U.calling g mk a) (Vm.Alike.refl U.vm) qK⟩
theorem k_AA {ad : Nat → Nat} {A0 : Nat → Prop} {D : va_G} {cI cL : ClassId} {M : Mm} {H0 H : Heap} {locs : List Loc} (hD : ∀ M, va_D A0 (k_W ad cI cL M)) (hA : ∀ q, H0.size ≤ q → A0 q) (hS : va_S A0 H0 H locs) : ∀ q, k_A ad H.size q → A0 q := by
  intro q h
  rcases h with ⟨k, hk, rfl⟩ | h
  · match k, hk with
    | 0, _ => exact (hD M).2 0 _ rfl
    | 1, _ => exact (hD M).2 1 _ rfl
    | 2, _ => exact (hD M).2 2 _ rfl
    | 3, _ => exact (hD M).2 3 _ rfl
    | 4, _ => exact (hD M).2 4 _ rfl
    | 5, _ => exact (hD M).2 5 _ rfl
    | 6, _ => exact (hD M).2 6 _ rfl
    | 7, _ => exact (hD M).2 7 _ rfl
    | 8, _ => exact (hD M).2 8 _ rfl
    | 9, _ => exact (hD M).2 9 _ rfl
  · exact hA q (Nat.le_trans hS.1 h)
/-- behind a call: any answer -/
theorem k_call {p : Program} {l : Launch} {e : Env} {R : Room} {s : State} {m : MethodId} {args : Array Value} {below : List Frame} {meth : Method} {c : Code} {H : Heap} {locs : List Loc} {cells slots : Nat} {Q : State → Prop} {ls : Array Slot} {rest st0 : List Value} {A0 A1 : Nat → Prop} {H0 : Heap} {mc ms : Nat} {free : Addr → Prop} {D : va_G} {cI cL : ClassId} {r : Option Value × Mm}
    (hr : va_Run p l e R s m args below meth c H locs cells slots mc ms (F0 m pc ls st0) rest (fun st oc t => oc = .returned r.1 ∧ k_B ad D cI cL r.2 t ∧ va_F A1 st t) free) (hS : va_S A0 H0 H locs) (hA : ∀ q, q < H.size → A1 q → A0 q) (hf : ∀ q, free q → A0 q)
    (kk : ∀ (H1 : Heap) (locs1 : List Loc), va_P D vwCl (k_W ad cI cL r.2) H1 → va_S A0 H0 H1 locs1 → W p l e R s m args below meth c H1 locs1 (cells + mc) (slots + ms) Q (F0 m (pc + 3) ls (r.1.toList ++ rest))) : W p l e R s m args below meth c H locs cells slots Q (F0 m pc ls st0) := by
  intro T hT X
  obtain ⟨v, st₀, t, T', L, h0, X', hL, e1, e2, ⟨hv, hb, hz, hk⟩, st⟩ := hr T hT X
  cases hv
  rw [h0] at hz hk
  obtain ⟨t2, a1, b1⟩ := kk T'.heap (locs ++ L) (by rw [e1]; exact hb.1)
    ⟨Nat.le_trans hS.1 (by rw [e1]; exact hz), fun q h1 h2 => by rw [e1, hk q (Nat.lt_of_lt_of_le h1 hS.1) (fun z => h2 (hA q (Nat.lt_of_lt_of_le h1 hS.1) z))]; exact hS.2.1 q h1 h2, fun q hq => by
      rcases List.mem_append.mp hq with h | h
      · exact hS.2.2 q h
      · exact hf _ (hL q h)⟩ T' rfl X'
  exact ⟨t2, st t2 a1, b1⟩
theorem ss_cv {o n index mL fr2 lo2 : Nat} {C : String} {y : MethodName} {cb : ByteArray} {ret : Option FieldType} {F : Sp} (ho : k_rc o C) (C0 : k_C ad X cc own nL fr lo) (d : decode cc pc = .ok (.invokevirtual index, 3)) (hw : k_wv own index y cb mL ret n) (hyC : y.cls = C) (hc : k_cv ad X y cb mL ret fr2 lo2 (fun As => .ref (ad o) :: As) F) (hfl : ((fr2 + 1).ble fr && (8 + (mL + 11) + lo2).ble lo) = true) (k : Sd ad X (pc + 3) t) : Sd ad X pc (tt_cv ad o n F t) := by
  obtain ⟨p, l, e, R, s, m, args, below, meth, c, Q, D, cI, cL, A0, H0, ck, cn⟩ := X
  obtain ⟨hx, hb, hml, hown, hts, hK, hD, hA, hR⟩ := C0
  subst hyC
  rw [Bool.and_eq_true] at hfl
  obtain ⟨w1, w2, w3, w4, w5, w6, w7, w8⟩ := hw
  intro L st M h H locs ls hP hS hl
  unfold tt_cv at h
  split at h
  · next a rest hst =>
    obtain ⟨rfl, hlen, h⟩ := h
    split at h
    · next r hF =>
      have hM := hc _ M r hF H.size
      have hl4 := k_len rest hlen
      have hst2 : st = (st.take n).reverse.reverse ++ .ref (ad o) :: rest := by
        rw [List.reverse_reverse, ← hst, List.take_append_drop]
      have hn : (st.take n).reverse.length = n := by
        rw [List.length_reverse, List.length_take]
        have : (st.drop n).length = (Value.ref (ad o) :: rest).length := by rw [hst]
        rw [List.length_drop, List.length_cons] at this
        omega
      obtain ⟨ci, q, hc1, hc2, hc3⟩ := ho
      obtain ⟨fs, hfs⟩ := hc3 ad cI cL M
      have hG : GoodIn k_G (wsV own index y.cls y (Cond.code y cb mL ret :: k_G)) := by
        intro w hw
        unfold wsV at hw
        rcases List.mem_append.mp hw with hw | hw
        · simp only [List.mem_cons, List.not_mem_nil, or_false] at hw
          rcases hw with rfl | rfl | rfl | rfl
          · exact k_good _ w1
          · exact k_good _ w2
          · exact k_good _ w3
          · exact k_good _ w4
        · exact k_cons w5 w hw
      have hfr : fr2 + 1 ≤ R.frames ∧ 8 + (mL + 11) + lo2 ≤ R.locals := ⟨Nat.le_trans (Nat.le_of_ble_eq_true hfl.1) hR.1, Nat.le_trans (Nat.le_of_ble_eq_true hfl.2) hR.2.1⟩
      refine k_call (va_runV (As := (st.take n).reverse) (rest := rest) ⟨hx, hb, hml, hown, hts⟩ hM (cwV n hts hG rfl rfl rfl ⟨rfl, w6, w7, w8⟩ hfr) ⟨k_pre, ?_, fun U hU hW => ⟨rfl, by rw [hU], by rw [hU]; exact hP, va_K.moved hW.alike hK⟩⟩ rfl hn (by rw [← hml]; exact hl.1) hst2 (lv_room hl4) d ⟨hR.2.2.1, hR.2.2.2⟩) hS (fun q _ z => k_AA (M := M) (D := D) hD hA hS q z) (k_AA (M := M) (D := D) hD hA hS) (fun H1 locs1 hP1 hS1 => k L _ _ h H1 locs1 ls hP1 hS1 hl)
      have := va_recv hK hP hc1 hfs
      rw [hc2] at this
      exact this
    · exact h.elim
  · exact h.elim
theorem ss_cs {n index mL fr2 lo2 : Nat} {y : MethodName} {cb : ByteArray} {ret : Option FieldType} {F : Sp} (C0 : k_C ad X cc own nL fr lo) (d : decode cc pc = .ok (.invokestatic index, 3)) (hw : k_ws own index y cb mL ret n) (hc : k_cv ad X y cb mL ret fr2 lo2 (fun As => As) F) (hfl : ((fr2 + 1).ble fr && (8 + (mL + 11) + lo2).ble lo) = true) (k : Sd ad X (pc + 3) t) : Sd ad X pc (tt_cs n F t) := by
  obtain ⟨p, l, e, R, s, m, args, below, meth, c, Q, D, cI, cL, A0, H0, ck, cn⟩ := X
  obtain ⟨hx, hb, hml, hown, hts, hK, hD, hA, hR⟩ := C0
  rw [Bool.and_eq_true] at hfl
  obtain ⟨w1, w2, w4, w5, w6, w7, w8⟩ := hw
  intro L st M h H locs ls hP hS hl
  unfold tt_cs at h
  obtain ⟨hn0, hlen, h⟩ := h
  split at h
  · next r hF =>
    have hM := hc _ M r hF H.size
    have hl4 := k_len _ hlen
    have hst2 : st = (st.take n).reverse.reverse ++ st.drop n := by
      rw [List.reverse_reverse, List.take_append_drop]
    have hn : (st.take n).reverse.length = n := by
      rw [List.length_reverse, List.length_take]
      omega
    have hfr : fr2 + 1 ≤ R.frames ∧ 8 + (mL + 11) + lo2 ≤ R.locals := ⟨Nat.le_trans (Nat.le_of_ble_eq_true hfl.1) hR.1, Nat.le_trans (Nat.le_of_ble_eq_true hfl.2) hR.2.1⟩
    exact k_call (va_runS (As := (st.take n).reverse) (rest := st.drop n) ⟨hx, hb, hml, hown, hts⟩ hM ⟨callB_of n hts (k_cons w5) rfl rfl rfl (hts _ w4) (hts _ w1) ⟨w6, w7, w8⟩ hfr, hts _ w2⟩ ⟨k_pre, fun U hU hW => ⟨rfl, by rw [hU], by rw [hU]; exact hP, va_K.moved hW.alike hK⟩⟩ rfl hn (by rw [← hml]; exact hl.1) hst2 (lv_room hl4) d ⟨hR.2.2.1, hR.2.2.2⟩) hS (fun q _ z => k_AA (M := M) (D := D) hD hA hS q z) (k_AA (M := M) (D := D) hD hA hS) (fun H1 locs1 hP1 hS1 => k L _ _ h H1 locs1 ls hP1 hS1 hl)
  · exact h.elim
end KR
/-- the locals with which a method begins -/
def k_en : List Value → Ls
  | [] => []
  | .long x :: t => some (.long x) :: none :: k_en t
  | v :: t => some v :: k_en t
/-- a contract out of a tree that is sound at every frame and holds at the entry -/
theorem k_con {l : Launch} {ad : Nat → Nat} {D : va_G} {cI cL : ClassId} {y : MethodName} {cc : ByteArray} {nL fr lo : Nat} {ret : Option FieldType} {av : List Value → List Value} {F : Sp} {tree : Rs → Tr} (hI : k_I ad) (hy : plainName y.cls = true)
    (hs : ∀ (X : Cx) (res : Rs), X.2.1 = l → (X.2.2.2.2.2.2.2.2.2.2.2.1 = D ∧ X.2.2.2.2.2.2.2.2.2.2.2.2.1 = cI ∧ X.2.2.2.2.2.2.2.2.2.2.2.2.2.1 = cL) → k_C ad X cc y.cls nL fr lo → k_E ad X ret res → Sd ad X 0 (tree res))
    (hp : ∀ As M r, F As M = some (.inl r) → ((lg_sl (av As)).length ≤ nL ∧ ∃ L : Ls, (∀ q ∈ k_asc 0 L, q ∈ lv_args 0 (av As)) ∧ tree (.inl r) L [] M)) :
    k_Con l ad D cI cL y cc nL ret fr lo av F := by
  intro As M r hF sz
  obtain ⟨hlen, L, hL, ht⟩ := hp As M r hF
  refine Met.ofW (cc := cc) (maxL := nL) (ret := ret) hy rfl ?_
  intro p e s m args below meth c s₁ B hml hv
  obtain ⟨rfl, hsz, hP, hK⟩ := hv
  have hts := atoms_spec (ws := Cond.code y cc nL ret :: k_G) B.pre
  subst hsz
  have hl := lv_entry (av As) (n := nL) hlen
  rw [lg_entry_eq]
  generalize (lg_sl (av As) ++ List.replicate (nL - (lg_sl (av As)).length) Slot.unset).toArray = ls at hl ⊢
  have hl2 : lv_has ls c.maxLocals (k_asc 0 L) := by rw [hml]; exact ⟨hl.1, hl.2.1, fun q hq => hl.2.2 q (hL q hq)⟩
  exact hs (p, l, e, _, s, m, _, below, meth, c, _, D, cI, cL, k_A ad s.heap.size, s.heap, 0, 0) (.inl r) rfl ⟨rfl, rfl, rfl⟩
    ⟨B.exec, B.bytes, hml, findClass_of_methodNamed B.named, fun w hw => hts w (List.mem_cons_of_mem _ hw), hK, k_WD hI _ cI cL, fun q hq => Or.inr hq, Nat.le_refl _, Nat.le_refl _, Nat.le_refl _, Nat.le_refl _⟩
    ⟨B.returns, B.notSynchronized, fun o M1 H locs he hP1 hS1 t hQ => by
      cases he
      obtain ⟨oc, b1, b2, ⟨h1, h2, h3⟩, b4⟩ := hQ
      exact ⟨oc, b1, b2, ⟨h1, ⟨by rw [h2]; exact hP1, va_K.moved h3.alike hK⟩, hS1.F h2⟩, b4⟩⟩ L [] M ht s.heap [] ls hP va_S.rf hl2
end
section
/-! more instructions: Math.min, Math.max, System.arraycopy, lengths, remainders, switches; throws -/
def tt_rem (t : Tr) : Tr := fun L st M => match st with
  | .int y :: .int x :: st => ¬ y = 0 ∧ t L (.int (x - x / y * y) :: st) M
  | _ => False
def tt_xor (t : Tr) : Tr := fun L st M => match st with
  | .int y :: .int x :: st => t L (.int (x ^^^ y) :: st) M
  | _ => False
def tt_len (ad : Nat → Nat) (o n : Nat) (t : Tr) : Tr := fun L st M => match st with
  | .ref a :: st => a = ad o ∧ t L (.int (Int32.ofNat n) :: st) M
  | _ => False
def k_cp (M : Mm) (r0 r1 sp dp n : Nat) : Mm := (fun b => if b = r1 then va_cpy (M.1 r0) (M.1 r1) sp dp n else M.1 b, M.2)
def tt_cp (ad : Nat → Nat) (o0 n0 r0 o1 n1 r1 : Nat) (t : Tr) : Tr := fun L st M => match st with
  | .int n :: .int dp :: .ref a1 :: .int sp :: .ref a0 :: st => a0 = ad o0 ∧ a1 = ad o1 ∧ ¬ sp < 0 ∧ ¬ dp < 0 ∧ ¬ n < 0 ∧ sp.toNatClampNeg + n.toNatClampNeg ≤ n0 ∧ dp.toNatClampNeg + n.toNatClampNeg ≤ n1 ∧ st.length ≤ 4 ∧ t L st (k_cp M r0 r1 sp.toNatClampNeg dp.toNatClampNeg n.toNatClampNeg)
  | _ => False
/-- a table switch: the way at x, and the default's -/
def tt_sw (lo : Int) (ts : List Tr) (dt : Tr) : Tr := fun L st M => match st with
  | .int x :: st => if x.toInt < lo ∨ lo + ts.length ≤ x.toInt then dt L st M else match ts[(x.toInt - lo).toNat]? with
    | some t => t L st M
    | none => False
  | _ => False
section KO
variable {ad : Nat → Nat} {X : Cx} {cc : ByteArray} {own : String} {nL fr lo pc : Nat} {t t1 t2 : Tr} {res : Rs}
theorem ss_rem (C : k_C ad X cc own nL fr lo) (d : decode cc pc = .ok (.irem, 1)) (k : Sd ad X (pc + 1) t) : Sd ad X pc (tt_rem t) := by
  obtain ⟨p, l, e, R, s, m, args, below, meth, c, Q, D, cI, cL, A0, H0, ck, cn⟩ := X
  obtain ⟨hx, hb, hml, hown, hts, hK, hD, hA, hR⟩ := C
  intro L st M h H locs ls hP hS hl
  unfold tt_rem at h
  split at h
  · exact lv_irem hx hb d h.1 (k L _ M h.2 H locs ls hP hS hl)
  · exact h.elim
theorem ss_xor (C : k_C ad X cc own nL fr lo) (d : decode cc pc = .ok (.ixor, 1)) (k : Sd ad X (pc + 1) t) : Sd ad X pc (tt_xor t) := by
  obtain ⟨p, l, e, R, s, m, args, below, meth, c, Q, D, cI, cL, A0, H0, ck, cn⟩ := X
  obtain ⟨hx, hb, hml, hown, hts, hK, hD, hA, hR⟩ := C
  intro L st M h H locs ls hP hS hl
  unfold tt_xor at h
  split at h
  · exact lv_ixor hx hb d (k L _ M h H locs ls hP hS hl)
  · exact h.elim
theorem ss_len5 (C : k_C ad X cc own nL fr lo) (d : decode cc pc = .ok (.arraylength, 1)) (k : Sd ad X (pc + 1) t) : Sd ad X pc (tt_len ad 5 1852 t) := by
  obtain ⟨p, l, e, R, s, m, args, below, meth, c, Q, D, cI, cL, A0, H0, ck, cn⟩ := X
  obtain ⟨hx, hb, hml, hown, hts, hK, hD, hA, hR⟩ := C
  intro L st M h H locs ls hP hS hl
  unfold tt_len at h
  split at h
  · obtain ⟨rfl, h⟩ := h
    exact va_alen hx hb hK hP 5 0 rfl rfl rfl d (k L _ M h H locs ls hP hS hl)
  · exact h.elim
theorem ss_max {index : Nat} (C : k_C ad X cc own nL fr lo) (d : decode cc pc = .ok (.invokestatic index, 3)) (w1 : Cond.methodLink own index Lib.Math.max.name ∈ k_G) (w2 : Cond.static Lib.Math.max.name ∈ k_G) (w3 : Cond.initialized "java/lang/Math" ∈ k_G) (w4 : Cond.code Lib.Math.max.name Lib.Math.max.code 2 (some .int) ∈ k_G) (hfl : (Nat.ble 1 fr && Nat.ble 21 lo) = true) (k : Sd ad X (pc + 3) t) : Sd ad X pc (tt_max t) := by
  obtain ⟨p, l, e, R, s, m, args, below, meth, c, Q, D, cI, cL, A0, H0, ck, cn⟩ := X
  obtain ⟨hx, hb, hml, hown, hts, hK, hD, hA, hR⟩ := C
  rw [Bool.and_eq_true] at hfl
  intro L st M h H locs ls hP hS hl
  unfold tt_max at h
  split at h
  · have := k_len _ h.1
    have := Nat.le_of_ble_eq_true hfl.1
    have := Nat.le_of_ble_eq_true hfl.2
    exact va_mmax hx hb hl.1.symm hown (hts _ w1) (hts _ w2) (hts _ w3) (hts _ w4) (by omega) (by omega) hR.2.2.1 hR.2.2.2 d (k L _ M h.2 H locs ls hP hS hl)
  · exact h.elim
theorem ss_min {index : Nat} (C : k_C ad X cc own nL fr lo) (d : decode cc pc = .ok (.invokestatic index, 3)) (w1 : Cond.methodLink own index Lib.Math.min.name ∈ k_G) (w2 : Cond.static Lib.Math.min.name ∈ k_G) (w3 : Cond.initialized "java/lang/Math" ∈ k_G) (w4 : Cond.code Lib.Math.min.name Lib.Math.min.code 2 (some .int) ∈ k_G) (hfl : (Nat.ble 1 fr && Nat.ble 21 lo) = true) (k : Sd ad X (pc + 3) t) : Sd ad X pc (tt_min t) := by
  obtain ⟨p, l, e, R, s, m, args, below, meth, c, Q, D, cI, cL, A0, H0, ck, cn⟩ := X
  obtain ⟨hx, hb, hml, hown, hts, hK, hD, hA, hR⟩ := C
  rw [Bool.and_eq_true] at hfl
  intro L st M h H locs ls hP hS hl
  unfold tt_min at h
  split at h
  · have := k_len _ h.1
    have := Nat.le_of_ble_eq_true hfl.1
    have := Nat.le_of_ble_eq_true hfl.2
    exact va_mmin hx hb hl.1.symm hown (hts _ w1) (hts _ w2) (hts _ w3) (hts _ w4) (by omega) (by omega) hR.2.2.1 hR.2.2.2 d (k L _ M h.2 H locs ls hP hS hl)
  · exact h.elim
theorem ss_cp {index o0 n0 r0 o1 n1 r1 : Nat} (h0 : ∀ cI cL M, (k_W ad cI cL M)[o0]? = some (ad o0, .inl (cI, n0, .inl (M.1 r0)))) (h1 : ∀ cI cL M, (k_W ad cI cL M)[o1]? = some (ad o1, .inl (cI, n1, .inl (M.1 r1))))
    (hU : ∀ cI cL M sp dp n, (k_W ad cI cL M).set o1 (ad o1, .inl (cI, n1, .inl (va_cpy (M.1 r0) (M.1 r1) sp dp n))) = k_W ad cI cL (k_cp M r0 r1 sp dp n))
    (C : k_C ad X cc own nL fr lo) (d : decode cc pc = .ok (.invokestatic index, 3)) (w1 : Cond.methodLink own index arraycopyName ∈ k_G) (w2 : Cond.native arraycopyName ∈ k_G) (w3 : Cond.static arraycopyName ∈ k_G) (w4 : Cond.initialized "java/lang/System" ∈ k_G) (hfl : (Nat.ble 1 fr && Nat.ble (8 + (nativeFrameWords "java/lang/System" "arraycopy" 5 + 11)) lo) = true) (k : Sd ad X (pc + 3) t) : Sd ad X pc (tt_cp ad o0 n0 r0 o1 n1 r1 t) := by
  obtain ⟨p, l, e, R, s, m, args, below, meth, c, Q, D, cI, cL, A0, H0, ck, cn⟩ := X
  obtain ⟨hx, hb, hml, hown, hts, hK, hD, hA, hR⟩ := C
  rw [Bool.and_eq_true] at hfl
  intro L st M h H locs ls hP hS hl
  unfold tt_cp at h
  split at h
  · obtain ⟨rfl, rfl, g1, g2, g3, g4, g5, g6, h⟩ := h
    have q1 := k_len _ g6
    have q2 := Nat.le_of_ble_eq_true hfl.1
    have q3 := Nat.le_of_ble_eq_true hfl.2
    have q4 := hR.1
    have q5 := hR.2.1
    exact va_copyi hx hb hl.1.symm hown (hts _ w1) (hts _ w2) (hts _ w3) (hts _ w4) hK hP (hD M) hS o0 o1 0 0 (h0 cI cL M) (h1 cI cL M) rfl rfl rfl g1 g2 g3 g4 g5 (fun _ _ => rfl) (Nat.le_trans q2 q4) (by omega) d (fun H1 locs1 hP1 _ hS1 => k L _ _ h H1 locs1 ls (by rw [← hU]; exact hP1) hS1 hl)
  · exact h.elim
theorem ss_cpTo {index : Nat} (C : k_C ad X cc own nL fr lo) (d : decode cc pc = .ok (.invokestatic index, 3)) (w1 : Cond.methodLink own index arraycopyName ∈ k_G) (w2 : Cond.native arraycopyName ∈ k_G) (w3 : Cond.static arraycopyName ∈ k_G) (w4 : Cond.initialized "java/lang/System" ∈ k_G) (hfl : (Nat.ble 1 fr && Nat.ble (8 + (nativeFrameWords "java/lang/System" "arraycopy" 5 + 11)) lo) = true) (k : Sd ad X (pc + 3) t) : Sd ad X pc (tt_cp ad 4 463 0 5 1852 1 t) := ss_cp (fun _ _ _ => rfl) (fun _ _ _ => rfl) (fun _ _ _ _ _ _ => rfl) C d w1 w2 w3 w4 hfl k
theorem ss_cpFrom {index : Nat} (C : k_C ad X cc own nL fr lo) (d : decode cc pc = .ok (.invokestatic index, 3)) (w1 : Cond.methodLink own index arraycopyName ∈ k_G) (w2 : Cond.native arraycopyName ∈ k_G) (w3 : Cond.static arraycopyName ∈ k_G) (w4 : Cond.initialized "java/lang/System" ∈ k_G) (hfl : (Nat.ble 1 fr && Nat.ble (8 + (nativeFrameWords "java/lang/System" "arraycopy" 5 + 11)) lo) = true) (k : Sd ad X (pc + 3) t) : Sd ad X pc (tt_cp ad 5 1852 1 4 463 0 t) := ss_cp (fun _ _ _ => rfl) (fun _ _ _ => rfl) (fun _ _ _ _ _ _ => rfl) C d w1 w2 w3 w4 hfl k
/-- the ways of a table switch, one by one -/
def k_sws (ad : Nat → Nat) (X : Cx) (pc : Nat) : List Int → List Tr → Prop
  | [], [] => True
  | o :: os, t :: ts => (∃ tgt : Nat, (pc : Int) + o = (tgt : Int) ∧ Sd ad X tgt t) ∧ k_sws ad X pc os ts
  | _, _ => False
theorem k_sws_at : ∀ (os : List Int) (ts : List Tr), k_sws ad X pc os ts → os.length = ts.length ∧ ∀ (k : Nat) (t : Tr), ts[k]? = some t → ∃ (o : Int) (tgt : Nat), os[k]? = some o ∧ (pc : Int) + o = (tgt : Int) ∧ Sd ad X tgt t
  | [], [], _ => ⟨rfl, fun k t h => by simp at h⟩
  | o :: os, t :: ts, h => by
    obtain ⟨⟨tgt, h1, h2⟩, h3⟩ := h
    obtain ⟨g1, g2⟩ := k_sws_at os ts h3
    refine ⟨by simp [g1], fun k t' hk => ?_⟩
    cases k with
    | zero =>
      simp at hk
      subst hk
      exact ⟨o, tgt, rfl, h1, h2⟩
    | succ k =>
      obtain ⟨o', tgt', a, b⟩ := g2 k t' (by simpa using hk)
      exact ⟨o', tgt', by simpa using a, b⟩
  | [], t :: ts, h => h.elim
  | o :: os, [], h => h.elim
theorem ss_sw {dflt lo0 hi : Int} {offs : Array Int} {len tgt : Nat} {ts : List Tr} (C : k_C ad X cc own nL fr lo) (d : decode cc pc = .ok (.tableswitch dflt lo0 hi offs, len)) (hh : hi + 1 = lo0 + (ts.length : Int)) (ht : (pc : Int) + dflt = (tgt : Int)) (kd : Sd ad X tgt t) (ks : k_sws ad X pc offs.toList ts) : Sd ad X pc (tt_sw lo0 ts t) := by
  have hat := k_sws_at _ _ ks
  obtain ⟨p, l, e, R, s, m, args, below, meth, c, Q, D, cI, cL, A0, H0, ck, cn⟩ := X
  obtain ⟨hx, hb, hml, hown, hts, hK, hD, hA, hR⟩ := C
  intro L st M h H locs ls hP hS hl
  unfold tt_sw at h
  split at h
  · next x st =>
    split at h
    · next hc => exact lv_tableOut hx hb d (by omega) ht (kd L _ M h H locs ls hP hS hl)
    · next hc =>
      split at h
      · next t' ht' =>
        obtain ⟨o, tg, a1, a2, a3⟩ := hat.2 _ _ ht'
        exact lv_tableIn hx hb d (by omega) (by omega) (by rw [← Array.getElem?_toList]; exact a1) a2 (a3 L _ M h H locs ls hP hS hl)
      · exact h.elim
  · exact h.elim
end KO
end
section
/-! throws: the contract of a method that throws, its call, the throw itself -/
def k_strs : List (Nat × String) := [(216, "there is no such member"), (223, "the member has not joined"), (219, "there is no such stripe"), (221, "a value is out of range"), (42, "the member has joined already"), (76, "the member has failed already"), (135, "the index is negative"), (152, "a member does not rank before itself"), (185, "the undo stack is empty")]
abbrev k_ISE : String := "java/lang/IllegalStateException"
abbrev k_IAE : String := "java/lang/IllegalArgumentException"
abbrev k_IOE : String := "java/lang/IndexOutOfBoundsException"
def k_decl : List MethodName := [⟨"java/lang/RuntimeException", "<init>", "()V"⟩, ⟨"java/lang/RuntimeException", "<init>", "(Ljava/lang/String;)V"⟩, ⟨"java/lang/Exception", "<init>", "()V"⟩, ⟨"java/lang/Exception", "<init>", "(Ljava/lang/String;)V"⟩, ⟨"java/lang/Throwable", "<init>", "()V"⟩, ⟨"java/lang/Throwable", "<init>", "(Ljava/lang/String;)V"⟩]
abbrev k_bad (E : String) : List Cond := Cond.castable E E :: k_decl.map Cond.declares
/-- what a throw needs of the start, beside the words -/
def k_Z (A : Nat → Prop) (U : State) (H : Heap) : Prop := vx_Zq Bundle.tN "UNASSIGNED_STACK" Bundle.steD A U H ∧ vx_Zq Bundle.tN "SUPPRESSED_SENTINEL" Bundle.listD A U H ∧ (∀ q ∈ k_strs, ∃ sa, vk_R RX3 q.1 q.2 sa U) ∧ (∀ E ∈ [k_ISE, k_IAE, k_IOE], va_Nw (.castable E E) U) ∧ (∀ x ∈ k_decl, va_Nw (.declares x) U)
theorem k_Z.next {A0 B : Nat → Prop} {s U : State} {H0 H : Heap} {locs : List Loc} (h : k_Z A0 s H0) (hS : va_S A0 H0 H locs) (hB : ∀ q, B q → A0 q) (hW : s.WarmedH U.vm) : k_Z B U H := by
  obtain ⟨h1, h2, h3, h4, h5⟩ := h
  exact ⟨((h1.kept (fun a q1 q2 => hS.2.1 a q1 q2)).narrow hB).moved hW.alike, ((h2.kept (fun a q1 q2 => hS.2.1 a q1 q2)).narrow hB).moved hW.alike, fun q hq => (h3 q hq).imp fun sa z => vk_R.warm hW z, fun E hE => va_Nw.warmC hW (h4 E hE), fun x hx => va_Nw.warmD hW (h5 x hx)⟩
theorem k_Z.same {A : Nat → Prop} {u U : State} {H : Heap} (hv : U.vm = u.vm) (h : k_Z A u H) : k_Z A U H := by
  obtain ⟨h1, h2, h3, h4, h5⟩ := h
  have ha : u.vm.Alike U.vm := by rw [hv]; exact Vm.Alike.refl _
  exact ⟨h1.moved ha, h2.moved ha, fun q hq => (h3 q hq).imp fun sa z => vk_R.same hv z, fun E hE => va_Nw.same rfl hv.symm (h4 E hE), fun x hx => va_Nw.same rfl hv.symm (h5 x hx)⟩
def k_Thr (l : Launch) (ad : Nat → Nat) (D : va_G) (cI cL : ClassId) (y : MethodName) (cc : ByteArray) (nL : Nat) (ret : Option FieldType) (fr lo : Nat) (av : List Value → List Value) (F : Sp) : Prop :=
  ∀ (As : List Value) (M : Mm) (e : String × Mm), F As M = some (.inr e) → ∀ sz : Nat, vx_Met l y (Cond.code y cc nL ret :: k_G) ({ frames := fr, cells := 1, slots := 6, locals := lo }) (va_Pc (av As) (fun U => U.heap.size = sz ∧ k_B ad D cI cL M U ∧ k_Z (k_A ad sz) U U.heap)) (fun _ _ _ _ => False) (fun E st t => E = e.1 ∧ k_B ad D cI cL e.2 t ∧ va_F (k_A ad sz) st t) 1 6 (k_A ad sz)
def k_ct (ad : Nat → Nat) (X : Cx) (y : MethodName) (cc : ByteArray) (nL : Nat) (ret : Option FieldType) (fr lo : Nat) (av : List Value → List Value) (F : Sp) : Prop := match X with
  | (_, l, _, _, _, _, _, _, _, _, _, D, cI, cL, _, _, _, _) => k_Thr l ad D cI cL y cc nL ret fr lo av F
/-- what a method owes where it throws -/
def k_T (ad : Nat → Nat) (X : Cx) (res : Rs) : Prop := match X with
  | (p, l, e, R, s, m, args, below, meth, c, Q, D, cI, cL, A0, H0, ck, cn) => ∀ (E : String) (M : Mm), res = .inr (E, M) → l.stackTraces = false ∧ k_Z A0 s s.heap ∧ H0 = s.heap ∧ (∀ x ∈ c.exceptionTable.toList, False) ∧ meth.locks = false ∧ ck + 1 ≤ R.cells ∧ cn + 6 ≤ R.slots ∧ (∀ (H : Heap) (locs : List Loc), va_P D vwCl (k_W ad cI cL M) H → va_S A0 H0 H locs → ∀ t, vx_MQ below (fun _ _ _ _ => False) (fun E' _ t => E' = E ∧ H.size ≤ t.heap.size ∧ (∀ q : Nat, q < H.size → t.heap[q]? = H[q]?) ∧ s.vm.Alike t.vm) args s (ck + 1) (cn + 6) A0 t → Q t)
def tt_thr (E : String) (res : Rs) : Tr := fun _ st M => st.length ≤ 4 ∧ res = .inr (E, M)
def tt_xv (ad : Nat → Nat) (o n : Nat) (F : Sp) (res : Rs) (t : Tr) : Tr := fun L st M => match st.drop n with
  | .ref a :: rest => a = ad o ∧ rest.length ≤ 4 ∧ (match F (st.take n).reverse M with
    | some (.inl r) => t L (r.1.toList ++ rest) r.2
    | some (.inr e) => res = .inr e
    | none => False)
  | _ => False
def tt_xs (n : Nat) (F : Sp) (res : Rs) (t : Tr) : Tr := fun L st M => n ≤ st.length ∧ (st.drop n).length ≤ 4 ∧ (match F (st.take n).reverse M with
    | some (.inl r) => t L (r.1.toList ++ st.drop n) r.2
    | some (.inr e) => res = .inr e
    | none => False)
theorem k_atI : (∀ w ∈ (vx_atS RX3 218 k_IOE ["java/lang/RuntimeException", "java/lang/Exception"]).filter goodWord, w ∈ k_G) ∧ (∀ w ∈ (vx_atS RX3 218 k_IOE ["java/lang/RuntimeException", "java/lang/Exception"]).filter (fun w => !goodWord w), w ∈ k_bad k_IOE) ∧ (∀ w ∈ Cond.classLink RX3 214 k_IOE :: Cond.initialized k_IOE :: vx_atS RX3 218 k_IOE ["java/lang/RuntimeException", "java/lang/Exception"], vx_ot w = true) ∧ Cond.classLink RX3 214 k_IOE ∈ k_G ∧ Cond.initialized k_IOE ∈ k_G := ⟨by decide +kernel, by decide +kernel, by decide +kernel, by decide +kernel, by decide +kernel⟩
theorem k_atA : (∀ w ∈ (vx_atS RX3 137 k_IAE ["java/lang/RuntimeException", "java/lang/Exception"]).filter goodWord, w ∈ k_G) ∧ (∀ w ∈ (vx_atS RX3 137 k_IAE ["java/lang/RuntimeException", "java/lang/Exception"]).filter (fun w => !goodWord w), w ∈ k_bad k_IAE) ∧ (∀ w ∈ Cond.classLink RX3 133 k_IAE :: Cond.initialized k_IAE :: vx_atS RX3 137 k_IAE ["java/lang/RuntimeException", "java/lang/Exception"], vx_ot w = true) ∧ Cond.classLink RX3 133 k_IAE ∈ k_G ∧ Cond.initialized k_IAE ∈ k_G := ⟨by decide +kernel, by decide +kernel, by decide +kernel, by decide +kernel, by decide +kernel⟩
theorem k_atS : (∀ w ∈ (vx_atS RX3 44 k_ISE ["java/lang/RuntimeException", "java/lang/Exception"]).filter goodWord, w ∈ k_G) ∧ (∀ w ∈ (vx_atS RX3 44 k_ISE ["java/lang/RuntimeException", "java/lang/Exception"]).filter (fun w => !goodWord w), w ∈ k_bad k_ISE) ∧ (∀ w ∈ Cond.classLink RX3 40 k_ISE :: Cond.initialized k_ISE :: vx_atS RX3 44 k_ISE ["java/lang/RuntimeException", "java/lang/Exception"], vx_ot w = true) ∧ Cond.classLink RX3 40 k_ISE ∈ k_G ∧ Cond.initialized k_ISE ∈ k_G := ⟨by decide +kernel, by decide +kernel, by decide +kernel, by decide +kernel, by decide +kernel⟩
section KT
variable {ad : Nat → Nat} {X : Cx} {cc : ByteArray} {own : String} {nL fr lo pc : Nat} {t t1 t2 : Tr} {res : Rs}
theorem ss_thr {ik is ic : Nat} {cls text : String} (hfit : Bundle.fit cls = true) (hE : cls ∈ [k_ISE, k_IAE, k_IOE]) (hat : (∀ w ∈ (vx_atS RX3 ic cls ["java/lang/RuntimeException", "java/lang/Exception"]).filter goodWord, w ∈ k_G) ∧ (∀ w ∈ (vx_atS RX3 ic cls ["java/lang/RuntimeException", "java/lang/Exception"]).filter (fun w => !goodWord w), w ∈ k_bad cls) ∧ (∀ w ∈ Cond.classLink RX3 ik cls :: Cond.initialized cls :: vx_atS RX3 ic cls ["java/lang/RuntimeException", "java/lang/Exception"], vx_ot w = true) ∧ Cond.classLink RX3 ik cls ∈ k_G ∧ Cond.initialized cls ∈ k_G)
    (C0 : k_C ad X cc RX3 nL fr lo) (T0 : k_T ad X res) (d0 : decode cc pc = .ok (.new ik, 3)) (d3 : decode cc (pc + 3) = .ok (.dup, 1)) (d4 : decode cc (pc + 4) = .ok (.ldc is, 2)) (d6 : decode cc (pc + 6) = .ok (.invokespecial ic, 3)) (d9 : decode cc (pc + 9) = .ok (.athrow, 1)) (hstr : (is, text) ∈ k_strs) (hfl : (Nat.ble 6 fr && Nat.ble 90 lo) = true) : Sd ad X pc (tt_thr cls res) := by
  obtain ⟨p, l, e, R, s, m, args, below, meth, c, Q, D, cI, cL, A0, H0, ck, cn⟩ := X
  obtain ⟨hx, hb, hml, hown, hts, hK, hD, hA, hR⟩ := C0
  obtain ⟨hg, hng, hot, hcl, hini⟩ := hat
  rw [Bool.and_eq_true] at hfl
  intro L st M h H locs ls hP hS hl
  obtain ⟨hlen, h⟩ := h
  obtain ⟨hst, hZ, rfl, hex, hlk, hc1, hc2, hQ⟩ := T0 cls M h
  obtain ⟨z1, z2, z3, z4, z5⟩ := hZ
  obtain ⟨sa, hsa⟩ := z3 _ hstr
  have q1 := k_len _ hlen
  have q2 := Nat.le_of_ble_eq_true hfl.1
  have q3 := Nat.le_of_ble_eq_true hfl.2
  have q4 := hR.1
  have q5 := hR.2.1
  refine k_mono (vx_throwS (mc := ck + 1) (ms := cn + 6) (names := ["java/lang/RuntimeException", "java/lang/Exception"]) (A := A0) (Qc := fun _ _ _ _ => False) (XC := fun E' _ t => E' = cls ∧ H.size ≤ t.heap.size ∧ (∀ q : Nat, q < H.size → t.heap[q]? = H[q]?) ∧ s.vm.Alike t.vm) hx hb hst hown hfit (by decide +kernel) (hts _ hcl) (hts _ hini) hsa
    (vx_hat (B := k_bad cls) (fun w hw => hts w (hg w hw)) hng (vx_c (va_Nw.use rfl (z4 cls hE)) (fun w hw => by
      obtain ⟨x, hx9, rfl⟩ := List.mem_map.mp hw
      exact va_Nw.use rfl (z5 x hx9)))) hot z1 z2 hS hl.1 d0 d3 d4 d6 d9 (fun x hx9 => (hex x hx9).elim) (by show 2 + 3 < _; omega) (by show _ + (13 * (2 + 1) + 43) ≤ _; omega) hc1 hc2 hlk (fun t a b c9 => ⟨rfl, b, c9, a⟩) hS.2.2 (Nat.le_refl _) (Nat.le_refl _)) (hQ H locs hP hS)
theorem ss_thrS {is : Nat} {text : String} (C0 : k_C ad X cc RX3 nL fr lo) (T0 : k_T ad X res) (d0 : decode cc pc = .ok (.new 40, 3)) (d3 : decode cc (pc + 3) = .ok (.dup, 1)) (d4 : decode cc (pc + 4) = .ok (.ldc is, 2)) (d6 : decode cc (pc + 6) = .ok (.invokespecial 44, 3)) (d9 : decode cc (pc + 9) = .ok (.athrow, 1)) (hstr : (is, text) ∈ k_strs) (hfl : (Nat.ble 6 fr && Nat.ble 90 lo) = true) : Sd ad X pc (tt_thr k_ISE res) := ss_thr (by decide +kernel) (by decide) k_atS C0 T0 d0 d3 d4 d6 d9 hstr hfl
theorem ss_thrA {is : Nat} {text : String} (C0 : k_C ad X cc RX3 nL fr lo) (T0 : k_T ad X res) (d0 : decode cc pc = .ok (.new 133, 3)) (d3 : decode cc (pc + 3) = .ok (.dup, 1)) (d4 : decode cc (pc + 4) = .ok (.ldc is, 2)) (d6 : decode cc (pc + 6) = .ok (.invokespecial 137, 3)) (d9 : decode cc (pc + 9) = .ok (.athrow, 1)) (hstr : (is, text) ∈ k_strs) (hfl : (Nat.ble 6 fr && Nat.ble 90 lo) = true) : Sd ad X pc (tt_thr k_IAE res) := ss_thr (by decide +kernel) (by decide) k_atA C0 T0 d0 d3 d4 d6 d9 hstr hfl
theorem ss_thrI {is : Nat} {text : String} (C0 : k_C ad X cc RX3 nL fr lo) (T0 : k_T ad X res) (d0 : decode cc pc = .ok (.new 214, 3)) (d3 : decode cc (pc + 3) = .ok (.dup, 1)) (d4 : decode cc (pc + 4) = .ok (.ldc is, 2)) (d6 : decode cc (pc + 6) = .ok (.invokespecial 218, 3)) (d9 : decode cc (pc + 9) = .ok (.athrow, 1)) (hstr : (is, text) ∈ k_strs) (hfl : (Nat.ble 6 fr && Nat.ble 90 lo) = true) : Sd ad X pc (tt_thr k_IOE res) := ss_thr (by decide +kernel) (by decide) k_atI C0 T0 d0 d3 d4 d6 d9 hstr hfl
theorem k_preZ {ad : Nat → Nat} {D : va_G} {cI cL : ClassId} {M : Mm} {sz : Nat} {av : List Value} : FrameBlind (va_Pc av (fun U => U.heap.size = sz ∧ k_B ad D cI cL M U ∧ k_Z (k_A ad sz) U U.heap)) :=
  fun a U g mk q => by
    obtain ⟨q0, q1, ⟨qP, qK⟩, qZ⟩ := q
    exact ⟨q0, q1, ⟨qP, va_K.moved (u := U) (U := U.calling g mk a) (Vm.Alike.refl U.vm) qK⟩, k_Z.same (u := U) (U := U.calling g mk a) rfl qZ⟩
/-- behind a call that throws: not caught here -/
theorem k_callx {p : Program} {l : Launch} {e : Env} {R : Room} {s : State} {m : MethodId} {args : Array Value} {below : List Frame} {meth : Method} {c : Code} {H : Heap} {locs : List Loc} {cells slots : Nat} {Q : State → Prop} {ls : Array Slot} {rest st0 : List Value} {A0 A1 : Nat → Prop} {H0 : Heap} {mc ms : Nat} {free : Addr → Prop} {D : va_G} {cI cL : ClassId} {r : String × Mm}
    (hr : vx_Run p l e R s m args below meth c H locs cells slots mc ms (F0 m pc ls st0) rest (fun _ _ _ => False) (fun E st t => E = r.1 ∧ k_B ad D cI cL r.2 t ∧ va_F A1 st t) free) (hS : va_S A0 H0 H locs) (hA : ∀ q, q < H.size → A1 q → A0 q) (hf : ∀ q, free q → A0 q)
    (kx : ∀ (H1 : Heap) (locs1 : List Loc) (ce : Cell) (q9 : Addr), va_P D vwCl (k_W ad cI cL r.2) H1 → va_S A0 H0 H1 locs1 → H1[q9]? = some ce → ce.vm = .none → s.vm.findClass r.1 = some ce.cls → vx_W p l e R s m args below meth c H1 locs1 (cells + mc) (slots + ms) Q (F0 m pc ls rest) q9) : W p l e R s m args below meth c H locs cells slots Q (F0 m pc ls st0) := by
  intro T hT X
  rcases hr T hT X with ⟨v, st₀, t, T', L, h0, X', hL, e1, e2, hv, st⟩ | ⟨q, st₀, t, T', L, E, ce, h0, X', hL, e1, e2, ⟨rfl, hb, hF⟩, hce, hcv, hcl, st⟩
  · exact hv.elim
  · obtain ⟨k1, k2, k3⟩ := vx_keep h0 e1 hS hA hf hL hF
    obtain ⟨t2, a1, b1⟩ := kx T'.heap (locs ++ L) ce q (by rw [e1]; exact hb.1) k3 (by rw [e1]; exact hce) hcv hcl T' rfl X'
    exact ⟨t2, st.trans a1, b1⟩
theorem ss_xv {o n index mL fr2 lo2 : Nat} {C : String} {y : MethodName} {cb : ByteArray} {ret : Option FieldType} {F : Sp} (ho : k_rc o C) (C0 : k_C ad X cc own nL fr lo) (T0 : k_T ad X res) (d : decode cc pc = .ok (.invokevirtual index, 3)) (hw : k_wv own index y cb mL ret n) (hyC : y.cls = C) (hc : k_cv ad X y cb mL ret fr2 lo2 (fun As => .ref (ad o) :: As) F) (hcx : k_ct ad X y cb mL ret fr2 lo2 (fun As => .ref (ad o) :: As) F) (hfl : ((fr2 + 1).ble fr && (8 + (mL + 11) + lo2).ble lo) = true) (k : Sd ad X (pc + 3) t) : Sd ad X pc (tt_xv ad o n F res t) := by
  intro L st M h
  unfold tt_xv at h
  split at h
  · next a rest hst =>
    obtain ⟨ha, hlen, h⟩ := h
    split at h
    · next r hF =>
      refine ss_cv (F := F) ho C0 d hw hyC hc hfl k L st M ?_
      unfold tt_cv
      rw [hst]
      exact ⟨ha, hlen, by rw [hF]; exact h⟩
    · next r hF =>
      subst ha
      obtain ⟨p, l, e, R, s, m, args, below, meth, c, Q, D, cI, cL, A0, H0, ck, cn⟩ := X
      obtain ⟨hx, hb, hml, hown, hts, hK, hD, hA, hR⟩ := C0
      intro H locs ls hP hS hl
      subst hyC
      rw [Bool.and_eq_true] at hfl
      obtain ⟨w1, w2, w3, w4, w5, w6, w7, w8⟩ := hw
      obtain ⟨hstt, hZ, rfl, hex, hlk, hc1, hc2, hQ⟩ := T0 r.1 r.2 h
      have hM := hcx _ M r hF H.size
      have hl4 := k_len rest hlen
      have hst2 : st = (st.take n).reverse.reverse ++ .ref (ad o) :: rest := by
        rw [List.reverse_reverse, ← hst, List.take_append_drop]
      have hn : (st.take n).reverse.length = n := by
        rw [List.length_reverse, List.length_take]
        have : (st.drop n).length = (Value.ref (ad o) :: rest).length := by rw [hst]
        rw [List.length_drop, List.length_cons] at this
        omega
      obtain ⟨ci, q, hc1', hc2', hc3'⟩ := ho
      obtain ⟨fs, hfs⟩ := hc3' ad cI cL M
      have hG : GoodIn k_G (wsV own index y.cls y (Cond.code y cb mL ret :: k_G)) := by
        intro w hw
        unfold wsV at hw
        rcases List.mem_append.mp hw with hw | hw
        · simp only [List.mem_cons, List.not_mem_nil, or_false] at hw
          rcases hw with rfl | rfl | rfl | rfl
          · exact k_good _ w1
          · exact k_good _ w2
          · exact k_good _ w3
          · exact k_good _ w4
        · exact k_cons w5 w hw
      have hfr : fr2 + 1 ≤ R.frames ∧ 8 + (mL + 11) + lo2 ≤ R.locals := ⟨Nat.le_trans (Nat.le_of_ble_eq_true hfl.1) hR.1, Nat.le_trans (Nat.le_of_ble_eq_true hfl.2) hR.2.1⟩
      have hAA := k_AA (M := M) (D := D) hD hA hS
      refine k_callx (vx_runV (As := (st.take n).reverse) (rest := rest) ⟨hx, hb, hml, hown, hts⟩ hM (cwV n hts hG rfl rfl rfl ⟨rfl, w6, w7, w8⟩ hfr) ⟨k_preZ, ?_, fun U hU hW => ⟨rfl, by rw [hU], ⟨by rw [hU]; exact hP, va_K.moved hW.alike hK⟩, by rw [hU]; exact hZ.next hS hAA hW⟩⟩ rfl hn (by rw [← hml]; exact hl.1) hst2 (lv_room hl4) d ⟨hc1, hc2⟩) hS (fun q _ z => hAA q z) hAA ?_
      · have := va_recv hK hP hc1' hfs
        rw [hc2'] at this
        exact this
      · intro H1 locs1 ce q9 hP1 hS1 hce hcv hcl
        intro T hT X'
        obtain ⟨t, a1, b1⟩ := vx_out (Qc := fun _ _ _ _ => False) (XC := fun E' _ t => E' = r.1 ∧ H1.size ≤ t.heap.size ∧ (∀ q : Nat, q < H1.size → t.heap[q]? = H1[q]?) ∧ s.vm.Alike t.vm) (mc := ck + 1) (ms := cn + 6) (fun x hx9 => (hex x hx9).elim) hlk hce hcv hcl (fun t ht hal => ⟨rfl, by rw [ht]; exact Nat.le_refl _, fun q _ => by rw [ht], hal⟩) hS1.2.2 (Nat.le_refl _) (Nat.le_refl _) T hT X'
        exact ⟨t, a1, hQ H1 locs1 hP1 hS1 t b1⟩
    · exact h.elim
  · exact h.elim
theorem ss_xs {n index mL fr2 lo2 : Nat} {y : MethodName} {cb : ByteArray} {ret : Option FieldType} {F : Sp} (C0 : k_C ad X cc own nL fr lo) (T0 : k_T ad X res) (d : decode cc pc = .ok (.invokestatic index, 3)) (hw : k_ws own index y cb mL ret n) (hc : k_cv ad X y cb mL ret fr2 lo2 (fun As => As) F) (hcx : k_ct ad X y cb mL ret fr2 lo2 (fun As => As) F) (hfl : ((fr2 + 1).ble fr && (8 + (mL + 11) + lo2).ble lo) = true) (k : Sd ad X (pc + 3) t) : Sd ad X pc (tt_xs n F res t) := by
  intro L st M h
  unfold tt_xs at h
  obtain ⟨hn0, hlen, h⟩ := h
  split at h
  · next r hF =>
    refine ss_cs (F := F) C0 d hw hc hfl k L st M ?_
    unfold tt_cs
    exact ⟨hn0, hlen, by rw [hF]; exact h⟩
  · next r hF =>
    obtain ⟨p, l, e, R, s, m, args, below, meth, c, Q, D, cI, cL, A0, H0, ck, cn⟩ := X
    obtain ⟨hx, hb, hml, hown, hts, hK, hD, hA, hR⟩ := C0
    intro H locs ls hP hS hl
    rw [Bool.and_eq_true] at hfl
    obtain ⟨w1, w2, w4, w5, w6, w7, w8⟩ := hw
    obtain ⟨hstt, hZ, rfl, hex, hlk, hc1, hc2, hQ⟩ := T0 r.1 r.2 h
    have hM := hcx _ M r hF H.size
    have hl4 := k_len _ hlen
    have hst2 : st = (st.take n).reverse.reverse ++ st.drop n := by
      rw [List.reverse_reverse, List.take_append_drop]
    have hn : (st.take n).reverse.length = n := by
      rw [List.length_reverse, List.length_take]
      omega
    have hfr : fr2 + 1 ≤ R.frames ∧ 8 + (mL + 11) + lo2 ≤ R.locals := ⟨Nat.le_trans (Nat.le_of_ble_eq_true hfl.1) hR.1, Nat.le_trans (Nat.le_of_ble_eq_true hfl.2) hR.2.1⟩
    have hAA := k_AA (M := M) (D := D) hD hA hS
    refine k_callx (vx_runS (As := (st.take n).reverse) (rest := st.drop n) ⟨hx, hb, hml, hown, hts⟩ hM ⟨callB_of n hts (k_cons w5) rfl rfl rfl (hts _ w4) (hts _ w1) ⟨w6, w7, w8⟩ hfr, hts _ w2⟩ ⟨k_preZ, fun U hU hW => ⟨rfl, by rw [hU], ⟨by rw [hU]; exact hP, va_K.moved hW.alike hK⟩, by rw [hU]; exact hZ.next hS hAA hW⟩⟩ rfl hn (by rw [← hml]; exact hl.1) hst2 (lv_room hl4) d ⟨hc1, hc2⟩) hS (fun q _ z => hAA q z) hAA ?_
    intro H1 locs1 ce q9 hP1 hS1 hce hcv hcl
    intro T hT X'
    obtain ⟨t, a1, b1⟩ := vx_out (Qc := fun _ _ _ _ => False) (XC := fun E' _ t => E' = r.1 ∧ H1.size ≤ t.heap.size ∧ (∀ q : Nat, q < H1.size → t.heap[q]? = H1[q]?) ∧ s.vm.Alike t.vm) (mc := ck + 1) (ms := cn + 6) (fun x hx9 => (hex x hx9).elim) hlk hce hcv hcl (fun t ht hal => ⟨rfl, by rw [ht]; exact Nat.le_refl _, fun q _ => by rw [ht], hal⟩) hS1.2.2 (Nat.le_refl _) (Nat.le_refl _) T hT X'
    exact ⟨t, a1, hQ H1 locs1 hP1 hS1 t b1⟩
  · exact h.elim
end KT
/-- the contract of a throw out of a tree that is sound at every frame -/
theorem k_thr {l : Launch} {ad : Nat → Nat} {D : va_G} {cI cL : ClassId} {y : MethodName} {cc : ByteArray} {nL fr lo : Nat} {ret : Option FieldType} {av : List Value → List Value} {F : Sp} {tree : Rs → Tr} (hI : k_I ad) (hf : l.stackTraces = false) (hy : plainName y.cls = true)
    (hs : ∀ (X : Cx) (res : Rs), X.2.1 = l → (X.2.2.2.2.2.2.2.2.2.2.2.1 = D ∧ X.2.2.2.2.2.2.2.2.2.2.2.2.1 = cI ∧ X.2.2.2.2.2.2.2.2.2.2.2.2.2.1 = cL) → k_C ad X cc y.cls nL fr lo → k_E ad X ret res → k_T ad X res → Sd ad X 0 (tree res))
    (hp : ∀ As M e, F As M = some (.inr e) → ((lg_sl (av As)).length ≤ nL ∧ ∃ L : Ls, (∀ q ∈ k_asc 0 L, q ∈ lv_args 0 (av As)) ∧ tree (.inr e) L [] M)) :
    k_Thr l ad D cI cL y cc nL ret fr lo av F := by
  intro As M r hF sz
  obtain ⟨hlen, L, hL, ht⟩ := hp As M r hF
  refine vx_ofW (cc := cc) (maxL := nL) (ret := ret) hy rfl ?_
  intro p e s m args below meth c s₁ B hml hex hv
  obtain ⟨rfl, hsz, ⟨hP, hK⟩, hZ⟩ := hv
  have hts := atoms_spec (ws := Cond.code y cc nL ret :: k_G) B.pre
  subst hsz
  have hl := lv_entry (av As) (n := nL) hlen
  rw [lg_entry_eq]
  generalize (lg_sl (av As) ++ List.replicate (nL - (lg_sl (av As)).length) Slot.unset).toArray = ls at hl ⊢
  have hl2 : lv_has ls c.maxLocals (k_asc 0 L) := by rw [hml]; exact ⟨hl.1, hl.2.1, fun q hq => hl.2.2 q (hL q hq)⟩
  exact hs (p, l, e, _, s, m, _, below, meth, c, _, D, cI, cL, k_A ad s.heap.size, s.heap, 0, 0) (.inr r) rfl ⟨rfl, rfl, rfl⟩
    ⟨B.exec, B.bytes, hml, findClass_of_methodNamed B.named, fun w hw => hts w (List.mem_cons_of_mem _ hw), hK, k_WD hI _ cI cL, fun q hq => Or.inr hq, Nat.le_refl _, Nat.le_refl _, Nat.zero_le _, Nat.zero_le _⟩
    ⟨B.returns, B.notSynchronized, fun o M1 H locs he => by cases he⟩
    (fun E M1 he => by
      cases he
      refine ⟨hf, hZ, rfl, hex, B.notSynchronized, Nat.le_refl _, Nat.le_refl _, fun H locs hP1 hS1 t hQ => ?_⟩
      obtain ⟨oc, b1, b2, b3⟩ := hQ
      refine ⟨oc, b1, b2, ?_⟩
      rcases b3 with ⟨h, -⟩ | ⟨q, ho, E', ce, L', ⟨rfl, h2, h3, h4⟩, g2, g3, g4, g5, g6, g7⟩
      · exact h.elim
      · refine Or.inr ⟨q, ho, _, ce, L', ⟨rfl, ⟨?_, va_K.moved h4 hK⟩, ?_⟩, g2, g3, g4, g5, g6, g7⟩
        · refine hP1.kept (fun k q1 hk => h3 q1.1 ?_)
          exact (hP1 k q1 hk).lt
        · exact ⟨Nat.le_trans hS1.1 h2, fun q1 hq1 hq2 => by rw [h3 q1 (Nat.lt_of_lt_of_le hq1 hS1.1)]; exact hS1.2.1 q1 hq1 hq2⟩) L [] M ht s.heap [] ls hP va_S.rf hl2
end
