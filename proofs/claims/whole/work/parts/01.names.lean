-- ===== PART A: goes FIRST, ahead of the names: the tables' words, and 'selects' of the private methods out of them =====
/-- a private method of a class that the tables say can be made, by its rows of tables_1 -/
def lw_okq (q : MethodName × Nat) : Prop := (q.1.cls ≠ "java/lang/invoke/MethodHandle" ∧ q.1.cls ≠ "java/lang/invoke/VarHandle") ∧ Cond.instantiable q.1.cls q.2 ∈ tables_1 ∧ Cond.privateMethod q.1 ∈ tables_1 ∧ Cond.instanceMethod q.1 ∈ tables_1
theorem lw_p0 : lw_okq (⟨"LeadNames$Reader", "fillOwnNames", "()V"⟩, 10) := ⟨⟨by decide +kernel, by decide +kernel⟩, List.mem_of_getElem? (i := 30) (by decide +kernel), List.mem_of_getElem? (i := 36) (by decide +kernel), List.mem_of_getElem? (i := 37) (by decide +kernel)⟩
theorem lw_p1 : lw_okq (⟨"LeadNames", "counted", "(II)I"⟩, 12) := ⟨⟨by decide +kernel, by decide +kernel⟩, List.mem_of_getElem? (i := 22) (by decide +kernel), List.mem_of_getElem? (i := 479) (by decide +kernel), List.mem_of_getElem? (i := 480) (by decide +kernel)⟩
theorem lw_p2 : lw_okq (⟨"LeadNames", "putOnTape", "(I)V"⟩, 12) := ⟨⟨by decide +kernel, by decide +kernel⟩, List.mem_of_getElem? (i := 22) (by decide +kernel), List.mem_of_getElem? (i := 483) (by decide +kernel), List.mem_of_getElem? (i := 484) (by decide +kernel)⟩
theorem lw_p3 : lw_okq (⟨"LeadNames", "granted", "(ZI)Z"⟩, 12) := ⟨⟨by decide +kernel, by decide +kernel⟩, List.mem_of_getElem? (i := 22) (by decide +kernel), List.mem_of_getElem? (i := 491) (by decide +kernel), List.mem_of_getElem? (i := 492) (by decide +kernel)⟩
theorem lw_p4 : lw_okq (⟨"LeadNames$Reader", "readWord", "()Z"⟩, 10) := ⟨⟨by decide +kernel, by decide +kernel⟩, List.mem_of_getElem? (i := 30) (by decide +kernel), List.mem_of_getElem? (i := 524) (by decide +kernel), List.mem_of_getElem? (i := 525) (by decide +kernel)⟩
theorem lw_p5 : lw_okq (⟨"LeadNames$Reader", "readNumber", "()Z"⟩, 10) := ⟨⟨by decide +kernel, by decide +kernel⟩, List.mem_of_getElem? (i := 30) (by decide +kernel), List.mem_of_getElem? (i := 528) (by decide +kernel), List.mem_of_getElem? (i := 529) (by decide +kernel)⟩
theorem lw_p6 : lw_okq (⟨"LeadNames$Parser", "letterOunces", "()Z"⟩, 3) := ⟨⟨by decide +kernel, by decide +kernel⟩, List.mem_of_getElem? (i := 225) (by decide +kernel), List.mem_of_getElem? (i := 536) (by decide +kernel), List.mem_of_getElem? (i := 537) (by decide +kernel)⟩
theorem lw_p7 : lw_okq (⟨"LeadNames$Parser", "oneLetter", "()Z"⟩, 3) := ⟨⟨by decide +kernel, by decide +kernel⟩, List.mem_of_getElem? (i := 225) (by decide +kernel), List.mem_of_getElem? (i := 544) (by decide +kernel), List.mem_of_getElem? (i := 545) (by decide +kernel)⟩
theorem lw_p8 : lw_okq (⟨"LeadNames$Parser", "number", "(II)Z"⟩, 3) := ⟨⟨by decide +kernel, by decide +kernel⟩, List.mem_of_getElem? (i := 225) (by decide +kernel), List.mem_of_getElem? (i := 558) (by decide +kernel), List.mem_of_getElem? (i := 559) (by decide +kernel)⟩
theorem lw_p9 : lw_okq (⟨"LeadNames$Parser", "newPerson", "()Z"⟩, 3) := ⟨⟨by decide +kernel, by decide +kernel⟩, List.mem_of_getElem? (i := 225) (by decide +kernel), List.mem_of_getElem? (i := 562) (by decide +kernel), List.mem_of_getElem? (i := 563) (by decide +kernel)⟩
theorem lw_p10 : lw_okq (⟨"LeadNames$Parser", "begin", "(LLeadNames$Roll;)Z"⟩, 3) := ⟨⟨by decide +kernel, by decide +kernel⟩, List.mem_of_getElem? (i := 225) (by decide +kernel), List.mem_of_getElem? (i := 566) (by decide +kernel), List.mem_of_getElem? (i := 567) (by decide +kernel)⟩
theorem lw_p11 : lw_okq (⟨"LeadNames$Parser", "newName", "(LLeadNames$Roll;)Z"⟩, 3) := ⟨⟨by decide +kernel, by decide +kernel⟩, List.mem_of_getElem? (i := 225) (by decide +kernel), List.mem_of_getElem? (i := 574) (by decide +kernel), List.mem_of_getElem? (i := 575) (by decide +kernel)⟩
theorem lw_p12 : lw_okq (⟨"LeadNames$Parser", "token", "(I)Z"⟩, 3) := ⟨⟨by decide +kernel, by decide +kernel⟩, List.mem_of_getElem? (i := 225) (by decide +kernel), List.mem_of_getElem? (i := 591) (by decide +kernel), List.mem_of_getElem? (i := 592) (by decide +kernel)⟩
theorem lw_p13 : lw_okq (⟨"LeadNames$Parser", "keep", "(LLeadNames$Roll;I)Z"⟩, 3) := ⟨⟨by decide +kernel, by decide +kernel⟩, List.mem_of_getElem? (i := 225) (by decide +kernel), List.mem_of_getElem? (i := 595) (by decide +kernel), List.mem_of_getElem? (i := 596) (by decide +kernel)⟩
theorem lw_p14 : lw_okq (⟨"LeadNames$Parser", "newTitle", "()Z"⟩, 3) := ⟨⟨by decide +kernel, by decide +kernel⟩, List.mem_of_getElem? (i := 225) (by decide +kernel), List.mem_of_getElem? (i := 607) (by decide +kernel), List.mem_of_getElem? (i := 608) (by decide +kernel)⟩
theorem lw_p15 : lw_okq (⟨"LeadNames$Parser", "titleHad", "()Z"⟩, 3) := ⟨⟨by decide +kernel, by decide +kernel⟩, List.mem_of_getElem? (i := 225) (by decide +kernel), List.mem_of_getElem? (i := 611) (by decide +kernel), List.mem_of_getElem? (i := 612) (by decide +kernel)⟩
def lw_privs_1 : List (MethodName × Nat) := [(⟨"LeadNames$Reader", "fillOwnNames", "()V"⟩, 10), (⟨"LeadNames", "counted", "(II)I"⟩, 12), (⟨"LeadNames", "putOnTape", "(I)V"⟩, 12), (⟨"LeadNames", "granted", "(ZI)Z"⟩, 12), (⟨"LeadNames$Reader", "readWord", "()Z"⟩, 10), (⟨"LeadNames$Reader", "readNumber", "()Z"⟩, 10), (⟨"LeadNames$Parser", "letterOunces", "()Z"⟩, 3), (⟨"LeadNames$Parser", "oneLetter", "()Z"⟩, 3), (⟨"LeadNames$Parser", "number", "(II)Z"⟩, 3), (⟨"LeadNames$Parser", "newPerson", "()Z"⟩, 3), (⟨"LeadNames$Parser", "begin", "(LLeadNames$Roll;)Z"⟩, 3), (⟨"LeadNames$Parser", "newName", "(LLeadNames$Roll;)Z"⟩, 3), (⟨"LeadNames$Parser", "token", "(I)Z"⟩, 3), (⟨"LeadNames$Parser", "keep", "(LLeadNames$Roll;I)Z"⟩, 3), (⟨"LeadNames$Parser", "newTitle", "()Z"⟩, 3), (⟨"LeadNames$Parser", "titleHad", "()Z"⟩, 3)]
theorem lw_r1 : ∀ q ∈ lw_privs_1, lw_okq q := List.forall_mem_cons.mpr ⟨lw_p0, List.forall_mem_cons.mpr ⟨lw_p1, List.forall_mem_cons.mpr ⟨lw_p2, List.forall_mem_cons.mpr ⟨lw_p3, List.forall_mem_cons.mpr ⟨lw_p4, List.forall_mem_cons.mpr ⟨lw_p5, List.forall_mem_cons.mpr ⟨lw_p6, List.forall_mem_cons.mpr ⟨lw_p7, List.forall_mem_cons.mpr ⟨lw_p8, List.forall_mem_cons.mpr ⟨lw_p9, List.forall_mem_cons.mpr ⟨lw_p10, List.forall_mem_cons.mpr ⟨lw_p11, List.forall_mem_cons.mpr ⟨lw_p12, List.forall_mem_cons.mpr ⟨lw_p13, List.forall_mem_cons.mpr ⟨lw_p14, List.forall_mem_cons.mpr ⟨lw_p15, fun _ h => absurd h List.not_mem_nil⟩⟩⟩⟩⟩⟩⟩⟩⟩⟩⟩⟩⟩⟩⟩⟩
theorem lw_p16 : lw_okq (⟨"LeadNames$Parser", "knownName", "(LLeadNames$Roll;)Z"⟩, 3) := ⟨⟨by decide +kernel, by decide +kernel⟩, List.mem_of_getElem? (i := 225) (by decide +kernel), List.mem_of_getElem? (i := 615) (by decide +kernel), List.mem_of_getElem? (i := 616) (by decide +kernel)⟩
theorem lw_p17 : lw_okq (⟨"LeadNames$Parser", "heapLetters", "()Z"⟩, 3) := ⟨⟨by decide +kernel, by decide +kernel⟩, List.mem_of_getElem? (i := 225) (by decide +kernel), List.mem_of_getElem? (i := 620) (by decide +kernel), List.mem_of_getElem? (i := 621) (by decide +kernel)⟩
theorem lw_p18 : lw_okq (⟨"LeadNames$Parser", "newAge", "()Z"⟩, 3) := ⟨⟨by decide +kernel, by decide +kernel⟩, List.mem_of_getElem? (i := 225) (by decide +kernel), List.mem_of_getElem? (i := 624) (by decide +kernel), List.mem_of_getElem? (i := 625) (by decide +kernel)⟩
theorem lw_p19 : lw_okq (⟨"LeadNames$Parser", "newLaw", "()Z"⟩, 3) := ⟨⟨by decide +kernel, by decide +kernel⟩, List.mem_of_getElem? (i := 225) (by decide +kernel), List.mem_of_getElem? (i := 632) (by decide +kernel), List.mem_of_getElem? (i := 633) (by decide +kernel)⟩
theorem lw_p20 : lw_okq (⟨"LeadNames$Parser", "sum", "(I)Z"⟩, 3) := ⟨⟨by decide +kernel, by decide +kernel⟩, List.mem_of_getElem? (i := 225) (by decide +kernel), List.mem_of_getElem? (i := 636) (by decide +kernel), List.mem_of_getElem? (i := 637) (by decide +kernel)⟩
theorem lw_p21 : lw_okq (⟨"LeadNames$Parser", "product", "(I)Z"⟩, 3) := ⟨⟨by decide +kernel, by decide +kernel⟩, List.mem_of_getElem? (i := 225) (by decide +kernel), List.mem_of_getElem? (i := 640) (by decide +kernel), List.mem_of_getElem? (i := 641) (by decide +kernel)⟩
theorem lw_p22 : lw_okq (⟨"LeadNames$Parser", "part", "(I)Z"⟩, 3) := ⟨⟨by decide +kernel, by decide +kernel⟩, List.mem_of_getElem? (i := 225) (by decide +kernel), List.mem_of_getElem? (i := 644) (by decide +kernel), List.mem_of_getElem? (i := 645) (by decide +kernel)⟩
theorem lw_p23 : lw_okq (⟨"LeadNames$Parser", "step", "(I)Z"⟩, 3) := ⟨⟨by decide +kernel, by decide +kernel⟩, List.mem_of_getElem? (i := 225) (by decide +kernel), List.mem_of_getElem? (i := 648) (by decide +kernel), List.mem_of_getElem? (i := 649) (by decide +kernel)⟩
theorem lw_p24 : lw_okq (⟨"LeadNames$Parser", "bracket", "(I)Z"⟩, 3) := ⟨⟨by decide +kernel, by decide +kernel⟩, List.mem_of_getElem? (i := 225) (by decide +kernel), List.mem_of_getElem? (i := 656) (by decide +kernel), List.mem_of_getElem? (i := 657) (by decide +kernel)⟩
theorem lw_p25 : lw_okq (⟨"LeadNames$Parser", "choice", "(II)Z"⟩, 3) := ⟨⟨by decide +kernel, by decide +kernel⟩, List.mem_of_getElem? (i := 225) (by decide +kernel), List.mem_of_getElem? (i := 660) (by decide +kernel), List.mem_of_getElem? (i := 661) (by decide +kernel)⟩
theorem lw_p26 : lw_okq (⟨"LeadNames$Parser", "test", "(I)Z"⟩, 3) := ⟨⟨by decide +kernel, by decide +kernel⟩, List.mem_of_getElem? (i := 225) (by decide +kernel), List.mem_of_getElem? (i := 664) (by decide +kernel), List.mem_of_getElem? (i := 665) (by decide +kernel)⟩
theorem lw_p27 : lw_okq (⟨"LeadNames$Parser", "both", "(I)Z"⟩, 3) := ⟨⟨by decide +kernel, by decide +kernel⟩, List.mem_of_getElem? (i := 225) (by decide +kernel), List.mem_of_getElem? (i := 668) (by decide +kernel), List.mem_of_getElem? (i := 669) (by decide +kernel)⟩
theorem lw_p28 : lw_okq (⟨"LeadNames$Parser", "fact", "(I)Z"⟩, 3) := ⟨⟨by decide +kernel, by decide +kernel⟩, List.mem_of_getElem? (i := 225) (by decide +kernel), List.mem_of_getElem? (i := 672) (by decide +kernel), List.mem_of_getElem? (i := 673) (by decide +kernel)⟩
theorem lw_p29 : lw_okq (⟨"LeadNames$Parser", "comparisonSign", "()I"⟩, 3) := ⟨⟨by decide +kernel, by decide +kernel⟩, List.mem_of_getElem? (i := 225) (by decide +kernel), List.mem_of_getElem? (i := 676) (by decide +kernel), List.mem_of_getElem? (i := 677) (by decide +kernel)⟩
theorem lw_p30 : lw_okq (⟨"LeadNames$Parser", "newBridge", "()Z"⟩, 3) := ⟨⟨by decide +kernel, by decide +kernel⟩, List.mem_of_getElem? (i := 225) (by decide +kernel), List.mem_of_getElem? (i := 680) (by decide +kernel), List.mem_of_getElem? (i := 681) (by decide +kernel)⟩
theorem lw_p31 : lw_okq (⟨"LeadNames$Parser", "yearNow", "()Z"⟩, 3) := ⟨⟨by decide +kernel, by decide +kernel⟩, List.mem_of_getElem? (i := 225) (by decide +kernel), List.mem_of_getElem? (i := 684) (by decide +kernel), List.mem_of_getElem? (i := 685) (by decide +kernel)⟩
def lw_privs_2 : List (MethodName × Nat) := [(⟨"LeadNames$Parser", "knownName", "(LLeadNames$Roll;)Z"⟩, 3), (⟨"LeadNames$Parser", "heapLetters", "()Z"⟩, 3), (⟨"LeadNames$Parser", "newAge", "()Z"⟩, 3), (⟨"LeadNames$Parser", "newLaw", "()Z"⟩, 3), (⟨"LeadNames$Parser", "sum", "(I)Z"⟩, 3), (⟨"LeadNames$Parser", "product", "(I)Z"⟩, 3), (⟨"LeadNames$Parser", "part", "(I)Z"⟩, 3), (⟨"LeadNames$Parser", "step", "(I)Z"⟩, 3), (⟨"LeadNames$Parser", "bracket", "(I)Z"⟩, 3), (⟨"LeadNames$Parser", "choice", "(II)Z"⟩, 3), (⟨"LeadNames$Parser", "test", "(I)Z"⟩, 3), (⟨"LeadNames$Parser", "both", "(I)Z"⟩, 3), (⟨"LeadNames$Parser", "fact", "(I)Z"⟩, 3), (⟨"LeadNames$Parser", "comparisonSign", "()I"⟩, 3), (⟨"LeadNames$Parser", "newBridge", "()Z"⟩, 3), (⟨"LeadNames$Parser", "yearNow", "()Z"⟩, 3)]
theorem lw_r2 : ∀ q ∈ lw_privs_2, lw_okq q := List.forall_mem_cons.mpr ⟨lw_p16, List.forall_mem_cons.mpr ⟨lw_p17, List.forall_mem_cons.mpr ⟨lw_p18, List.forall_mem_cons.mpr ⟨lw_p19, List.forall_mem_cons.mpr ⟨lw_p20, List.forall_mem_cons.mpr ⟨lw_p21, List.forall_mem_cons.mpr ⟨lw_p22, List.forall_mem_cons.mpr ⟨lw_p23, List.forall_mem_cons.mpr ⟨lw_p24, List.forall_mem_cons.mpr ⟨lw_p25, List.forall_mem_cons.mpr ⟨lw_p26, List.forall_mem_cons.mpr ⟨lw_p27, List.forall_mem_cons.mpr ⟨lw_p28, List.forall_mem_cons.mpr ⟨lw_p29, List.forall_mem_cons.mpr ⟨lw_p30, List.forall_mem_cons.mpr ⟨lw_p31, fun _ h => absurd h List.not_mem_nil⟩⟩⟩⟩⟩⟩⟩⟩⟩⟩⟩⟩⟩⟩⟩⟩
theorem lw_p32 : lw_okq (⟨"LeadNames$Abacus", "run", "([III)I"⟩, 3) := ⟨⟨by decide +kernel, by decide +kernel⟩, List.mem_of_getElem? (i := 325) (by decide +kernel), List.mem_of_getElem? (i := 821) (by decide +kernel), List.mem_of_getElem? (i := 822) (by decide +kernel)⟩
theorem lw_p33 : lw_okq (⟨"LeadNames$Abacus", "push", "(I)V"⟩, 3) := ⟨⟨by decide +kernel, by decide +kernel⟩, List.mem_of_getElem? (i := 325) (by decide +kernel), List.mem_of_getElem? (i := 826) (by decide +kernel), List.mem_of_getElem? (i := 827) (by decide +kernel)⟩
theorem lw_p34 : lw_okq (⟨"LeadNames$Abacus", "pop", "()I"⟩, 3) := ⟨⟨by decide +kernel, by decide +kernel⟩, List.mem_of_getElem? (i := 325) (by decide +kernel), List.mem_of_getElem? (i := 830) (by decide +kernel), List.mem_of_getElem? (i := 831) (by decide +kernel)⟩
theorem lw_p35 : lw_okq (⟨"LeadNames", "bestOfAll", "(I)I"⟩, 12) := ⟨⟨by decide +kernel, by decide +kernel⟩, List.mem_of_getElem? (i := 22) (by decide +kernel), List.mem_of_getElem? (i := 878) (by decide +kernel), List.mem_of_getElem? (i := 879) (by decide +kernel)⟩
theorem lw_p36 : lw_okq (⟨"LeadNames$Search", "choose", "(IIII)V"⟩, 15) := ⟨⟨by decide +kernel, by decide +kernel⟩, List.mem_of_getElem? (i := 241) (by decide +kernel), List.mem_of_getElem? (i := 893) (by decide +kernel), List.mem_of_getElem? (i := 894) (by decide +kernel)⟩
theorem lw_p37 : lw_okq (⟨"LeadNames$Search", "compare", "(II)V"⟩, 15) := ⟨⟨by decide +kernel, by decide +kernel⟩, List.mem_of_getElem? (i := 241) (by decide +kernel), List.mem_of_getElem? (i := 897) (by decide +kernel), List.mem_of_getElem? (i := 898) (by decide +kernel)⟩
theorem lw_p38 : lw_okq (⟨"LeadNames$Coats", "countLetters", "(I[I)V"⟩, 12) := ⟨⟨by decide +kernel, by decide +kernel⟩, List.mem_of_getElem? (i := 295) (by decide +kernel), List.mem_of_getElem? (i := 907) (by decide +kernel), List.mem_of_getElem? (i := 908) (by decide +kernel)⟩
theorem lw_p39 : lw_okq (⟨"LeadNames$Coats", "canLay", "(I)Z"⟩, 12) := ⟨⟨by decide +kernel, by decide +kernel⟩, List.mem_of_getElem? (i := 295) (by decide +kernel), List.mem_of_getElem? (i := 914) (by decide +kernel), List.mem_of_getElem? (i := 915) (by decide +kernel)⟩
theorem lw_p40 : lw_okq (⟨"LeadNames$Acts", "note", "(IIII)V"⟩, 5) := ⟨⟨by decide +kernel, by decide +kernel⟩, List.mem_of_getElem? (i := 395) (by decide +kernel), List.mem_of_getElem? (i := 970) (by decide +kernel), List.mem_of_getElem? (i := 971) (by decide +kernel)⟩
theorem lw_p41 : lw_okq (⟨"LeadNames$Ring", "place", "(I)I"⟩, 5) := ⟨⟨by decide +kernel, by decide +kernel⟩, List.mem_of_getElem? (i := 301) (by decide +kernel), List.mem_of_getElem? (i := 978) (by decide +kernel), List.mem_of_getElem? (i := 979) (by decide +kernel)⟩
theorem lw_p42 : lw_okq (⟨"LeadNames$Acts", "lighten", "(I)I"⟩, 5) := ⟨⟨by decide +kernel, by decide +kernel⟩, List.mem_of_getElem? (i := 395) (by decide +kernel), List.mem_of_getElem? (i := 1110) (by decide +kernel), List.mem_of_getElem? (i := 1111) (by decide +kernel)⟩
theorem lw_p43 : lw_okq (⟨"LeadNames$Land", "likely", "(III)J"⟩, 11) := ⟨⟨by decide +kernel, by decide +kernel⟩, List.mem_of_getElem? (i := 125) (by decide +kernel), List.mem_of_getElem? (i := 1172) (by decide +kernel), List.mem_of_getElem? (i := 1173) (by decide +kernel)⟩
theorem lw_p44 : lw_okq (⟨"LeadNames$Search", "collect", "(III)V"⟩, 15) := ⟨⟨by decide +kernel, by decide +kernel⟩, List.mem_of_getElem? (i := 241) (by decide +kernel), List.mem_of_getElem? (i := 1189) (by decide +kernel), List.mem_of_getElem? (i := 1190) (by decide +kernel)⟩
theorem lw_p45 : lw_okq (⟨"LeadNames$Search", "place", "(II)V"⟩, 15) := ⟨⟨by decide +kernel, by decide +kernel⟩, List.mem_of_getElem? (i := 241) (by decide +kernel), List.mem_of_getElem? (i := 1229) (by decide +kernel), List.mem_of_getElem? (i := 1230) (by decide +kernel)⟩
theorem lw_p46 : lw_okq (⟨"LeadNames$Image", "put", "(II)V"⟩, 2) := ⟨⟨by decide +kernel, by decide +kernel⟩, List.mem_of_getElem? (i := 423) (by decide +kernel), List.mem_of_getElem? (i := 1249) (by decide +kernel), List.mem_of_getElem? (i := 1250) (by decide +kernel)⟩
theorem lw_p47 : lw_okq (⟨"LeadNames$Image", "putLetters", "(LLeadNames$Coats;I)V"⟩, 2) := ⟨⟨by decide +kernel, by decide +kernel⟩, List.mem_of_getElem? (i := 423) (by decide +kernel), List.mem_of_getElem? (i := 1254) (by decide +kernel), List.mem_of_getElem? (i := 1255) (by decide +kernel)⟩
def lw_privs_3 : List (MethodName × Nat) := [(⟨"LeadNames$Abacus", "run", "([III)I"⟩, 3), (⟨"LeadNames$Abacus", "push", "(I)V"⟩, 3), (⟨"LeadNames$Abacus", "pop", "()I"⟩, 3), (⟨"LeadNames", "bestOfAll", "(I)I"⟩, 12), (⟨"LeadNames$Search", "choose", "(IIII)V"⟩, 15), (⟨"LeadNames$Search", "compare", "(II)V"⟩, 15), (⟨"LeadNames$Coats", "countLetters", "(I[I)V"⟩, 12), (⟨"LeadNames$Coats", "canLay", "(I)Z"⟩, 12), (⟨"LeadNames$Acts", "note", "(IIII)V"⟩, 5), (⟨"LeadNames$Ring", "place", "(I)I"⟩, 5), (⟨"LeadNames$Acts", "lighten", "(I)I"⟩, 5), (⟨"LeadNames$Land", "likely", "(III)J"⟩, 11), (⟨"LeadNames$Search", "collect", "(III)V"⟩, 15), (⟨"LeadNames$Search", "place", "(II)V"⟩, 15), (⟨"LeadNames$Image", "put", "(II)V"⟩, 2), (⟨"LeadNames$Image", "putLetters", "(LLeadNames$Coats;I)V"⟩, 2)]
theorem lw_r3 : ∀ q ∈ lw_privs_3, lw_okq q := List.forall_mem_cons.mpr ⟨lw_p32, List.forall_mem_cons.mpr ⟨lw_p33, List.forall_mem_cons.mpr ⟨lw_p34, List.forall_mem_cons.mpr ⟨lw_p35, List.forall_mem_cons.mpr ⟨lw_p36, List.forall_mem_cons.mpr ⟨lw_p37, List.forall_mem_cons.mpr ⟨lw_p38, List.forall_mem_cons.mpr ⟨lw_p39, List.forall_mem_cons.mpr ⟨lw_p40, List.forall_mem_cons.mpr ⟨lw_p41, List.forall_mem_cons.mpr ⟨lw_p42, List.forall_mem_cons.mpr ⟨lw_p43, List.forall_mem_cons.mpr ⟨lw_p44, List.forall_mem_cons.mpr ⟨lw_p45, List.forall_mem_cons.mpr ⟨lw_p46, List.forall_mem_cons.mpr ⟨lw_p47, fun _ h => absurd h List.not_mem_nil⟩⟩⟩⟩⟩⟩⟩⟩⟩⟩⟩⟩⟩⟩⟩⟩
theorem lw_p48 : lw_okq (⟨"LeadNamesModel", "refuses", "(I)I"⟩, 73) := ⟨⟨by decide +kernel, by decide +kernel⟩, List.mem_of_getElem? (i := 1314) (by decide +kernel), List.mem_of_getElem? (i := 1546) (by decide +kernel), List.mem_of_getElem? (i := 1547) (by decide +kernel)⟩
theorem lw_p49 : lw_okq (⟨"LeadNamesModel", "put", "(I)V"⟩, 73) := ⟨⟨by decide +kernel, by decide +kernel⟩, List.mem_of_getElem? (i := 1314) (by decide +kernel), List.mem_of_getElem? (i := 1550) (by decide +kernel), List.mem_of_getElem? (i := 1551) (by decide +kernel)⟩
theorem lw_p50 : lw_okq (⟨"LeadNamesModel", "ahead", "()V"⟩, 73) := ⟨⟨by decide +kernel, by decide +kernel⟩, List.mem_of_getElem? (i := 1314) (by decide +kernel), List.mem_of_getElem? (i := 1562) (by decide +kernel), List.mem_of_getElem? (i := 1563) (by decide +kernel)⟩
theorem lw_p51 : lw_okq (⟨"LeadNamesModel", "blame", "(II)V"⟩, 73) := ⟨⟨by decide +kernel, by decide +kernel⟩, List.mem_of_getElem? (i := 1314) (by decide +kernel), List.mem_of_getElem? (i := 1572) (by decide +kernel), List.mem_of_getElem? (i := 1573) (by decide +kernel)⟩
theorem lw_p52 : lw_okq (⟨"LeadNamesModel", "statement", "()V"⟩, 73) := ⟨⟨by decide +kernel, by decide +kernel⟩, List.mem_of_getElem? (i := 1314) (by decide +kernel), List.mem_of_getElem? (i := 1576) (by decide +kernel), List.mem_of_getElem? (i := 1577) (by decide +kernel)⟩
theorem lw_p53 : lw_okq (⟨"LeadNamesModel", "isWord", "(J)Z"⟩, 73) := ⟨⟨by decide +kernel, by decide +kernel⟩, List.mem_of_getElem? (i := 1314) (by decide +kernel), List.mem_of_getElem? (i := 1581) (by decide +kernel), List.mem_of_getElem? (i := 1582) (by decide +kernel)⟩
theorem lw_p54 : lw_okq (⟨"LeadNamesModel", "weighs", "()V"⟩, 73) := ⟨⟨by decide +kernel, by decide +kernel⟩, List.mem_of_getElem? (i := 1314) (by decide +kernel), List.mem_of_getElem? (i := 1585) (by decide +kernel), List.mem_of_getElem? (i := 1586) (by decide +kernel)⟩
theorem lw_p55 : lw_okq (⟨"LeadNamesModel", "counts", "(Z)Z"⟩, 73) := ⟨⟨by decide +kernel, by decide +kernel⟩, List.mem_of_getElem? (i := 1314) (by decide +kernel), List.mem_of_getElem? (i := 1589) (by decide +kernel), List.mem_of_getElem? (i := 1590) (by decide +kernel)⟩
theorem lw_p56 : lw_okq (⟨"LeadNamesModel", "oneLetter", "()I"⟩, 73) := ⟨⟨by decide +kernel, by decide +kernel⟩, List.mem_of_getElem? (i := 1314) (by decide +kernel), List.mem_of_getElem? (i := 1593) (by decide +kernel), List.mem_of_getElem? (i := 1594) (by decide +kernel)⟩
theorem lw_p57 : lw_okq (⟨"LeadNamesModel", "number", "(II)I"⟩, 73) := ⟨⟨by decide +kernel, by decide +kernel⟩, List.mem_of_getElem? (i := 1314) (by decide +kernel), List.mem_of_getElem? (i := 1598) (by decide +kernel), List.mem_of_getElem? (i := 1599) (by decide +kernel)⟩
theorem lw_p58 : lw_okq (⟨"LeadNamesModel", "person", "()V"⟩, 73) := ⟨⟨by decide +kernel, by decide +kernel⟩, List.mem_of_getElem? (i := 1314) (by decide +kernel), List.mem_of_getElem? (i := 1606) (by decide +kernel), List.mem_of_getElem? (i := 1607) (by decide +kernel)⟩
theorem lw_p59 : lw_okq (⟨"LeadNamesModel", "fresh", "()J"⟩, 73) := ⟨⟨by decide +kernel, by decide +kernel⟩, List.mem_of_getElem? (i := 1314) (by decide +kernel), List.mem_of_getElem? (i := 1610) (by decide +kernel), List.mem_of_getElem? (i := 1611) (by decide +kernel)⟩
theorem lw_p60 : lw_okq (⟨"LeadNamesModel", "isOwn", "(J)Z"⟩, 73) := ⟨⟨by decide +kernel, by decide +kernel⟩, List.mem_of_getElem? (i := 1314) (by decide +kernel), List.mem_of_getElem? (i := 1614) (by decide +kernel), List.mem_of_getElem? (i := 1615) (by decide +kernel)⟩
theorem lw_p61 : lw_okq (⟨"LeadNamesModel", "named", "(IJ)I"⟩, 73) := ⟨⟨by decide +kernel, by decide +kernel⟩, List.mem_of_getElem? (i := 1314) (by decide +kernel), List.mem_of_getElem? (i := 1639) (by decide +kernel), List.mem_of_getElem? (i := 1640) (by decide +kernel)⟩
theorem lw_p62 : lw_okq (⟨"LeadNamesModel", "nameOf", "(III)J"⟩, 73) := ⟨⟨by decide +kernel, by decide +kernel⟩, List.mem_of_getElem? (i := 1314) (by decide +kernel), List.mem_of_getElem? (i := 1643) (by decide +kernel), List.mem_of_getElem? (i := 1644) (by decide +kernel)⟩
theorem lw_p63 : lw_okq (⟨"LeadNamesModel", "must", "(J)V"⟩, 73) := ⟨⟨by decide +kernel, by decide +kernel⟩, List.mem_of_getElem? (i := 1314) (by decide +kernel), List.mem_of_getElem? (i := 1647) (by decide +kernel), List.mem_of_getElem? (i := 1648) (by decide +kernel)⟩
def lw_privs_4 : List (MethodName × Nat) := [(⟨"LeadNamesModel", "refuses", "(I)I"⟩, 73), (⟨"LeadNamesModel", "put", "(I)V"⟩, 73), (⟨"LeadNamesModel", "ahead", "()V"⟩, 73), (⟨"LeadNamesModel", "blame", "(II)V"⟩, 73), (⟨"LeadNamesModel", "statement", "()V"⟩, 73), (⟨"LeadNamesModel", "isWord", "(J)Z"⟩, 73), (⟨"LeadNamesModel", "weighs", "()V"⟩, 73), (⟨"LeadNamesModel", "counts", "(Z)Z"⟩, 73), (⟨"LeadNamesModel", "oneLetter", "()I"⟩, 73), (⟨"LeadNamesModel", "number", "(II)I"⟩, 73), (⟨"LeadNamesModel", "person", "()V"⟩, 73), (⟨"LeadNamesModel", "fresh", "()J"⟩, 73), (⟨"LeadNamesModel", "isOwn", "(J)Z"⟩, 73), (⟨"LeadNamesModel", "named", "(IJ)I"⟩, 73), (⟨"LeadNamesModel", "nameOf", "(III)J"⟩, 73), (⟨"LeadNamesModel", "must", "(J)V"⟩, 73)]
theorem lw_r4 : ∀ q ∈ lw_privs_4, lw_okq q := List.forall_mem_cons.mpr ⟨lw_p48, List.forall_mem_cons.mpr ⟨lw_p49, List.forall_mem_cons.mpr ⟨lw_p50, List.forall_mem_cons.mpr ⟨lw_p51, List.forall_mem_cons.mpr ⟨lw_p52, List.forall_mem_cons.mpr ⟨lw_p53, List.forall_mem_cons.mpr ⟨lw_p54, List.forall_mem_cons.mpr ⟨lw_p55, List.forall_mem_cons.mpr ⟨lw_p56, List.forall_mem_cons.mpr ⟨lw_p57, List.forall_mem_cons.mpr ⟨lw_p58, List.forall_mem_cons.mpr ⟨lw_p59, List.forall_mem_cons.mpr ⟨lw_p60, List.forall_mem_cons.mpr ⟨lw_p61, List.forall_mem_cons.mpr ⟨lw_p62, List.forall_mem_cons.mpr ⟨lw_p63, fun _ h => absurd h List.not_mem_nil⟩⟩⟩⟩⟩⟩⟩⟩⟩⟩⟩⟩⟩⟩⟩⟩
theorem lw_p64 : lw_okq (⟨"LeadNamesModel", "title", "()V"⟩, 73) := ⟨⟨by decide +kernel, by decide +kernel⟩, List.mem_of_getElem? (i := 1314) (by decide +kernel), List.mem_of_getElem? (i := 1651) (by decide +kernel), List.mem_of_getElem? (i := 1652) (by decide +kernel)⟩
theorem lw_p65 : lw_okq (⟨"LeadNamesModel", "having", "()V"⟩, 73) := ⟨⟨by decide +kernel, by decide +kernel⟩, List.mem_of_getElem? (i := 1314) (by decide +kernel), List.mem_of_getElem? (i := 1655) (by decide +kernel), List.mem_of_getElem? (i := 1656) (by decide +kernel)⟩
theorem lw_p66 : lw_okq (⟨"LeadNamesModel", "asked", "(I)I"⟩, 73) := ⟨⟨by decide +kernel, by decide +kernel⟩, List.mem_of_getElem? (i := 1314) (by decide +kernel), List.mem_of_getElem? (i := 1659) (by decide +kernel), List.mem_of_getElem? (i := 1660) (by decide +kernel)⟩
theorem lw_p67 : lw_okq (⟨"LeadNamesModel", "heaping", "()V"⟩, 73) := ⟨⟨by decide +kernel, by decide +kernel⟩, List.mem_of_getElem? (i := 1314) (by decide +kernel), List.mem_of_getElem? (i := 1663) (by decide +kernel), List.mem_of_getElem? (i := 1664) (by decide +kernel)⟩
theorem lw_p68 : lw_okq (⟨"LeadNamesModel", "others", "()V"⟩, 73) := ⟨⟨by decide +kernel, by decide +kernel⟩, List.mem_of_getElem? (i := 1314) (by decide +kernel), List.mem_of_getElem? (i := 1667) (by decide +kernel), List.mem_of_getElem? (i := 1668) (by decide +kernel)⟩
theorem lw_p69 : lw_okq (⟨"LeadNamesModel", "ageing", "()V"⟩, 73) := ⟨⟨by decide +kernel, by decide +kernel⟩, List.mem_of_getElem? (i := 1314) (by decide +kernel), List.mem_of_getElem? (i := 1671) (by decide +kernel), List.mem_of_getElem? (i := 1672) (by decide +kernel)⟩
theorem lw_p70 : lw_okq (⟨"LeadNamesModel", "law", "()V"⟩, 73) := ⟨⟨by decide +kernel, by decide +kernel⟩, List.mem_of_getElem? (i := 1314) (by decide +kernel), List.mem_of_getElem? (i := 1675) (by decide +kernel), List.mem_of_getElem? (i := 1676) (by decide +kernel)⟩
theorem lw_p71 : lw_okq (⟨"LeadNamesModel", "reads", "(Z)V"⟩, 73) := ⟨⟨by decide +kernel, by decide +kernel⟩, List.mem_of_getElem? (i := 1314) (by decide +kernel), List.mem_of_getElem? (i := 1679) (by decide +kernel), List.mem_of_getElem? (i := 1680) (by decide +kernel)⟩
theorem lw_p72 : lw_okq (⟨"LeadNamesModel", "pushes", "(I)V"⟩, 73) := ⟨⟨by decide +kernel, by decide +kernel⟩, List.mem_of_getElem? (i := 1314) (by decide +kernel), List.mem_of_getElem? (i := 1683) (by decide +kernel), List.mem_of_getElem? (i := 1684) (by decide +kernel)⟩
theorem lw_p73 : lw_okq (⟨"LeadNamesModel", "operand", "()Z"⟩, 73) := ⟨⟨by decide +kernel, by decide +kernel⟩, List.mem_of_getElem? (i := 1314) (by decide +kernel), List.mem_of_getElem? (i := 1687) (by decide +kernel), List.mem_of_getElem? (i := 1688) (by decide +kernel)⟩
theorem lw_p74 : lw_okq (⟨"LeadNamesModel", "holdsBack", "(I)V"⟩, 73) := ⟨⟨by decide +kernel, by decide +kernel⟩, List.mem_of_getElem? (i := 1314) (by decide +kernel), List.mem_of_getElem? (i := 1694) (by decide +kernel), List.mem_of_getElem? (i := 1695) (by decide +kernel)⟩
theorem lw_p75 : lw_okq (⟨"LeadNamesModel", "isSign", "(I)Z"⟩, 73) := ⟨⟨by decide +kernel, by decide +kernel⟩, List.mem_of_getElem? (i := 1314) (by decide +kernel), List.mem_of_getElem? (i := 1698) (by decide +kernel), List.mem_of_getElem? (i := 1699) (by decide +kernel)⟩
theorem lw_p76 : lw_okq (⟨"LeadNamesModel", "opens", "(I)V"⟩, 73) := ⟨⟨by decide +kernel, by decide +kernel⟩, List.mem_of_getElem? (i := 1314) (by decide +kernel), List.mem_of_getElem? (i := 1702) (by decide +kernel), List.mem_of_getElem? (i := 1703) (by decide +kernel)⟩
theorem lw_p77 : lw_okq (⟨"LeadNamesModel", "add", "(II)V"⟩, 73) := ⟨⟨by decide +kernel, by decide +kernel⟩, List.mem_of_getElem? (i := 1314) (by decide +kernel), List.mem_of_getElem? (i := 1706) (by decide +kernel), List.mem_of_getElem? (i := 1707) (by decide +kernel)⟩
theorem lw_p78 : lw_okq (⟨"LeadNamesModel", "goesOn", "()Z"⟩, 73) := ⟨⟨by decide +kernel, by decide +kernel⟩, List.mem_of_getElem? (i := 1314) (by decide +kernel), List.mem_of_getElem? (i := 1710) (by decide +kernel), List.mem_of_getElem? (i := 1711) (by decide +kernel)⟩
theorem lw_p79 : lw_okq (⟨"LeadNamesModel", "joins", "(I)V"⟩, 73) := ⟨⟨by decide +kernel, by decide +kernel⟩, List.mem_of_getElem? (i := 1314) (by decide +kernel), List.mem_of_getElem? (i := 1714) (by decide +kernel), List.mem_of_getElem? (i := 1715) (by decide +kernel)⟩
def lw_privs_5 : List (MethodName × Nat) := [(⟨"LeadNamesModel", "title", "()V"⟩, 73), (⟨"LeadNamesModel", "having", "()V"⟩, 73), (⟨"LeadNamesModel", "asked", "(I)I"⟩, 73), (⟨"LeadNamesModel", "heaping", "()V"⟩, 73), (⟨"LeadNamesModel", "others", "()V"⟩, 73), (⟨"LeadNamesModel", "ageing", "()V"⟩, 73), (⟨"LeadNamesModel", "law", "()V"⟩, 73), (⟨"LeadNamesModel", "reads", "(Z)V"⟩, 73), (⟨"LeadNamesModel", "pushes", "(I)V"⟩, 73), (⟨"LeadNamesModel", "operand", "()Z"⟩, 73), (⟨"LeadNamesModel", "holdsBack", "(I)V"⟩, 73), (⟨"LeadNamesModel", "isSign", "(I)Z"⟩, 73), (⟨"LeadNamesModel", "opens", "(I)V"⟩, 73), (⟨"LeadNamesModel", "add", "(II)V"⟩, 73), (⟨"LeadNamesModel", "goesOn", "()Z"⟩, 73), (⟨"LeadNamesModel", "joins", "(I)V"⟩, 73)]
theorem lw_r5 : ∀ q ∈ lw_privs_5, lw_okq q := List.forall_mem_cons.mpr ⟨lw_p64, List.forall_mem_cons.mpr ⟨lw_p65, List.forall_mem_cons.mpr ⟨lw_p66, List.forall_mem_cons.mpr ⟨lw_p67, List.forall_mem_cons.mpr ⟨lw_p68, List.forall_mem_cons.mpr ⟨lw_p69, List.forall_mem_cons.mpr ⟨lw_p70, List.forall_mem_cons.mpr ⟨lw_p71, List.forall_mem_cons.mpr ⟨lw_p72, List.forall_mem_cons.mpr ⟨lw_p73, List.forall_mem_cons.mpr ⟨lw_p74, List.forall_mem_cons.mpr ⟨lw_p75, List.forall_mem_cons.mpr ⟨lw_p76, List.forall_mem_cons.mpr ⟨lw_p77, List.forall_mem_cons.mpr ⟨lw_p78, List.forall_mem_cons.mpr ⟨lw_p79, fun _ h => absurd h List.not_mem_nil⟩⟩⟩⟩⟩⟩⟩⟩⟩⟩⟩⟩⟩⟩⟩⟩
theorem lw_p80 : lw_okq (⟨"LeadNamesModel", "bridge", "()V"⟩, 73) := ⟨⟨by decide +kernel, by decide +kernel⟩, List.mem_of_getElem? (i := 1314) (by decide +kernel), List.mem_of_getElem? (i := 1721) (by decide +kernel), List.mem_of_getElem? (i := 1722) (by decide +kernel)⟩
theorem lw_p81 : lw_okq (⟨"LeadNamesModel", "dating", "()V"⟩, 73) := ⟨⟨by decide +kernel, by decide +kernel⟩, List.mem_of_getElem? (i := 1314) (by decide +kernel), List.mem_of_getElem? (i := 1725) (by decide +kernel), List.mem_of_getElem? (i := 1726) (by decide +kernel)⟩
theorem lw_p82 : lw_okq (⟨"LeadNamesModel", "must", "(I)V"⟩, 73) := ⟨⟨by decide +kernel, by decide +kernel⟩, List.mem_of_getElem? (i := 1314) (by decide +kernel), List.mem_of_getElem? (i := 1729) (by decide +kernel), List.mem_of_getElem? (i := 1730) (by decide +kernel)⟩
theorem lw_p83 : lw_okq (⟨"LeadNamesModel", "begins", "()V"⟩, 73) := ⟨⟨by decide +kernel, by decide +kernel⟩, List.mem_of_getElem? (i := 1314) (by decide +kernel), List.mem_of_getElem? (i := 1733) (by decide +kernel), List.mem_of_getElem? (i := 1734) (by decide +kernel)⟩
theorem lw_p84 : lw_okq (⟨"LeadNamesModel", "manyOf", "(I)I"⟩, 73) := ⟨⟨by decide +kernel, by decide +kernel⟩, List.mem_of_getElem? (i := 1314) (by decide +kernel), List.mem_of_getElem? (i := 1753) (by decide +kernel), List.mem_of_getElem? (i := 1754) (by decide +kernel)⟩
theorem lw_p85 : lw_okq (⟨"LeadNamesModel", "weight", "(I)I"⟩, 73) := ⟨⟨by decide +kernel, by decide +kernel⟩, List.mem_of_getElem? (i := 1314) (by decide +kernel), List.mem_of_getElem? (i := 1764) (by decide +kernel), List.mem_of_getElem? (i := 1765) (by decide +kernel)⟩
theorem lw_p86 : lw_okq (⟨"LeadNamesModel", "isTitle", "(I)Z"⟩, 73) := ⟨⟨by decide +kernel, by decide +kernel⟩, List.mem_of_getElem? (i := 1314) (by decide +kernel), List.mem_of_getElem? (i := 1772) (by decide +kernel), List.mem_of_getElem? (i := 1773) (by decide +kernel)⟩
theorem lw_p87 : lw_okq (⟨"LeadNamesModel", "hasTitle", "(II)Z"⟩, 73) := ⟨⟨by decide +kernel, by decide +kernel⟩, List.mem_of_getElem? (i := 1314) (by decide +kernel), List.mem_of_getElem? (i := 1776) (by decide +kernel), List.mem_of_getElem? (i := 1777) (by decide +kernel)⟩
theorem lw_p88 : lw_okq (⟨"LeadNamesModel", "ouncesOf", "(I)I"⟩, 73) := ⟨⟨by decide +kernel, by decide +kernel⟩, List.mem_of_getElem? (i := 1314) (by decide +kernel), List.mem_of_getElem? (i := 1780) (by decide +kernel), List.mem_of_getElem? (i := 1781) (by decide +kernel)⟩
theorem lw_p89 : lw_okq (⟨"LeadNamesModel", "honourOf", "(I)I"⟩, 73) := ⟨⟨by decide +kernel, by decide +kernel⟩, List.mem_of_getElem? (i := 1314) (by decide +kernel), List.mem_of_getElem? (i := 1784) (by decide +kernel), List.mem_of_getElem? (i := 1785) (by decide +kernel)⟩
theorem lw_p90 : lw_okq (⟨"LeadNamesModel", "lengthOf", "(I)I"⟩, 73) := ⟨⟨by decide +kernel, by decide +kernel⟩, List.mem_of_getElem? (i := 1314) (by decide +kernel), List.mem_of_getElem? (i := 1788) (by decide +kernel), List.mem_of_getElem? (i := 1789) (by decide +kernel)⟩
theorem lw_p91 : lw_okq (⟨"LeadNamesModel", "isPerson", "(I)Z"⟩, 73) := ⟨⟨by decide +kernel, by decide +kernel⟩, List.mem_of_getElem? (i := 1314) (by decide +kernel), List.mem_of_getElem? (i := 1796) (by decide +kernel), List.mem_of_getElem? (i := 1797) (by decide +kernel)⟩
theorem lw_p92 : lw_okq (⟨"LeadNamesModel", "ageOf", "(I)I"⟩, 73) := ⟨⟨by decide +kernel, by decide +kernel⟩, List.mem_of_getElem? (i := 1314) (by decide +kernel), List.mem_of_getElem? (i := 1800) (by decide +kernel), List.mem_of_getElem? (i := 1801) (by decide +kernel)⟩
theorem lw_p93 : lw_okq (⟨"LeadNamesModel", "limitOf", "(I)I"⟩, 73) := ⟨⟨by decide +kernel, by decide +kernel⟩, List.mem_of_getElem? (i := 1314) (by decide +kernel), List.mem_of_getElem? (i := 1804) (by decide +kernel), List.mem_of_getElem? (i := 1805) (by decide +kernel)⟩
theorem lw_p94 : lw_okq (⟨"LeadNamesModel", "sumOf", "(IZ)I"⟩, 73) := ⟨⟨by decide +kernel, by decide +kernel⟩, List.mem_of_getElem? (i := 1314) (by decide +kernel), List.mem_of_getElem? (i := 1808) (by decide +kernel), List.mem_of_getElem? (i := 1809) (by decide +kernel)⟩
theorem lw_p95 : lw_okq (⟨"LeadNamesModel", "works", "(II)J"⟩, 73) := ⟨⟨by decide +kernel, by decide +kernel⟩, List.mem_of_getElem? (i := 1314) (by decide +kernel), List.mem_of_getElem? (i := 1815) (by decide +kernel), List.mem_of_getElem? (i := 1816) (by decide +kernel)⟩
def lw_privs_6 : List (MethodName × Nat) := [(⟨"LeadNamesModel", "bridge", "()V"⟩, 73), (⟨"LeadNamesModel", "dating", "()V"⟩, 73), (⟨"LeadNamesModel", "must", "(I)V"⟩, 73), (⟨"LeadNamesModel", "begins", "()V"⟩, 73), (⟨"LeadNamesModel", "manyOf", "(I)I"⟩, 73), (⟨"LeadNamesModel", "weight", "(I)I"⟩, 73), (⟨"LeadNamesModel", "isTitle", "(I)Z"⟩, 73), (⟨"LeadNamesModel", "hasTitle", "(II)Z"⟩, 73), (⟨"LeadNamesModel", "ouncesOf", "(I)I"⟩, 73), (⟨"LeadNamesModel", "honourOf", "(I)I"⟩, 73), (⟨"LeadNamesModel", "lengthOf", "(I)I"⟩, 73), (⟨"LeadNamesModel", "isPerson", "(I)Z"⟩, 73), (⟨"LeadNamesModel", "ageOf", "(I)I"⟩, 73), (⟨"LeadNamesModel", "limitOf", "(I)I"⟩, 73), (⟨"LeadNamesModel", "sumOf", "(IZ)I"⟩, 73), (⟨"LeadNamesModel", "works", "(II)J"⟩, 73)]
theorem lw_r6 : ∀ q ∈ lw_privs_6, lw_okq q := List.forall_mem_cons.mpr ⟨lw_p80, List.forall_mem_cons.mpr ⟨lw_p81, List.forall_mem_cons.mpr ⟨lw_p82, List.forall_mem_cons.mpr ⟨lw_p83, List.forall_mem_cons.mpr ⟨lw_p84, List.forall_mem_cons.mpr ⟨lw_p85, List.forall_mem_cons.mpr ⟨lw_p86, List.forall_mem_cons.mpr ⟨lw_p87, List.forall_mem_cons.mpr ⟨lw_p88, List.forall_mem_cons.mpr ⟨lw_p89, List.forall_mem_cons.mpr ⟨lw_p90, List.forall_mem_cons.mpr ⟨lw_p91, List.forall_mem_cons.mpr ⟨lw_p92, List.forall_mem_cons.mpr ⟨lw_p93, List.forall_mem_cons.mpr ⟨lw_p94, List.forall_mem_cons.mpr ⟨lw_p95, fun _ h => absurd h List.not_mem_nil⟩⟩⟩⟩⟩⟩⟩⟩⟩⟩⟩⟩⟩⟩⟩⟩
theorem lw_p96 : lw_okq (⟨"LeadNamesModel", "loadOf", "(I)I"⟩, 73) := ⟨⟨by decide +kernel, by decide +kernel⟩, List.mem_of_getElem? (i := 1314) (by decide +kernel), List.mem_of_getElem? (i := 1831) (by decide +kernel), List.mem_of_getElem? (i := 1832) (by decide +kernel)⟩
theorem lw_p97 : lw_okq (⟨"LeadNamesModel", "looseOunces", "(I)I"⟩, 73) := ⟨⟨by decide +kernel, by decide +kernel⟩, List.mem_of_getElem? (i := 1314) (by decide +kernel), List.mem_of_getElem? (i := 1835) (by decide +kernel), List.mem_of_getElem? (i := 1836) (by decide +kernel)⟩
theorem lw_p98 : lw_okq (⟨"LeadNamesModel", "looseMany", "(I)I"⟩, 73) := ⟨⟨by decide +kernel, by decide +kernel⟩, List.mem_of_getElem? (i := 1314) (by decide +kernel), List.mem_of_getElem? (i := 1839) (by decide +kernel), List.mem_of_getElem? (i := 1840) (by decide +kernel)⟩
theorem lw_p99 : lw_okq (⟨"LeadNamesModel", "bestSet", "(II)I"⟩, 73) := ⟨⟨by decide +kernel, by decide +kernel⟩, List.mem_of_getElem? (i := 1314) (by decide +kernel), List.mem_of_getElem? (i := 1843) (by decide +kernel), List.mem_of_getElem? (i := 1844) (by decide +kernel)⟩
theorem lw_p100 : lw_okq (⟨"LeadNamesModel", "calledBy", "(I)I"⟩, 73) := ⟨⟨by decide +kernel, by decide +kernel⟩, List.mem_of_getElem? (i := 1314) (by decide +kernel), List.mem_of_getElem? (i := 1847) (by decide +kernel), List.mem_of_getElem? (i := 1848) (by decide +kernel)⟩
theorem lw_p101 : lw_okq (⟨"LeadNamesModel", "often", "(II)I"⟩, 73) := ⟨⟨by decide +kernel, by decide +kernel⟩, List.mem_of_getElem? (i := 1314) (by decide +kernel), List.mem_of_getElem? (i := 1851) (by decide +kernel), List.mem_of_getElem? (i := 1852) (by decide +kernel)⟩
theorem lw_p102 : lw_okq (⟨"LeadNamesModel", "allOf", "(II)I"⟩, 73) := ⟨⟨by decide +kernel, by decide +kernel⟩, List.mem_of_getElem? (i := 1314) (by decide +kernel), List.mem_of_getElem? (i := 1855) (by decide +kernel), List.mem_of_getElem? (i := 1856) (by decide +kernel)⟩
theorem lw_p103 : lw_okq (⟨"LeadNamesModel", "coatsAll", "()I"⟩, 73) := ⟨⟨by decide +kernel, by decide +kernel⟩, List.mem_of_getElem? (i := 1314) (by decide +kernel), List.mem_of_getElem? (i := 1867) (by decide +kernel), List.mem_of_getElem? (i := 1868) (by decide +kernel)⟩
theorem lw_p104 : lw_okq (⟨"LeadNamesModel", "bulletsAll", "()I"⟩, 73) := ⟨⟨by decide +kernel, by decide +kernel⟩, List.mem_of_getElem? (i := 1314) (by decide +kernel), List.mem_of_getElem? (i := 1871) (by decide +kernel), List.mem_of_getElem? (i := 1872) (by decide +kernel)⟩
theorem lw_p105 : lw_okq (⟨"LeadNamesModel", "canGain", "(II)Z"⟩, 73) := ⟨⟨by decide +kernel, by decide +kernel⟩, List.mem_of_getElem? (i := 1314) (by decide +kernel), List.mem_of_getElem? (i := 1879) (by decide +kernel), List.mem_of_getElem? (i := 1880) (by decide +kernel)⟩
theorem lw_p106 : lw_okq (⟨"LeadNamesModel", "lacks", "(III)I"⟩, 73) := ⟨⟨by decide +kernel, by decide +kernel⟩, List.mem_of_getElem? (i := 1314) (by decide +kernel), List.mem_of_getElem? (i := 1883) (by decide +kernel), List.mem_of_getElem? (i := 1884) (by decide +kernel)⟩
theorem lw_p107 : lw_okq (⟨"LeadNamesModel", "lackOunces", "(II)I"⟩, 73) := ⟨⟨by decide +kernel, by decide +kernel⟩, List.mem_of_getElem? (i := 1314) (by decide +kernel), List.mem_of_getElem? (i := 1887) (by decide +kernel), List.mem_of_getElem? (i := 1888) (by decide +kernel)⟩
theorem lw_p108 : lw_okq (⟨"LeadNamesModel", "gains", "(II)V"⟩, 73) := ⟨⟨by decide +kernel, by decide +kernel⟩, List.mem_of_getElem? (i := 1314) (by decide +kernel), List.mem_of_getElem? (i := 1891) (by decide +kernel), List.mem_of_getElem? (i := 1892) (by decide +kernel)⟩
theorem lw_p109 : lw_okq (⟨"LeadNamesModel", "comes", "(II)V"⟩, 73) := ⟨⟨by decide +kernel, by decide +kernel⟩, List.mem_of_getElem? (i := 1314) (by decide +kernel), List.mem_of_getElem? (i := 1895) (by decide +kernel), List.mem_of_getElem? (i := 1896) (by decide +kernel)⟩
theorem lw_p110 : lw_okq (⟨"LeadNamesModel", "notes", "(IIII)V"⟩, 73) := ⟨⟨by decide +kernel, by decide +kernel⟩, List.mem_of_getElem? (i := 1314) (by decide +kernel), List.mem_of_getElem? (i := 1899) (by decide +kernel), List.mem_of_getElem? (i := 1900) (by decide +kernel)⟩
theorem lw_p111 : lw_okq (⟨"LeadNamesModel", "sheds", "(II)V"⟩, 73) := ⟨⟨by decide +kernel, by decide +kernel⟩, List.mem_of_getElem? (i := 1314) (by decide +kernel), List.mem_of_getElem? (i := 1907) (by decide +kernel), List.mem_of_getElem? (i := 1908) (by decide +kernel)⟩
def lw_privs_7 : List (MethodName × Nat) := [(⟨"LeadNamesModel", "loadOf", "(I)I"⟩, 73), (⟨"LeadNamesModel", "looseOunces", "(I)I"⟩, 73), (⟨"LeadNamesModel", "looseMany", "(I)I"⟩, 73), (⟨"LeadNamesModel", "bestSet", "(II)I"⟩, 73), (⟨"LeadNamesModel", "calledBy", "(I)I"⟩, 73), (⟨"LeadNamesModel", "often", "(II)I"⟩, 73), (⟨"LeadNamesModel", "allOf", "(II)I"⟩, 73), (⟨"LeadNamesModel", "coatsAll", "()I"⟩, 73), (⟨"LeadNamesModel", "bulletsAll", "()I"⟩, 73), (⟨"LeadNamesModel", "canGain", "(II)Z"⟩, 73), (⟨"LeadNamesModel", "lacks", "(III)I"⟩, 73), (⟨"LeadNamesModel", "lackOunces", "(II)I"⟩, 73), (⟨"LeadNamesModel", "gains", "(II)V"⟩, 73), (⟨"LeadNamesModel", "comes", "(II)V"⟩, 73), (⟨"LeadNamesModel", "notes", "(IIII)V"⟩, 73), (⟨"LeadNamesModel", "sheds", "(II)V"⟩, 73)]
theorem lw_r7 : ∀ q ∈ lw_privs_7, lw_okq q := List.forall_mem_cons.mpr ⟨lw_p96, List.forall_mem_cons.mpr ⟨lw_p97, List.forall_mem_cons.mpr ⟨lw_p98, List.forall_mem_cons.mpr ⟨lw_p99, List.forall_mem_cons.mpr ⟨lw_p100, List.forall_mem_cons.mpr ⟨lw_p101, List.forall_mem_cons.mpr ⟨lw_p102, List.forall_mem_cons.mpr ⟨lw_p103, List.forall_mem_cons.mpr ⟨lw_p104, List.forall_mem_cons.mpr ⟨lw_p105, List.forall_mem_cons.mpr ⟨lw_p106, List.forall_mem_cons.mpr ⟨lw_p107, List.forall_mem_cons.mpr ⟨lw_p108, List.forall_mem_cons.mpr ⟨lw_p109, List.forall_mem_cons.mpr ⟨lw_p110, List.forall_mem_cons.mpr ⟨lw_p111, fun _ h => absurd h List.not_mem_nil⟩⟩⟩⟩⟩⟩⟩⟩⟩⟩⟩⟩⟩⟩⟩⟩
theorem lw_p112 : lw_okq (⟨"LeadNamesModel", "goes", "(II)V"⟩, 73) := ⟨⟨by decide +kernel, by decide +kernel⟩, List.mem_of_getElem? (i := 1314) (by decide +kernel), List.mem_of_getElem? (i := 1911) (by decide +kernel), List.mem_of_getElem? (i := 1912) (by decide +kernel)⟩
theorem lw_p113 : lw_okq (⟨"LeadNamesModel", "lays", "(II)V"⟩, 73) := ⟨⟨by decide +kernel, by decide +kernel⟩, List.mem_of_getElem? (i := 1314) (by decide +kernel), List.mem_of_getElem? (i := 1915) (by decide +kernel), List.mem_of_getElem? (i := 1916) (by decide +kernel)⟩
theorem lw_p114 : lw_okq (⟨"LeadNamesModel", "unpicked", "(II)I"⟩, 73) := ⟨⟨by decide +kernel, by decide +kernel⟩, List.mem_of_getElem? (i := 1314) (by decide +kernel), List.mem_of_getElem? (i := 1923) (by decide +kernel), List.mem_of_getElem? (i := 1924) (by decide +kernel)⟩
theorem lw_p115 : lw_okq (⟨"LeadNamesModel", "canBack", "(I)Z"⟩, 73) := ⟨⟨by decide +kernel, by decide +kernel⟩, List.mem_of_getElem? (i := 1314) (by decide +kernel), List.mem_of_getElem? (i := 1939) (by decide +kernel), List.mem_of_getElem? (i := 1940) (by decide +kernel)⟩
theorem lw_p116 : lw_okq (⟨"LeadNamesModel", "empties", "(I)V"⟩, 73) := ⟨⟨by decide +kernel, by decide +kernel⟩, List.mem_of_getElem? (i := 1314) (by decide +kernel), List.mem_of_getElem? (i := 1959) (by decide +kernel), List.mem_of_getElem? (i := 1960) (by decide +kernel)⟩
theorem lw_p117 : lw_okq (⟨"LeadNamesModel", "yearOf", "(I)I"⟩, 73) := ⟨⟨by decide +kernel, by decide +kernel⟩, List.mem_of_getElem? (i := 1314) (by decide +kernel), List.mem_of_getElem? (i := 1967) (by decide +kernel), List.mem_of_getElem? (i := 1968) (by decide +kernel)⟩
theorem lw_p118 : lw_okq (⟨"LeadNamesModel", "feastOf", "(I)I"⟩, 73) := ⟨⟨by decide +kernel, by decide +kernel⟩, List.mem_of_getElem? (i := 1314) (by decide +kernel), List.mem_of_getElem? (i := 1975) (by decide +kernel), List.mem_of_getElem? (i := 1976) (by decide +kernel)⟩
theorem lw_p119 : lw_okq (⟨"LeadNamesModel", "drawn", "(I)I"⟩, 73) := ⟨⟨by decide +kernel, by decide +kernel⟩, List.mem_of_getElem? (i := 1314) (by decide +kernel), List.mem_of_getElem? (i := 1979) (by decide +kernel), List.mem_of_getElem? (i := 1980) (by decide +kernel)⟩
theorem lw_p120 : lw_okq (⟨"LeadNamesModel", "likelyOf", "(III)J"⟩, 73) := ⟨⟨by decide +kernel, by decide +kernel⟩, List.mem_of_getElem? (i := 1314) (by decide +kernel), List.mem_of_getElem? (i := 2007) (by decide +kernel), List.mem_of_getElem? (i := 2008) (by decide +kernel)⟩
theorem lw_p121 : lw_okq (⟨"LeadNamesModel", "tries", "(III)V"⟩, 73) := ⟨⟨by decide +kernel, by decide +kernel⟩, List.mem_of_getElem? (i := 1314) (by decide +kernel), List.mem_of_getElem? (i := 2023) (by decide +kernel), List.mem_of_getElem? (i := 2024) (by decide +kernel)⟩
theorem lw_p122 : lw_okq (⟨"LeadNamesModel", "letterOf", "(II)I"⟩, 73) := ⟨⟨by decide +kernel, by decide +kernel⟩, List.mem_of_getElem? (i := 1314) (by decide +kernel), List.mem_of_getElem? (i := 2027) (by decide +kernel), List.mem_of_getElem? (i := 2028) (by decide +kernel)⟩
theorem lw_p123 : lw_okq (⟨"LeadNamesModel", "writes2", "(I)V"⟩, 73) := ⟨⟨by decide +kernel, by decide +kernel⟩, List.mem_of_getElem? (i := 1314) (by decide +kernel), List.mem_of_getElem? (i := 2043) (by decide +kernel), List.mem_of_getElem? (i := 2044) (by decide +kernel)⟩
theorem lw_p124 : lw_okq (⟨"LeadNamesModel", "writes", "(I)V"⟩, 73) := ⟨⟨by decide +kernel, by decide +kernel⟩, List.mem_of_getElem? (i := 1314) (by decide +kernel), List.mem_of_getElem? (i := 2047) (by decide +kernel), List.mem_of_getElem? (i := 2048) (by decide +kernel)⟩
theorem lw_p125 : lw_okq (⟨"LeadNamesModel", "isWhole", "(I)Z"⟩, 73) := ⟨⟨by decide +kernel, by decide +kernel⟩, List.mem_of_getElem? (i := 1314) (by decide +kernel), List.mem_of_getElem? (i := 2059) (by decide +kernel), List.mem_of_getElem? (i := 2060) (by decide +kernel)⟩
theorem lw_p126 : lw_okq (⟨"LeadNamesModel", "two", "(I)I"⟩, 73) := ⟨⟨by decide +kernel, by decide +kernel⟩, List.mem_of_getElem? (i := 1314) (by decide +kernel), List.mem_of_getElem? (i := 2063) (by decide +kernel), List.mem_of_getElem? (i := 2064) (by decide +kernel)⟩
theorem lw_p127 : lw_okq (⟨"LeadNamesModel", "rowAt", "(IZ)J"⟩, 73) := ⟨⟨by decide +kernel, by decide +kernel⟩, List.mem_of_getElem? (i := 1314) (by decide +kernel), List.mem_of_getElem? (i := 2067) (by decide +kernel), List.mem_of_getElem? (i := 2068) (by decide +kernel)⟩
def lw_privs_8 : List (MethodName × Nat) := [(⟨"LeadNamesModel", "goes", "(II)V"⟩, 73), (⟨"LeadNamesModel", "lays", "(II)V"⟩, 73), (⟨"LeadNamesModel", "unpicked", "(II)I"⟩, 73), (⟨"LeadNamesModel", "canBack", "(I)Z"⟩, 73), (⟨"LeadNamesModel", "empties", "(I)V"⟩, 73), (⟨"LeadNamesModel", "yearOf", "(I)I"⟩, 73), (⟨"LeadNamesModel", "feastOf", "(I)I"⟩, 73), (⟨"LeadNamesModel", "drawn", "(I)I"⟩, 73), (⟨"LeadNamesModel", "likelyOf", "(III)J"⟩, 73), (⟨"LeadNamesModel", "tries", "(III)V"⟩, 73), (⟨"LeadNamesModel", "letterOf", "(II)I"⟩, 73), (⟨"LeadNamesModel", "writes2", "(I)V"⟩, 73), (⟨"LeadNamesModel", "writes", "(I)V"⟩, 73), (⟨"LeadNamesModel", "isWhole", "(I)Z"⟩, 73), (⟨"LeadNamesModel", "two", "(I)I"⟩, 73), (⟨"LeadNamesModel", "rowAt", "(IZ)J"⟩, 73)]
theorem lw_r8 : ∀ q ∈ lw_privs_8, lw_okq q := List.forall_mem_cons.mpr ⟨lw_p112, List.forall_mem_cons.mpr ⟨lw_p113, List.forall_mem_cons.mpr ⟨lw_p114, List.forall_mem_cons.mpr ⟨lw_p115, List.forall_mem_cons.mpr ⟨lw_p116, List.forall_mem_cons.mpr ⟨lw_p117, List.forall_mem_cons.mpr ⟨lw_p118, List.forall_mem_cons.mpr ⟨lw_p119, List.forall_mem_cons.mpr ⟨lw_p120, List.forall_mem_cons.mpr ⟨lw_p121, List.forall_mem_cons.mpr ⟨lw_p122, List.forall_mem_cons.mpr ⟨lw_p123, List.forall_mem_cons.mpr ⟨lw_p124, List.forall_mem_cons.mpr ⟨lw_p125, List.forall_mem_cons.mpr ⟨lw_p126, List.forall_mem_cons.mpr ⟨lw_p127, fun _ h => absurd h List.not_mem_nil⟩⟩⟩⟩⟩⟩⟩⟩⟩⟩⟩⟩⟩⟩⟩⟩
def lw_privs : List (MethodName × Nat) := lw_privs_1 ++ (lw_privs_2 ++ (lw_privs_3 ++ (lw_privs_4 ++ (lw_privs_5 ++ (lw_privs_6 ++ (lw_privs_7 ++ (lw_privs_8)))))))
def lw_tbl : List Cond := k2_sels lw_privs ++ tables_1
theorem lw_privs_ok : ∀ q ∈ lw_privs, lw_okq q := by
  show ∀ q ∈ lw_privs_1 ++ (lw_privs_2 ++ (lw_privs_3 ++ (lw_privs_4 ++ (lw_privs_5 ++ (lw_privs_6 ++ (lw_privs_7 ++ (lw_privs_8))))))), lw_okq q
  exact List.forall_mem_append.mpr ⟨lw_r1, List.forall_mem_append.mpr ⟨lw_r2, List.forall_mem_append.mpr ⟨lw_r3, List.forall_mem_append.mpr ⟨lw_r4, List.forall_mem_append.mpr ⟨lw_r5, List.forall_mem_append.mpr ⟨lw_r6, List.forall_mem_append.mpr ⟨lw_r7, lw_r8⟩⟩⟩⟩⟩⟩⟩
-- ===== end of PART A; then your names; then what follows =====
def RX0 : String := "LeadNames$Abacus"
def TX0 : u_T := fun k => match k with
  | 0 => ("LeadNames$Abacus", "stack", "[I", true)
  | 1 => ("LeadNames$Abacus", "facts", "[I", true)
  | _ => ("LeadNames$Abacus", "size", "I", false)
def tyX0 : Nat → FieldType := fun k => match k with
  | 0 => .array .int
  | 1 => .array .int
  | _ => .int
theorem nmX0 : ∀ a, a < 3 → ∀ b, b < 3 → a ≠ b → (TX0 a).2.1 ≠ (TX0 b).2.1 := by decide +kernel
theorem tyX0_ok : ∀ k, k < 3 → parseFieldDescriptor (TX0 k).2.2.1 = some (tyX0 k) := by decide +kernel
abbrev cX0_init : ByteArray := prog_2_method_1_code
def yX0_init : MethodName := ⟨RX0, "<init>", "()V"⟩
abbrev cX0_tell : ByteArray := prog_2_method_2_code
def yX0_tell : MethodName := ⟨RX0, "tell", "(II)V"⟩
abbrev cX0_firstLaw : ByteArray := prog_2_method_3_code
def yX0_firstLaw : MethodName := ⟨RX0, "firstLaw", "(LLeadNames$Land;)I"⟩
abbrev cX0_run : ByteArray := prog_2_method_4_code
def yX0_run : MethodName := ⟨RX0, "run", "([III)I"⟩
abbrev cX0_push : ByteArray := prog_2_method_5_code
def yX0_push : MethodName := ⟨RX0, "push", "(I)V"⟩
abbrev cX0_pop : ByteArray := prog_2_method_6_code
def yX0_pop : MethodName := ⟨RX0, "pop", "()I"⟩
abbrev cX0_joined : ByteArray := prog_2_method_7_code
def yX0_joined : MethodName := ⟨RX0, "joined", "(IJJ)J"⟩
abbrev cX0_held : ByteArray := prog_2_method_8_code
def yX0_held : MethodName := ⟨RX0, "held", "(J)I"⟩
def RX1 : String := "LeadNames$Acts"
def TX1 : u_T := fun k => match k with
  | 0 => ("LeadNames$Acts", "coats", "LLeadNames$Coats;", true)
  | 1 => ("LeadNames$Acts", "search", "LLeadNames$Search;", true)
  | 2 => ("LeadNames$Acts", "moves", "LLeadNames$Ring;", true)
  | 3 => ("LeadNames$Acts", "loans", "LLeadNames$Roll;", true)
  | _ => ("LeadNames$Acts", "seed", "J", false)
def tyX1 : Nat → FieldType := fun k => match k with
  | 0 => .object "LeadNames$Coats"
  | 1 => .object "LeadNames$Search"
  | 2 => .object "LeadNames$Ring"
  | 3 => .object "LeadNames$Roll"
  | _ => .long
theorem nmX1 : ∀ a, a < 5 → ∀ b, b < 5 → a ≠ b → (TX1 a).2.1 ≠ (TX1 b).2.1 := by decide +kernel
theorem tyX1_ok : ∀ k, k < 5 → parseFieldDescriptor (TX1 k).2.2.1 = some (tyX1 k) := by decide +kernel
abbrev cX1_init : ByteArray := prog_3_method_1_code
def yX1_init : MethodName := ⟨RX1, "<init>", "(LLeadNames$Coats;LLeadNames$Search;)V"⟩
abbrev cX1_forget : ByteArray := prog_3_method_2_code
def yX1_forget : MethodName := ⟨RX1, "forget", "()V"⟩
abbrev cX1_note : ByteArray := prog_3_method_3_code
def yX1_note : MethodName := ⟨RX1, "note", "(IIII)V"⟩
abbrev cX1_makeTitle : ByteArray := prog_3_method_4_code
def yX1_makeTitle : MethodName := ⟨RX1, "makeTitle", "(II)I"⟩
abbrev cX1_dropTitle : ByteArray := prog_3_method_5_code
def yX1_dropTitle : MethodName := ⟨RX1, "dropTitle", "(II)I"⟩
abbrev cX1_takeLetter : ByteArray := prog_3_method_6_code
def yX1_takeLetter : MethodName := ⟨RX1, "takeLetter", "(III)Z"⟩
abbrev cX1_swapLetters : ByteArray := prog_3_method_7_code
def yX1_swapLetters : MethodName := ⟨RX1, "swapLetters", "(IIII)Z"⟩
abbrev cX1_lendTitle : ByteArray := prog_3_method_8_code
def yX1_lendTitle : MethodName := ⟨RX1, "lendTitle", "(III)I"⟩
abbrev cX1_canUndo : ByteArray := prog_3_method_9_code
def yX1_canUndo : MethodName := ⟨RX1, "canUndo", "(I)Z"⟩
abbrev cX1_undoLoan : ByteArray := prog_3_method_10_code
def yX1_undoLoan : MethodName := ⟨RX1, "undoLoan", "(I)Z"⟩
abbrev cX1_sinkCoat : ByteArray := prog_3_method_11_code
def yX1_sinkCoat : MethodName := ⟨RX1, "sinkCoat", "(I)I"⟩
abbrev cX1_castBullet : ByteArray := prog_3_method_12_code
def yX1_castBullet : MethodName := ⟨RX1, "castBullet", "(II)I"⟩
abbrev cX1_inherit : ByteArray := prog_3_method_13_code
def yX1_inherit : MethodName := ⟨RX1, "inherit", "(II)I"⟩
abbrev cX1_passYears : ByteArray := prog_3_method_14_code
def yX1_passYears : MethodName := ⟨RX1, "passYears", "(I)I"⟩
abbrev cX1_lighten : ByteArray := prog_3_method_15_code
def yX1_lighten : MethodName := ⟨RX1, "lighten", "(I)I"⟩
abbrev cX1_gainable : ByteArray := prog_3_method_16_code
def yX1_gainable : MethodName := ⟨RX1, "gainable", "(I)I"⟩
abbrev cX1_gainableAt : ByteArray := prog_3_method_17_code
def yX1_gainableAt : MethodName := ⟨RX1, "gainableAt", "(II)I"⟩
abbrev cX1_draw : ByteArray := prog_3_method_18_code
def yX1_draw : MethodName := ⟨RX1, "draw", "(I)I"⟩
abbrev cX1_sow : ByteArray := prog_3_method_19_code
def yX1_sow : MethodName := ⟨RX1, "sow", "(I)Z"⟩
def RX2 : String := "LeadNames$Coats"
def TX2 : u_T := fun k => match k with
  | 0 => ("LeadNames$Coats", "land", "LLeadNames$Land;", false)
  | 1 => ("LeadNames$Coats", "year", "I", false)
  | 2 => ("LeadNames$Coats", "river", "I", false)
  | 3 => ("LeadNames$Coats", "bulletCount", "I", false)
  | 4 => ("LeadNames$Coats", "titles", "[I", true)
  | 5 => ("LeadNames$Coats", "loose", "[I", true)
  | 6 => ("LeadNames$Coats", "bullets", "[I", true)
  | 7 => ("LeadNames$Coats", "since", "[I", true)
  | 8 => ("LeadNames$Coats", "ownLetters", "[I", true)
  | 9 => ("LeadNames$Coats", "otherLetters", "[I", true)
  | 10 => ("LeadNames$Coats", "spans", "LLeadNames$Ring;", true)
  | _ => ("LeadNames$Coats", "abacus", "LLeadNames$Abacus;", true)
def tyX2 : Nat → FieldType := fun k => match k with
  | 0 => .object "LeadNames$Land"
  | 1 => .int
  | 2 => .int
  | 3 => .int
  | 4 => .array .int
  | 5 => .array .int
  | 6 => .array .int
  | 7 => .array .int
  | 8 => .array .int
  | 9 => .array .int
  | 10 => .object "LeadNames$Ring"
  | _ => .object "LeadNames$Abacus"
theorem nmX2 : ∀ a, a < 12 → ∀ b, b < 12 → a ≠ b → (TX2 a).2.1 ≠ (TX2 b).2.1 := by decide +kernel
theorem tyX2_ok : ∀ k, k < 12 → parseFieldDescriptor (TX2 k).2.2.1 = some (tyX2 k) := by decide +kernel
abbrev cX2_init : ByteArray := prog_4_method_1_code
def yX2_init : MethodName := ⟨RX2, "<init>", "(LLeadNames$Land;)V"⟩
abbrev cX2_settle : ByteArray := prog_4_method_2_code
def yX2_settle : MethodName := ⟨RX2, "settle", "(LLeadNames$Land;)V"⟩
abbrev cX2_bearAnew : ByteArray := prog_4_method_3_code
def yX2_bearAnew : MethodName := ⟨RX2, "bearAnew", "()V"⟩
abbrev cX2_isPerson : ByteArray := prog_4_method_4_code
def yX2_isPerson : MethodName := ⟨RX2, "isPerson", "(I)Z"⟩
abbrev cX2_bears : ByteArray := prog_4_method_5_code
def yX2_bears : MethodName := ⟨RX2, "bears", "(II)Z"⟩
abbrev cX2_lacks : ByteArray := prog_4_method_6_code
def yX2_lacks : MethodName := ⟨RX2, "lacks", "(II)Z"⟩
abbrev cX2_titlesOf : ByteArray := prog_4_method_7_code
def yX2_titlesOf : MethodName := ⟨RX2, "titlesOf", "(I)I"⟩
abbrev cX2_bearers : ByteArray := prog_4_method_8_code
def yX2_bearers : MethodName := ⟨RX2, "bearers", "(I)I"⟩
abbrev cX2_come : ByteArray := prog_4_method_9_code
def yX2_come : MethodName := ⟨RX2, "come", "(II)V"⟩
abbrev cX2_go : ByteArray := prog_4_method_10_code
def yX2_go : MethodName := ⟨RX2, "go", "(II)V"⟩
abbrev cX2_signers : ByteArray := prog_4_method_11_code
def yX2_signers : MethodName := ⟨RX2, "signers", "(II)I"⟩
abbrev cX2_count : ByteArray := prog_4_method_12_code
def yX2_count : MethodName := ⟨RX2, "count", "(II)I"⟩
abbrev cX2_change : ByteArray := prog_4_method_13_code
def yX2_change : MethodName := ⟨RX2, "change", "(III)V"⟩
abbrev cX2_scatter : ByteArray := prog_4_method_14_code
def yX2_scatter : MethodName := ⟨RX2, "scatter", "(II)V"⟩
abbrev cX2_gather : ByteArray := prog_4_method_15_code
def yX2_gather : MethodName := ⟨RX2, "gather", "(II)V"⟩
abbrev cX2_pourLoose : ByteArray := prog_4_method_16_code
def yX2_pourLoose : MethodName := ⟨RX2, "pourLoose", "(I)V"⟩
abbrev cX2_looseLetters : ByteArray := prog_4_method_17_code
def yX2_looseLetters : MethodName := ⟨RX2, "looseLetters", "(I)I"⟩
abbrev cX2_looseOunces : ByteArray := prog_4_method_18_code
def yX2_looseOunces : MethodName := ⟨RX2, "looseOunces", "(I)I"⟩
abbrev cX2_loadOf : ByteArray := prog_4_method_19_code
def yX2_loadOf : MethodName := ⟨RX2, "loadOf", "(I)I"⟩
abbrev cX2_coatOunces : ByteArray := prog_4_method_20_code
def yX2_coatOunces : MethodName := ⟨RX2, "coatOunces", "()I"⟩
abbrev cX2_bulletOunces : ByteArray := prog_4_method_21_code
def yX2_bulletOunces : MethodName := ⟨RX2, "bulletOunces", "()I"⟩
abbrev cX2_honourOf : ByteArray := prog_4_method_22_code
def yX2_honourOf : MethodName := ⟨RX2, "honourOf", "(I)I"⟩
abbrev cX2_ageOf : ByteArray := prog_4_method_23_code
def yX2_ageOf : MethodName := ⟨RX2, "ageOf", "(I)I"⟩
abbrev cX2_limitOf : ByteArray := prog_4_method_24_code
def yX2_limitOf : MethodName := ⟨RX2, "limitOf", "(I)I"⟩
abbrev cX2_gainOunces : ByteArray := prog_4_method_25_code
def yX2_gainOunces : MethodName := ⟨RX2, "gainOunces", "(II)I"⟩
abbrev cX2_titleWith : ByteArray := prog_4_method_26_code
def yX2_titleWith : MethodName := ⟨RX2, "titleWith", "(II)I"⟩
abbrev cX2_isIn : ByteArray := prog_4_method_27_code
def yX2_isIn : MethodName := ⟨RX2, "isIn", "(II)Z"⟩
abbrev cX2_countLetters : ByteArray := prog_4_method_28_code
def yX2_countLetters : MethodName := ⟨RX2, "countLetters", "(I[I)V"⟩
abbrev cX2_calledBy : ByteArray := prog_4_method_29_code
def yX2_calledBy : MethodName := ⟨RX2, "calledBy", "(I)I"⟩
abbrev cX2_canLay : ByteArray := prog_4_method_30_code
def yX2_canLay : MethodName := ⟨RX2, "canLay", "(I)Z"⟩
abbrev cX2_sharedOunces : ByteArray := prog_4_method_31_code
def yX2_sharedOunces : MethodName := ⟨RX2, "sharedOunces", "(II)I"⟩
def RX3 : String := "LeadNames$Image"
def TX3 : u_T := fun k => match k with
  | 0 => ("LeadNames$Image", "bytes", "[I", true)
  | _ => ("LeadNames$Image", "length", "I", false)
def tyX3 : Nat → FieldType := fun k => match k with
  | 0 => .array .int
  | _ => .int
theorem nmX3 : ∀ a, a < 2 → ∀ b, b < 2 → a ≠ b → (TX3 a).2.1 ≠ (TX3 b).2.1 := by decide +kernel
theorem tyX3_ok : ∀ k, k < 2 → parseFieldDescriptor (TX3 k).2.2.1 = some (tyX3 k) := by decide +kernel
abbrev cX3_init : ByteArray := prog_5_method_1_code
def yX3_init : MethodName := ⟨RX3, "<init>", "()V"⟩
abbrev cX3_write : ByteArray := prog_5_method_2_code
def yX3_write : MethodName := ⟨RX3, "write", "(LLeadNames$Coats;)V"⟩
abbrev cX3_putLetters : ByteArray := prog_5_method_3_code
def yX3_putLetters : MethodName := ⟨RX3, "putLetters", "(LLeadNames$Coats;I)V"⟩
abbrev cX3_put : ByteArray := prog_5_method_4_code
def yX3_put : MethodName := ⟨RX3, "put", "(II)V"⟩
abbrev cX3_seal : ByteArray := prog_5_method_5_code
def yX3_seal : MethodName := ⟨RX3, "seal", "([II)I"⟩
abbrev cX3_number : ByteArray := prog_5_method_6_code
def yX3_number : MethodName := ⟨RX3, "number", "([III)I"⟩
abbrev cX3_heapStart : ByteArray := prog_5_method_7_code
def yX3_heapStart : MethodName := ⟨RX3, "heapStart", "(LLeadNames$Coats;)I"⟩
abbrev cX3_riverStart : ByteArray := prog_5_method_8_code
def yX3_riverStart : MethodName := ⟨RX3, "riverStart", "(LLeadNames$Coats;)I"⟩
abbrev cX3_fits : ByteArray := prog_5_method_9_code
def yX3_fits : MethodName := ⟨RX3, "fits", "([IILLeadNames$Coats;)Z"⟩
abbrev cX3_hasKnownTitles : ByteArray := prog_5_method_10_code
def yX3_hasKnownTitles : MethodName := ⟨RX3, "hasKnownTitles", "([ILLeadNames$Coats;)Z"⟩
abbrev cX3_hasRightBullets : ByteArray := prog_5_method_11_code
def yX3_hasRightBullets : MethodName := ⟨RX3, "hasRightBullets", "([III)Z"⟩
abbrev cX3_isLightEnough : ByteArray := prog_5_method_12_code
def yX3_isLightEnough : MethodName := ⟨RX3, "isLightEnough", "([ILLeadNames$Coats;)Z"⟩
abbrev cX3_lettersOfSet : ByteArray := prog_5_method_13_code
def yX3_lettersOfSet : MethodName := ⟨RX3, "lettersOfSet", "(LLeadNames$Land;I)I"⟩
abbrev cX3_restore : ByteArray := prog_5_method_14_code
def yX3_restore : MethodName := ⟨RX3, "restore", "([ILLeadNames$Coats;)V"⟩
abbrev cX3_restoreLetters : ByteArray := prog_5_method_15_code
def yX3_restoreLetters : MethodName := ⟨RX3, "restoreLetters", "([IILLeadNames$Coats;I)V"⟩
def RX4 : String := "LeadNames$Land"
def TX4 : u_T := fun k => match k with
  | 0 => ("LeadNames$Land", "persons", "LLeadNames$Roll;", true)
  | 1 => ("LeadNames$Land", "titles", "LLeadNames$Roll;", true)
  | 2 => ("LeadNames$Land", "ages", "LLeadNames$Roll;", true)
  | 3 => ("LeadNames$Land", "laws", "LLeadNames$Roll;", true)
  | 4 => ("LeadNames$Land", "bridges", "LLeadNames$Roll;", true)
  | 5 => ("LeadNames$Land", "ounces", "[I", true)
  | 6 => ("LeadNames$Land", "heap", "[I", true)
  | 7 => ("LeadNames$Land", "had", "[I", true)
  | 8 => ("LeadNames$Land", "code", "[I", true)
  | 9 => ("LeadNames$Land", "codeLength", "I", false)
  | _ => ("LeadNames$Land", "year", "I", false)
def tyX4 : Nat → FieldType := fun k => match k with
  | 0 => .object "LeadNames$Roll"
  | 1 => .object "LeadNames$Roll"
  | 2 => .object "LeadNames$Roll"
  | 3 => .object "LeadNames$Roll"
  | 4 => .object "LeadNames$Roll"
  | 5 => .array .int
  | 6 => .array .int
  | 7 => .array .int
  | 8 => .array .int
  | 9 => .int
  | _ => .int
theorem nmX4 : ∀ a, a < 11 → ∀ b, b < 11 → a ≠ b → (TX4 a).2.1 ≠ (TX4 b).2.1 := by decide +kernel
theorem tyX4_ok : ∀ k, k < 11 → parseFieldDescriptor (TX4 k).2.2.1 = some (tyX4 k) := by decide +kernel
abbrev cX4_init : ByteArray := prog_6_method_1_code
def yX4_init : MethodName := ⟨RX4, "<init>", "()V"⟩
abbrev cX4_clear : ByteArray := prog_6_method_2_code
def yX4_clear : MethodName := ⟨RX4, "clear", "()V"⟩
abbrev cX4_addCode : ByteArray := prog_6_method_3_code
def yX4_addCode : MethodName := ⟨RX4, "addCode", "(I)Z"⟩
abbrev cX4_isNamed : ByteArray := prog_6_method_4_code
def yX4_isNamed : MethodName := ⟨RX4, "isNamed", "(I)Z"⟩
abbrev cX4_allTitles : ByteArray := prog_6_method_5_code
def yX4_allTitles : MethodName := ⟨RX4, "allTitles", "()I"⟩
abbrev cX4_ouncesOf : ByteArray := prog_6_method_6_code
def yX4_ouncesOf : MethodName := ⟨RX4, "ouncesOf", "(I)I"⟩
abbrev cX4_nameOunces : ByteArray := prog_6_method_7_code
def yX4_nameOunces : MethodName := ⟨RX4, "nameOunces", "(I)I"⟩
abbrev cX4_weighTitles : ByteArray := prog_6_method_8_code
def yX4_weighTitles : MethodName := ⟨RX4, "weighTitles", "()V"⟩
abbrev cX4_titleOunces : ByteArray := prog_6_method_9_code
def yX4_titleOunces : MethodName := ⟨RX4, "titleOunces", "(I)I"⟩
abbrev cX4_ouncesOfSet : ByteArray := prog_6_method_10_code
def yX4_ouncesOfSet : MethodName := ⟨RX4, "ouncesOfSet", "(I)I"⟩
abbrev cX4_honourOfSet : ByteArray := prog_6_method_11_code
def yX4_honourOfSet : MethodName := ⟨RX4, "honourOfSet", "(I)I"⟩
abbrev cX4_rankOf : ByteArray := prog_6_method_12_code
def yX4_rankOf : MethodName := ⟨RX4, "rankOf", "(II)I"⟩
abbrev cX4_partsAt : ByteArray := prog_6_method_13_code
def yX4_partsAt : MethodName := ⟨RX4, "partsAt", "(I)I"⟩
abbrev cX4_shareOf : ByteArray := prog_6_method_14_code
def yX4_shareOf : MethodName := ⟨RX4, "shareOf", "(III)I"⟩
abbrev cX4_likely : ByteArray := prog_6_method_15_code
def yX4_likely : MethodName := ⟨RX4, "likely", "(III)J"⟩
abbrev cX4_pairLength : ByteArray := prog_6_method_16_code
def yX4_pairLength : MethodName := ⟨RX4, "pairLength", "(II)I"⟩
abbrev cX4_shared : ByteArray := prog_6_method_17_code
def yX4_shared : MethodName := ⟨RX4, "shared", "(II)I"⟩
abbrev cX4_rowOunces : ByteArray := prog_6_method_18_code
def yX4_rowOunces : MethodName := ⟨RX4, "rowOunces", "(II)I"⟩
abbrev cX4_isWithin : ByteArray := prog_6_method_19_code
def yX4_isWithin : MethodName := ⟨RX4, "isWithin", "(II)Z"⟩
abbrev cX4_joint : ByteArray := prog_6_method_20_code
def yX4_joint : MethodName := ⟨RX4, "joint", "(II)I"⟩
abbrev cX4_start : ByteArray := prog_6_method_21_code
def yX4_start : MethodName := ⟨RX4, "start", "(II)I"⟩
def RX5 : String := "LeadNames$Parser"
def TX5 : u_T := fun k => match k with
  | 0 => ("LeadNames$Parser", "reader", "LLeadNames$Reader;", true)
  | 1 => ("LeadNames$Parser", "land", "LLeadNames$Land;", false)
  | _ => ("LeadNames$Parser", "taken", "I", false)
def tyX5 : Nat → FieldType := fun k => match k with
  | 0 => .object "LeadNames$Reader"
  | 1 => .object "LeadNames$Land"
  | _ => .int
theorem nmX5 : ∀ a, a < 3 → ∀ b, b < 3 → a ≠ b → (TX5 a).2.1 ≠ (TX5 b).2.1 := by decide +kernel
theorem tyX5_ok : ∀ k, k < 3 → parseFieldDescriptor (TX5 k).2.2.1 = some (tyX5 k) := by decide +kernel
abbrev cX5_init : ByteArray := prog_7_method_1_code
def yX5_init : MethodName := ⟨RX5, "<init>", "(LLeadNames$Reader;LLeadNames$Land;)V"⟩
abbrev cX5_readLand : ByteArray := prog_7_method_2_code
def yX5_readLand : MethodName := ⟨RX5, "readLand", "(LLeadNames$Land;)I"⟩
abbrev cX5_letterOunces : ByteArray := prog_7_method_3_code
def yX5_letterOunces : MethodName := ⟨RX5, "letterOunces", "()Z"⟩
abbrev cX5_heapLetters : ByteArray := prog_7_method_4_code
def yX5_heapLetters : MethodName := ⟨RX5, "heapLetters", "()Z"⟩
abbrev cX5_yearNow : ByteArray := prog_7_method_5_code
def yX5_yearNow : MethodName := ⟨RX5, "yearNow", "()Z"⟩
abbrev cX5_newPerson : ByteArray := prog_7_method_6_code
def yX5_newPerson : MethodName := ⟨RX5, "newPerson", "()Z"⟩
abbrev cX5_newTitle : ByteArray := prog_7_method_7_code
def yX5_newTitle : MethodName := ⟨RX5, "newTitle", "()Z"⟩
abbrev cX5_newBridge : ByteArray := prog_7_method_8_code
def yX5_newBridge : MethodName := ⟨RX5, "newBridge", "()Z"⟩
abbrev cX5_titleHad : ByteArray := prog_7_method_9_code
def yX5_titleHad : MethodName := ⟨RX5, "titleHad", "()Z"⟩
abbrev cX5_newAge : ByteArray := prog_7_method_10_code
def yX5_newAge : MethodName := ⟨RX5, "newAge", "()Z"⟩
abbrev cX5_newLaw : ByteArray := prog_7_method_11_code
def yX5_newLaw : MethodName := ⟨RX5, "newLaw", "()Z"⟩
abbrev cX5_begin : ByteArray := prog_7_method_12_code
def yX5_begin : MethodName := ⟨RX5, "begin", "(LLeadNames$Roll;)Z"⟩
abbrev cX5_token : ByteArray := prog_7_method_13_code
def yX5_token : MethodName := ⟨RX5, "token", "(I)Z"⟩
abbrev cX5_number : ByteArray := prog_7_method_14_code
def yX5_number : MethodName := ⟨RX5, "number", "(II)Z"⟩
abbrev cX5_keep : ByteArray := prog_7_method_15_code
def yX5_keep : MethodName := ⟨RX5, "keep", "(LLeadNames$Roll;I)Z"⟩
abbrev cX5_oneLetter : ByteArray := prog_7_method_16_code
def yX5_oneLetter : MethodName := ⟨RX5, "oneLetter", "()Z"⟩
abbrev cX5_newName : ByteArray := prog_7_method_17_code
def yX5_newName : MethodName := ⟨RX5, "newName", "(LLeadNames$Roll;)Z"⟩
abbrev cX5_knownName : ByteArray := prog_7_method_18_code
def yX5_knownName : MethodName := ⟨RX5, "knownName", "(LLeadNames$Roll;)Z"⟩
abbrev cX5_test : ByteArray := prog_7_method_19_code
def yX5_test : MethodName := ⟨RX5, "test", "(I)Z"⟩
abbrev cX5_both : ByteArray := prog_7_method_20_code
def yX5_both : MethodName := ⟨RX5, "both", "(I)Z"⟩
abbrev cX5_fact : ByteArray := prog_7_method_21_code
def yX5_fact : MethodName := ⟨RX5, "fact", "(I)Z"⟩
abbrev cX5_bracket : ByteArray := prog_7_method_22_code
def yX5_bracket : MethodName := ⟨RX5, "bracket", "(I)Z"⟩
abbrev cX5_comparisonSign : ByteArray := prog_7_method_23_code
def yX5_comparisonSign : MethodName := ⟨RX5, "comparisonSign", "()I"⟩
abbrev cX5_sum : ByteArray := prog_7_method_24_code
def yX5_sum : MethodName := ⟨RX5, "sum", "(I)Z"⟩
abbrev cX5_product : ByteArray := prog_7_method_25_code
def yX5_product : MethodName := ⟨RX5, "product", "(I)Z"⟩
abbrev cX5_part : ByteArray := prog_7_method_26_code
def yX5_part : MethodName := ⟨RX5, "part", "(I)Z"⟩
abbrev cX5_step : ByteArray := prog_7_method_27_code
def yX5_step : MethodName := ⟨RX5, "step", "(I)Z"⟩
abbrev cX5_choice : ByteArray := prog_7_method_28_code
def yX5_choice : MethodName := ⟨RX5, "choice", "(II)Z"⟩
def RX6 : String := "LeadNames$Reader"
def TX6 : u_T := fun k => match k with
  | 0 => ("LeadNames$Reader", "text", "[I", true)
  | 1 => ("LeadNames$Reader", "ownNames", "[I", true)
  | 2 => ("LeadNames$Reader", "length", "I", false)
  | 3 => ("LeadNames$Reader", "next", "I", false)
  | 4 => ("LeadNames$Reader", "at", "I", false)
  | 5 => ("LeadNames$Reader", "token", "I", false)
  | 6 => ("LeadNames$Reader", "value", "I", false)
  | 7 => ("LeadNames$Reader", "isRead", "Z", false)
  | 8 => ("LeadNames$Reader", "fault", "I", false)
  | _ => ("LeadNames$Reader", "place", "I", false)
def tyX6 : Nat → FieldType := fun k => match k with
  | 0 => .array .int
  | 1 => .array .int
  | 2 => .int
  | 3 => .int
  | 4 => .int
  | 5 => .int
  | 6 => .int
  | 7 => .boolean
  | 8 => .int
  | _ => .int
theorem nmX6 : ∀ a, a < 10 → ∀ b, b < 10 → a ≠ b → (TX6 a).2.1 ≠ (TX6 b).2.1 := by decide +kernel
theorem tyX6_ok : ∀ k, k < 10 → parseFieldDescriptor (TX6 k).2.2.1 = some (tyX6 k) := by decide +kernel
abbrev cX6_init : ByteArray := prog_8_method_1_code
def yX6_init : MethodName := ⟨RX6, "<init>", "([I)V"⟩
abbrev cX6_fillOwnNames : ByteArray := prog_8_method_2_code
def yX6_fillOwnNames : MethodName := ⟨RX6, "fillOwnNames", "()V"⟩
abbrev cX6_start : ByteArray := prog_8_method_3_code
def yX6_start : MethodName := ⟨RX6, "start", "(I)V"⟩
abbrev cX6_fail : ByteArray := prog_8_method_4_code
def yX6_fail : MethodName := ⟨RX6, "fail", "(II)Z"⟩
abbrev cX6_failHere : ByteArray := prog_8_method_5_code
def yX6_failHere : MethodName := ⟨RX6, "failHere", "(I)Z"⟩
abbrev cX6_skip : ByteArray := prog_8_method_6_code
def yX6_skip : MethodName := ⟨RX6, "skip", "()V"⟩
abbrev cX6_look : ByteArray := prog_8_method_7_code
def yX6_look : MethodName := ⟨RX6, "look", "()I"⟩
abbrev cX6_kindOf : ByteArray := prog_8_method_8_code
def yX6_kindOf : MethodName := ⟨RX6, "kindOf", "(I)I"⟩
abbrev cX6_readWord : ByteArray := prog_8_method_9_code
def yX6_readWord : MethodName := ⟨RX6, "readWord", "()Z"⟩
abbrev cX6_readNumber : ByteArray := prog_8_method_10_code
def yX6_readNumber : MethodName := ⟨RX6, "readNumber", "()Z"⟩
def RX7 : String := "LeadNames$Ring"
def TX7 : u_T := fun k => match k with
  | 0 => ("LeadNames$Ring", "limit", "I", true)
  | 1 => ("LeadNames$Ring", "width", "I", true)
  | 2 => ("LeadNames$Ring", "numbers", "[I", true)
  | 3 => ("LeadNames$Ring", "oldest", "I", false)
  | _ => ("LeadNames$Ring", "size", "I", false)
def tyX7 : Nat → FieldType := fun k => match k with
  | 0 => .int
  | 1 => .int
  | 2 => .array .int
  | 3 => .int
  | _ => .int
theorem nmX7 : ∀ a, a < 5 → ∀ b, b < 5 → a ≠ b → (TX7 a).2.1 ≠ (TX7 b).2.1 := by decide +kernel
theorem tyX7_ok : ∀ k, k < 5 → parseFieldDescriptor (TX7 k).2.2.1 = some (tyX7 k) := by decide +kernel
abbrev cX7_init : ByteArray := prog_9_method_1_code
def yX7_init : MethodName := ⟨RX7, "<init>", "(II)V"⟩
abbrev cX7_clear : ByteArray := prog_9_method_2_code
def yX7_clear : MethodName := ⟨RX7, "clear", "()V"⟩
abbrev cX7_get : ByteArray := prog_9_method_3_code
def yX7_get : MethodName := ⟨RX7, "get", "(II)I"⟩
abbrev cX7_grow : ByteArray := prog_9_method_4_code
def yX7_grow : MethodName := ⟨RX7, "grow", "()V"⟩
abbrev cX7_set : ByteArray := prog_9_method_5_code
def yX7_set : MethodName := ⟨RX7, "set", "(II)V"⟩
abbrev cX7_place : ByteArray := prog_9_method_6_code
def yX7_place : MethodName := ⟨RX7, "place", "(I)I"⟩
def RX8 : String := "LeadNames$Roll"
def TX8 : u_T := fun k => match k with
  | 0 => ("LeadNames$Roll", "limit", "I", true)
  | 1 => ("LeadNames$Roll", "width", "I", true)
  | 2 => ("LeadNames$Roll", "names", "[I", true)
  | 3 => ("LeadNames$Roll", "numbers", "[I", true)
  | _ => ("LeadNames$Roll", "size", "I", false)
def tyX8 : Nat → FieldType := fun k => match k with
  | 0 => .int
  | 1 => .int
  | 2 => .array .int
  | 3 => .array .int
  | _ => .int
theorem nmX8 : ∀ a, a < 5 → ∀ b, b < 5 → a ≠ b → (TX8 a).2.1 ≠ (TX8 b).2.1 := by decide +kernel
theorem tyX8_ok : ∀ k, k < 5 → parseFieldDescriptor (TX8 k).2.2.1 = some (tyX8 k) := by decide +kernel
abbrev cX8_init : ByteArray := prog_10_method_1_code
def yX8_init : MethodName := ⟨RX8, "<init>", "(II)V"⟩
abbrev cX8_holds : ByteArray := prog_10_method_2_code
def yX8_holds : MethodName := ⟨RX8, "holds", "(I)Z"⟩
abbrev cX8_isFull : ByteArray := prog_10_method_3_code
def yX8_isFull : MethodName := ⟨RX8, "isFull", "()Z"⟩
abbrev cX8_name : ByteArray := prog_10_method_4_code
def yX8_name : MethodName := ⟨RX8, "name", "(I)I"⟩
abbrev cX8_get : ByteArray := prog_10_method_5_code
def yX8_get : MethodName := ⟨RX8, "get", "(II)I"⟩
abbrev cX8_put : ByteArray := prog_10_method_6_code
def yX8_put : MethodName := ⟨RX8, "put", "(III)V"⟩
abbrev cX8_add : ByteArray := prog_10_method_7_code
def yX8_add : MethodName := ⟨RX8, "add", "(I)I"⟩
abbrev cX8_find : ByteArray := prog_10_method_8_code
def yX8_find : MethodName := ⟨RX8, "find", "(I)I"⟩
abbrev cX8_remove : ByteArray := prog_10_method_9_code
def yX8_remove : MethodName := ⟨RX8, "remove", "(I)V"⟩
abbrev cX8_lengthOf : ByteArray := prog_10_method_10_code
def yX8_lengthOf : MethodName := ⟨RX8, "lengthOf", "(I)I"⟩
abbrev cX8_letterOf : ByteArray := prog_10_method_11_code
def yX8_letterOf : MethodName := ⟨RX8, "letterOf", "(II)I"⟩
def RX9 : String := "LeadNames$Search"
def TX9 : u_T := fun k => match k with
  | 0 => ("LeadNames$Search", "ounces", "[I", true)
  | 1 => ("LeadNames$Search", "honours", "[I", true)
  | 2 => ("LeadNames$Search", "honourLeft", "[I", true)
  | 3 => ("LeadNames$Search", "bullets", "[I", true)
  | 4 => ("LeadNames$Search", "bulletsBelow", "[I", true)
  | 5 => ("LeadNames$Search", "loads", "[I", true)
  | 6 => ("LeadNames$Search", "groups", "[I", true)
  | 7 => ("LeadNames$Search", "offered", "I", false)
  | 8 => ("LeadNames$Search", "count", "I", false)
  | 9 => ("LeadNames$Search", "bestBits", "I", false)
  | 10 => ("LeadNames$Search", "bestHonour", "I", false)
  | 11 => ("LeadNames$Search", "found", "I", false)
  | 12 => ("LeadNames$Search", "first", "I", false)
  | 13 => ("LeadNames$Search", "capacity", "I", false)
  | _ => ("LeadNames$Search", "fewest", "I", false)
def tyX9 : Nat → FieldType := fun k => match k with
  | 0 => .array .int
  | 1 => .array .int
  | 2 => .array .int
  | 3 => .array .int
  | 4 => .array .int
  | 5 => .array .int
  | 6 => .array .int
  | 7 => .int
  | 8 => .int
  | 9 => .int
  | 10 => .int
  | 11 => .int
  | 12 => .int
  | 13 => .int
  | _ => .int
theorem nmX9 : ∀ a, a < 15 → ∀ b, b < 15 → a ≠ b → (TX9 a).2.1 ≠ (TX9 b).2.1 := by decide +kernel
theorem tyX9_ok : ∀ k, k < 15 → parseFieldDescriptor (TX9 k).2.2.1 = some (tyX9 k) := by decide +kernel
abbrev cX9_init : ByteArray := prog_11_method_1_code
def yX9_init : MethodName := ⟨RX9, "<init>", "()V"⟩
abbrev cX9_bestSet : ByteArray := prog_11_method_2_code
def yX9_bestSet : MethodName := ⟨RX9, "bestSet", "(LLeadNames$Land;II)I"⟩
abbrev cX9_choose : ByteArray := prog_11_method_3_code
def yX9_choose : MethodName := ⟨RX9, "choose", "(IIII)V"⟩
abbrev cX9_compare : ByteArray := prog_11_method_4_code
def yX9_compare : MethodName := ⟨RX9, "compare", "(II)V"⟩
abbrev cX9_seekBullets : ByteArray := prog_11_method_5_code
def yX9_seekBullets : MethodName := ⟨RX9, "seekBullets", "([III)V"⟩
abbrev cX9_collect : ByteArray := prog_11_method_6_code
def yX9_collect : MethodName := ⟨RX9, "collect", "(III)V"⟩
abbrev cX9_fewestGroups : ByteArray := prog_11_method_7_code
def yX9_fewestGroups : MethodName := ⟨RX9, "fewestGroups", "(LLeadNames$Coats;II)I"⟩
abbrev cX9_place : ByteArray := prog_11_method_8_code
def yX9_place : MethodName := ⟨RX9, "place", "(II)V"⟩
def RX10 : String := "LeadNames"
def TX10 : u_T := fun k => match k with
  | 0 => ("LeadNames", "tape", "[I", true)
  | 1 => ("LeadNames", "refusals", "[I", true)
  | 2 => ("LeadNames", "reader", "LLeadNames$Reader;", true)
  | 3 => ("LeadNames", "parser", "LLeadNames$Parser;", true)
  | 4 => ("LeadNames", "coats", "LLeadNames$Coats;", true)
  | 5 => ("LeadNames", "acts", "LLeadNames$Acts;", true)
  | 6 => ("LeadNames", "search", "LLeadNames$Search;", true)
  | 7 => ("LeadNames", "image", "LLeadNames$Image;", true)
  | 8 => ("LeadNames", "spare", "LLeadNames$Land;", false)
  | 9 => ("LeadNames", "tapeLength", "I", false)
  | 10 => ("LeadNames", "fault", "I", false)
  | _ => ("LeadNames", "faultPlace", "I", false)
def tyX10 : Nat → FieldType := fun k => match k with
  | 0 => .array .int
  | 1 => .array .int
  | 2 => .object "LeadNames$Reader"
  | 3 => .object "LeadNames$Parser"
  | 4 => .object "LeadNames$Coats"
  | 5 => .object "LeadNames$Acts"
  | 6 => .object "LeadNames$Search"
  | 7 => .object "LeadNames$Image"
  | 8 => .object "LeadNames$Land"
  | 9 => .int
  | 10 => .int
  | _ => .int
theorem nmX10 : ∀ a, a < 12 → ∀ b, b < 12 → a ≠ b → (TX10 a).2.1 ≠ (TX10 b).2.1 := by decide +kernel
theorem tyX10_ok : ∀ k, k < 12 → parseFieldDescriptor (TX10 k).2.2.1 = some (tyX10 k) := by decide +kernel
abbrev cX10_init : ByteArray := prog_1_method_1_code
def yX10_init : MethodName := ⟨RX10, "<init>", "()V"⟩
abbrev cX10_feed : ByteArray := prog_1_method_2_code
def yX10_feed : MethodName := ⟨RX10, "feed", "(IIIII)I"⟩
abbrev cX10_putOnTape : ByteArray := prog_1_method_3_code
def yX10_putOnTape : MethodName := ⟨RX10, "putOnTape", "(I)V"⟩
abbrev cX10_end : ByteArray := prog_1_method_4_code
def yX10_end : MethodName := ⟨RX10, "end", "(I)Z"⟩
abbrev cX10_land : ByteArray := prog_1_method_5_code
def yX10_land : MethodName := ⟨RX10, "land", "()I"⟩
abbrev cX10_fault : ByteArray := prog_1_method_6_code
def yX10_fault : MethodName := ⟨RX10, "fault", "(I)I"⟩
abbrev cX10_has : ByteArray := prog_1_method_7_code
def yX10_has : MethodName := ⟨RX10, "has", "(I)I"⟩
abbrev cX10_letter : ByteArray := prog_1_method_8_code
def yX10_letter : MethodName := ⟨RX10, "letter", "(III)I"⟩
abbrev cX10_ounces : ByteArray := prog_1_method_9_code
def yX10_ounces : MethodName := ⟨RX10, "ounces", "(I)I"⟩
abbrev cX10_title : ByteArray := prog_1_method_10_code
def yX10_title : MethodName := ⟨RX10, "title", "(II)I"⟩
abbrev cX10_person : ByteArray := prog_1_method_11_code
def yX10_person : MethodName := ⟨RX10, "person", "(II)I"⟩
abbrev cX10_bestOfAll : ByteArray := prog_1_method_12_code
def yX10_bestOfAll : MethodName := ⟨RX10, "bestOfAll", "(I)I"⟩
abbrev cX10_loose : ByteArray := prog_1_method_13_code
def yX10_loose : MethodName := ⟨RX10, "loose", "(II)I"⟩
abbrev cX10_lead : ByteArray := prog_1_method_14_code
def yX10_lead : MethodName := ⟨RX10, "lead", "(I)I"⟩
abbrev cX10_gain : ByteArray := prog_1_method_15_code
def yX10_gain : MethodName := ⟨RX10, "gain", "(II)I"⟩
abbrev cX10_shed : ByteArray := prog_1_method_16_code
def yX10_shed : MethodName := ⟨RX10, "shed", "(II)I"⟩
abbrev cX10_steal : ByteArray := prog_1_method_17_code
def yX10_steal : MethodName := ⟨RX10, "steal", "(III)Z"⟩
abbrev cX10_trade : ByteArray := prog_1_method_18_code
def yX10_trade : MethodName := ⟨RX10, "trade", "(IIII)Z"⟩
abbrev cX10_lend : ByteArray := prog_1_method_19_code
def yX10_lend : MethodName := ⟨RX10, "lend", "(III)I"⟩
abbrev cX10_giveBack : ByteArray := prog_1_method_20_code
def yX10_giveBack : MethodName := ⟨RX10, "giveBack", "(I)Z"⟩
abbrev cX10_loan : ByteArray := prog_1_method_21_code
def yX10_loan : MethodName := ⟨RX10, "loan", "(II)I"⟩
abbrev cX10_drown : ByteArray := prog_1_method_22_code
def yX10_drown : MethodName := ⟨RX10, "drown", "(I)I"⟩
abbrev cX10_melt : ByteArray := prog_1_method_23_code
def yX10_melt : MethodName := ⟨RX10, "melt", "(II)I"⟩
abbrev cX10_heir : ByteArray := prog_1_method_24_code
def yX10_heir : MethodName := ⟨RX10, "heir", "(II)I"⟩
abbrev cX10_years : ByteArray := prog_1_method_25_code
def yX10_years : MethodName := ⟨RX10, "years", "(I)I"⟩
abbrev cX10_feast : ByteArray := prog_1_method_26_code
def yX10_feast : MethodName := ⟨RX10, "feast", "()I"⟩
abbrev cX10_seed : ByteArray := prog_1_method_27_code
def yX10_seed : MethodName := ⟨RX10, "seed", "(I)Z"⟩
abbrev cX10_signed : ByteArray := prog_1_method_28_code
def yX10_signed : MethodName := ⟨RX10, "signed", "(II)I"⟩
abbrev cX10_span : ByteArray := prog_1_method_29_code
def yX10_span : MethodName := ⟨RX10, "span", "(II)I"⟩
abbrev cX10_moved : ByteArray := prog_1_method_30_code
def yX10_moved : MethodName := ⟨RX10, "moved", "(II)I"⟩
abbrev cX10_share : ByteArray := prog_1_method_31_code
def yX10_share : MethodName := ⟨RX10, "share", "(III)I"⟩
abbrev cX10_bullets : ByteArray := prog_1_method_32_code
def yX10_bullets : MethodName := ⟨RX10, "bullets", "(II)I"⟩
abbrev cX10_row : ByteArray := prog_1_method_33_code
def yX10_row : MethodName := ⟨RX10, "row", "(III)I"⟩
abbrev cX10_goings : ByteArray := prog_1_method_34_code
def yX10_goings : MethodName := ⟨RX10, "goings", "(II)I"⟩
abbrev cX10_common : ByteArray := prog_1_method_35_code
def yX10_common : MethodName := ⟨RX10, "common", "(II)I"⟩
abbrev cX10_image : ByteArray := prog_1_method_36_code
def yX10_image : MethodName := ⟨RX10, "image", "()I"⟩
abbrev cX10_octet : ByteArray := prog_1_method_37_code
def yX10_octet : MethodName := ⟨RX10, "octet", "(I)I"⟩
abbrev cX10_on : ByteArray := prog_1_method_38_code
def yX10_on : MethodName := ⟨RX10, "on", "()Z"⟩
abbrev cX10_status : ByteArray := prog_1_method_39_code
def yX10_status : MethodName := ⟨RX10, "status", "(I)I"⟩
abbrev cX10_counted : ByteArray := prog_1_method_40_code
def yX10_counted : MethodName := ⟨RX10, "counted", "(II)I"⟩
abbrev cX10_granted : ByteArray := prog_1_method_41_code
def yX10_granted : MethodName := ⟨RX10, "granted", "(ZI)Z"⟩
abbrev cX10_letterIndex : ByteArray := prog_1_method_42_code
def yX10_letterIndex : MethodName := ⟨RX10, "letterIndex", "(I)I"⟩
def RX11 : String := "LeadNamesModel"
def TX11 : u_T := fun k => match k with
  | 0 => ("LeadNamesModel", "tape", "[I", true)
  | 1 => ("LeadNamesModel", "taped", "I", false)
  | 2 => ("LeadNamesModel", "size", "I", false)
  | 3 => ("LeadNamesModel", "sign", "I", false)
  | 4 => ("LeadNamesModel", "signAt", "I", false)
  | 5 => ("LeadNamesModel", "signEnd", "I", false)
  | 6 => ("LeadNamesModel", "value", "I", false)
  | 7 => ("LeadNamesModel", "word", "J", false)
  | 8 => ("LeadNamesModel", "faultKind", "I", false)
  | 9 => ("LeadNamesModel", "faultPlace", "I", false)
  | 10 => ("LeadNamesModel", "toldKind", "I", false)
  | 11 => ("LeadNamesModel", "toldPlace", "I", false)
  | 12 => ("LeadNamesModel", "bank", "I", false)
  | 13 => ("LeadNamesModel", "ounce", "[I", true)
  | 14 => ("LeadNamesModel", "persons", "[I", true)
  | 15 => ("LeadNamesModel", "personName", "[J", true)
  | 16 => ("LeadNamesModel", "born", "[I", true)
  | 17 => ("LeadNamesModel", "lifts", "[I", true)
  | 18 => ("LeadNamesModel", "dents", "[I", true)
  | 19 => ("LeadNamesModel", "coatTold", "[I", true)
  | 20 => ("LeadNamesModel", "titles", "[I", true)
  | 21 => ("LeadNamesModel", "titleName", "[J", true)
  | 22 => ("LeadNamesModel", "honour", "[I", true)
  | 23 => ("LeadNamesModel", "heapTold", "[I", true)
  | 24 => ("LeadNamesModel", "ages", "[I", true)
  | 25 => ("LeadNamesModel", "ageFrom", "[I", true)
  | 26 => ("LeadNamesModel", "agePart", "[I", true)
  | 27 => ("LeadNamesModel", "laws", "[I", true)
  | 28 => ("LeadNamesModel", "sumFrom", "[I", true)
  | 29 => ("LeadNamesModel", "testFrom", "[I", true)
  | 30 => ("LeadNamesModel", "testTo", "[I", true)
  | 31 => ("LeadNamesModel", "bridges", "[I", true)
  | 32 => ("LeadNamesModel", "bridgeName", "[J", true)
  | 33 => ("LeadNamesModel", "carries", "[I", true)
  | 34 => ("LeadNamesModel", "yearTold", "[I", true)
  | 35 => ("LeadNamesModel", "codeSort", "[I", true)
  | 36 => ("LeadNamesModel", "codeValue", "[I", true)
  | 37 => ("LeadNamesModel", "codes", "I", false)
  | 38 => ("LeadNamesModel", "in", "I", false)
  | 39 => ("LeadNamesModel", "frame", "[I", true)
  | 40 => ("LeadNamesModel", "phase", "[I", true)
  | 41 => ("LeadNamesModel", "begins", "[Z", true)
  | 42 => ("LeadNamesModel", "pair", "[I", true)
  | 43 => ("LeadNamesModel", "base", "[I", true)
  | 44 => ("LeadNamesModel", "deep", "I", false)
  | 45 => ("LeadNamesModel", "open", "I", false)
  | 46 => ("LeadNamesModel", "ops", "[I", true)
  | 47 => ("LeadNamesModel", "opMany", "I", false)
  | 48 => ("LeadNamesModel", "operand", "Z", false)
  | 49 => ("LeadNamesModel", "refused", "[I", true)
  | 50 => ("LeadNamesModel", "heap", "[J", true)
  | 51 => ("LeadNamesModel", "moment", "[I", true)
  | 52 => ("LeadNamesModel", "year", "I", false)
  | 53 => ("LeadNamesModel", "coat", "[I", true)
  | 54 => ("LeadNamesModel", "letters", "[I", true)
  | 55 => ("LeadNamesModel", "river", "I", false)
  | 56 => ("LeadNamesModel", "loans", "I", false)
  | 57 => ("LeadNamesModel", "loanFrom", "[I", true)
  | 58 => ("LeadNamesModel", "loanTo", "[I", true)
  | 59 => ("LeadNamesModel", "loanOf", "[I", true)
  | 60 => ("LeadNamesModel", "melted", "I", false)
  | 61 => ("LeadNamesModel", "bullet", "[I", true)
  | 62 => ("LeadNamesModel", "moves", "I", false)
  | 63 => ("LeadNamesModel", "moveRow", "[I", true)
  | 64 => ("LeadNamesModel", "spans", "I", false)
  | 65 => ("LeadNamesModel", "spanRow", "[I", true)
  | 66 => ("LeadNamesModel", "since", "[I", true)
  | 67 => ("LeadNamesModel", "seed", "J", false)
  | 68 => ("LeadNamesModel", "sharedMany", "I", false)
  | 69 => ("LeadNamesModel", "sharedOunces", "I", false)
  | 70 => ("LeadNamesModel", "going", "[I", true)
  | 71 => ("LeadNamesModel", "out", "[I", true)
  | _ => ("LeadNamesModel", "outs", "I", false)
def tyX11 : Nat → FieldType := fun k => match k with
  | 0 => .array .int
  | 1 => .int
  | 2 => .int
  | 3 => .int
  | 4 => .int
  | 5 => .int
  | 6 => .int
  | 7 => .long
  | 8 => .int
  | 9 => .int
  | 10 => .int
  | 11 => .int
  | 12 => .int
  | 13 => .array .int
  | 14 => .array .int
  | 15 => .array .long
  | 16 => .array .int
  | 17 => .array .int
  | 18 => .array .int
  | 19 => .array .int
  | 20 => .array .int
  | 21 => .array .long
  | 22 => .array .int
  | 23 => .array .int
  | 24 => .array .int
  | 25 => .array .int
  | 26 => .array .int
  | 27 => .array .int
  | 28 => .array .int
  | 29 => .array .int
  | 30 => .array .int
  | 31 => .array .int
  | 32 => .array .long
  | 33 => .array .int
  | 34 => .array .int
  | 35 => .array .int
  | 36 => .array .int
  | 37 => .int
  | 38 => .int
  | 39 => .array .int
  | 40 => .array .int
  | 41 => .array .boolean
  | 42 => .array .int
  | 43 => .array .int
  | 44 => .int
  | 45 => .int
  | 46 => .array .int
  | 47 => .int
  | 48 => .boolean
  | 49 => .array .int
  | 50 => .array .long
  | 51 => .array .int
  | 52 => .int
  | 53 => .array .int
  | 54 => .array .int
  | 55 => .int
  | 56 => .int
  | 57 => .array .int
  | 58 => .array .int
  | 59 => .array .int
  | 60 => .int
  | 61 => .array .int
  | 62 => .int
  | 63 => .array .int
  | 64 => .int
  | 65 => .array .int
  | 66 => .array .int
  | 67 => .long
  | 68 => .int
  | 69 => .int
  | 70 => .array .int
  | 71 => .array .int
  | _ => .int
theorem nmX11 : ∀ a, a < 73 → ∀ b, b < 73 → a ≠ b → (TX11 a).2.1 ≠ (TX11 b).2.1 := by decide +kernel
theorem tyX11_ok : ∀ k, k < 73 → parseFieldDescriptor (TX11 k).2.2.1 = some (tyX11 k) := by decide +kernel
abbrev cX11_init : ByteArray := prog_13_method_1_code
def yX11_init : MethodName := ⟨RX11, "<init>", "()V"⟩
abbrev cX11_is : ByteArray := prog_13_method_2_code
def yX11_is : MethodName := ⟨RX11, "is", "(III)Z"⟩
abbrev cX11_put : ByteArray := prog_13_method_3_code
def yX11_put : MethodName := ⟨RX11, "put", "(I)V"⟩
abbrev cX11_feed : ByteArray := prog_13_method_4_code
def yX11_feed : MethodName := ⟨RX11, "feed", "(IIIII)I"⟩
abbrev cX11_end : ByteArray := prog_13_method_5_code
def yX11_end : MethodName := ⟨RX11, "end", "(I)Z"⟩
abbrev cX11_blame : ByteArray := prog_13_method_6_code
def yX11_blame : MethodName := ⟨RX11, "blame", "(II)V"⟩
abbrev cX11_isLetter : ByteArray := prog_13_method_7_code
def yX11_isLetter : MethodName := ⟨RX11, "isLetter", "(I)Z"⟩
abbrev cX11_isDigit : ByteArray := prog_13_method_8_code
def yX11_isDigit : MethodName := ⟨RX11, "isDigit", "(I)Z"⟩
abbrev cX11_ahead : ByteArray := prog_13_method_9_code
def yX11_ahead : MethodName := ⟨RX11, "ahead", "()V"⟩
abbrev cX11_isSign : ByteArray := prog_13_method_10_code
def yX11_isSign : MethodName := ⟨RX11, "isSign", "(I)Z"⟩
abbrev cX11_isWord : ByteArray := prog_13_method_11_code
def yX11_isWord : MethodName := ⟨RX11, "isWord", "(J)Z"⟩
abbrev cX11_must : ByteArray := prog_13_method_12_code
def yX11_must : MethodName := ⟨RX11, "must", "(I)V"⟩
abbrev cX11_isOwn : ByteArray := prog_13_method_13_code
def yX11_isOwn : MethodName := ⟨RX11, "isOwn", "(J)Z"⟩
abbrev cX11_nameOf : ByteArray := prog_13_method_14_code
def yX11_nameOf : MethodName := ⟨RX11, "nameOf", "(III)J"⟩
abbrev cX11_named : ByteArray := prog_13_method_15_code
def yX11_named : MethodName := ⟨RX11, "named", "(IJ)I"⟩
abbrev cX11_number : ByteArray := prog_13_method_16_code
def yX11_number : MethodName := ⟨RX11, "number", "(II)I"⟩
abbrev cX11_add : ByteArray := prog_13_method_17_code
def yX11_add : MethodName := ⟨RX11, "add", "(II)V"⟩
abbrev cX11_rank : ByteArray := prog_13_method_18_code
def yX11_rank : MethodName := ⟨RX11, "rank", "(I)I"⟩
abbrev cX11_joins : ByteArray := prog_13_method_19_code
def yX11_joins : MethodName := ⟨RX11, "joins", "(I)V"⟩
abbrev cX11_holdsBack : ByteArray := prog_13_method_20_code
def yX11_holdsBack : MethodName := ⟨RX11, "holdsBack", "(I)V"⟩
abbrev cX11_pushes : ByteArray := prog_13_method_21_code
def yX11_pushes : MethodName := ⟨RX11, "pushes", "(I)V"⟩
abbrev cX11_opens : ByteArray := prog_13_method_22_code
def yX11_opens : MethodName := ⟨RX11, "opens", "(I)V"⟩
abbrev cX11_isTest : ByteArray := prog_13_method_23_code
def yX11_isTest : MethodName := ⟨RX11, "isTest", "(I)Z"⟩
abbrev cX11_operand : ByteArray := prog_13_method_24_code
def yX11_operand : MethodName := ⟨RX11, "operand", "()Z"⟩
abbrev cX11_goesOn : ByteArray := prog_13_method_25_code
def yX11_goesOn : MethodName := ⟨RX11, "goesOn", "()Z"⟩
abbrev cX11_reads : ByteArray := prog_13_method_26_code
def yX11_reads : MethodName := ⟨RX11, "reads", "(Z)V"⟩
abbrev cX11_counts : ByteArray := prog_13_method_27_code
def yX11_counts : MethodName := ⟨RX11, "counts", "(Z)Z"⟩
abbrev cX11_must_ : ByteArray := prog_13_method_28_code
def yX11_must_ : MethodName := ⟨RX11, "must", "(J)V"⟩
abbrev cX11_fresh : ByteArray := prog_13_method_29_code
def yX11_fresh : MethodName := ⟨RX11, "fresh", "()J"⟩
abbrev cX11_asked : ByteArray := prog_13_method_30_code
def yX11_asked : MethodName := ⟨RX11, "asked", "(I)I"⟩
abbrev cX11_oneLetter : ByteArray := prog_13_method_31_code
def yX11_oneLetter : MethodName := ⟨RX11, "oneLetter", "()I"⟩
abbrev cX11_weighs : ByteArray := prog_13_method_32_code
def yX11_weighs : MethodName := ⟨RX11, "weighs", "()V"⟩
abbrev cX11_person : ByteArray := prog_13_method_33_code
def yX11_person : MethodName := ⟨RX11, "person", "()V"⟩
abbrev cX11_title : ByteArray := prog_13_method_34_code
def yX11_title : MethodName := ⟨RX11, "title", "()V"⟩
abbrev cX11_having : ByteArray := prog_13_method_35_code
def yX11_having : MethodName := ⟨RX11, "having", "()V"⟩
abbrev cX11_heaping : ByteArray := prog_13_method_36_code
def yX11_heaping : MethodName := ⟨RX11, "heaping", "()V"⟩
abbrev cX11_ageing : ByteArray := prog_13_method_37_code
def yX11_ageing : MethodName := ⟨RX11, "ageing", "()V"⟩
abbrev cX11_law : ByteArray := prog_13_method_38_code
def yX11_law : MethodName := ⟨RX11, "law", "()V"⟩
abbrev cX11_bridge : ByteArray := prog_13_method_39_code
def yX11_bridge : MethodName := ⟨RX11, "bridge", "()V"⟩
abbrev cX11_dating : ByteArray := prog_13_method_40_code
def yX11_dating : MethodName := ⟨RX11, "dating", "()V"⟩
abbrev cX11_statement : ByteArray := prog_13_method_41_code
def yX11_statement : MethodName := ⟨RX11, "statement", "()V"⟩
abbrev cX11_others : ByteArray := prog_13_method_42_code
def yX11_others : MethodName := ⟨RX11, "others", "()V"⟩
abbrev cX11_land : ByteArray := prog_13_method_43_code
def yX11_land : MethodName := ⟨RX11, "land", "()I"⟩
abbrev cX11_fault : ByteArray := prog_13_method_44_code
def yX11_fault : MethodName := ⟨RX11, "fault", "(I)I"⟩
abbrev cX11_refuses : ByteArray := prog_13_method_45_code
def yX11_refuses : MethodName := ⟨RX11, "refuses", "(I)I"⟩
abbrev cX11_status : ByteArray := prog_13_method_46_code
def yX11_status : MethodName := ⟨RX11, "status", "(I)I"⟩
abbrev cX11_bounded : ByteArray := prog_13_method_47_code
def yX11_bounded : MethodName := ⟨RX11, "bounded", "(J)J"⟩
abbrev cX11_over : ByteArray := prog_13_method_48_code
def yX11_over : MethodName := ⟨RX11, "over", "(JJ)J"⟩
abbrev cX11_made : ByteArray := prog_13_method_49_code
def yX11_made : MethodName := ⟨RX11, "made", "(IJJ)J"⟩
abbrev cX11_works : ByteArray := prog_13_method_50_code
def yX11_works : MethodName := ⟨RX11, "works", "(II)J"⟩
abbrev cX11_begins : ByteArray := prog_13_method_51_code
def yX11_begins : MethodName := ⟨RX11, "begins", "()V"⟩
abbrev cX11_isPerson : ByteArray := prog_13_method_52_code
def yX11_isPerson : MethodName := ⟨RX11, "isPerson", "(I)Z"⟩
abbrev cX11_isTitle : ByteArray := prog_13_method_53_code
def yX11_isTitle : MethodName := ⟨RX11, "isTitle", "(I)Z"⟩
abbrev cX11_isLetterCode : ByteArray := prog_13_method_54_code
def yX11_isLetterCode : MethodName := ⟨RX11, "isLetterCode", "(I)Z"⟩
abbrev cX11_hasTitle : ByteArray := prog_13_method_55_code
def yX11_hasTitle : MethodName := ⟨RX11, "hasTitle", "(II)Z"⟩
abbrev cX11_weight : ByteArray := prog_13_method_56_code
def yX11_weight : MethodName := ⟨RX11, "weight", "(I)I"⟩
abbrev cX11_often : ByteArray := prog_13_method_57_code
def yX11_often : MethodName := ⟨RX11, "often", "(II)I"⟩
abbrev cX11_lengthOf : ByteArray := prog_13_method_58_code
def yX11_lengthOf : MethodName := ⟨RX11, "lengthOf", "(I)I"⟩
abbrev cX11_ouncesOf : ByteArray := prog_13_method_59_code
def yX11_ouncesOf : MethodName := ⟨RX11, "ouncesOf", "(I)I"⟩
abbrev cX11_honourOf : ByteArray := prog_13_method_60_code
def yX11_honourOf : MethodName := ⟨RX11, "honourOf", "(I)I"⟩
abbrev cX11_looseOunces : ByteArray := prog_13_method_61_code
def yX11_looseOunces : MethodName := ⟨RX11, "looseOunces", "(I)I"⟩
abbrev cX11_sumOf : ByteArray := prog_13_method_62_code
def yX11_sumOf : MethodName := ⟨RX11, "sumOf", "(IZ)I"⟩
abbrev cX11_loadOf : ByteArray := prog_13_method_63_code
def yX11_loadOf : MethodName := ⟨RX11, "loadOf", "(I)I"⟩
abbrev cX11_bitsOf : ByteArray := prog_13_method_64_code
def yX11_bitsOf : MethodName := ⟨RX11, "bitsOf", "(I)I"⟩
abbrev cX11_ageOf : ByteArray := prog_13_method_65_code
def yX11_ageOf : MethodName := ⟨RX11, "ageOf", "(I)I"⟩
abbrev cX11_limitOf : ByteArray := prog_13_method_66_code
def yX11_limitOf : MethodName := ⟨RX11, "limitOf", "(I)I"⟩
abbrev cX11_bestSet : ByteArray := prog_13_method_67_code
def yX11_bestSet : MethodName := ⟨RX11, "bestSet", "(II)I"⟩
abbrev cX11_has : ByteArray := prog_13_method_68_code
def yX11_has : MethodName := ⟨RX11, "has", "(I)I"⟩
abbrev cX11_manyOf : ByteArray := prog_13_method_69_code
def yX11_manyOf : MethodName := ⟨RX11, "manyOf", "(I)I"⟩
abbrev cX11_letter : ByteArray := prog_13_method_70_code
def yX11_letter : MethodName := ⟨RX11, "letter", "(III)I"⟩
abbrev cX11_ounces : ByteArray := prog_13_method_71_code
def yX11_ounces : MethodName := ⟨RX11, "ounces", "(I)I"⟩
abbrev cX11_title_ : ByteArray := prog_13_method_72_code
def yX11_title_ : MethodName := ⟨RX11, "title", "(II)I"⟩
abbrev cX11_looseMany : ByteArray := prog_13_method_73_code
def yX11_looseMany : MethodName := ⟨RX11, "looseMany", "(I)I"⟩
abbrev cX11_allOf : ByteArray := prog_13_method_74_code
def yX11_allOf : MethodName := ⟨RX11, "allOf", "(II)I"⟩
abbrev cX11_calledBy : ByteArray := prog_13_method_75_code
def yX11_calledBy : MethodName := ⟨RX11, "calledBy", "(I)I"⟩
abbrev cX11_person_ : ByteArray := prog_13_method_76_code
def yX11_person_ : MethodName := ⟨RX11, "person", "(II)I"⟩
abbrev cX11_loose : ByteArray := prog_13_method_77_code
def yX11_loose : MethodName := ⟨RX11, "loose", "(II)I"⟩
abbrev cX11_coatsAll : ByteArray := prog_13_method_78_code
def yX11_coatsAll : MethodName := ⟨RX11, "coatsAll", "()I"⟩
abbrev cX11_bulletsAll : ByteArray := prog_13_method_79_code
def yX11_bulletsAll : MethodName := ⟨RX11, "bulletsAll", "()I"⟩
abbrev cX11_lead : ByteArray := prog_13_method_80_code
def yX11_lead : MethodName := ⟨RX11, "lead", "(I)I"⟩
abbrev cX11_notes : ByteArray := prog_13_method_81_code
def yX11_notes : MethodName := ⟨RX11, "notes", "(IIII)V"⟩
abbrev cX11_comes : ByteArray := prog_13_method_82_code
def yX11_comes : MethodName := ⟨RX11, "comes", "(II)V"⟩
abbrev cX11_goes : ByteArray := prog_13_method_83_code
def yX11_goes : MethodName := ⟨RX11, "goes", "(II)V"⟩
abbrev cX11_lays : ByteArray := prog_13_method_84_code
def yX11_lays : MethodName := ⟨RX11, "lays", "(II)V"⟩
abbrev cX11_lacks : ByteArray := prog_13_method_85_code
def yX11_lacks : MethodName := ⟨RX11, "lacks", "(III)I"⟩
abbrev cX11_lackOunces : ByteArray := prog_13_method_86_code
def yX11_lackOunces : MethodName := ⟨RX11, "lackOunces", "(II)I"⟩
abbrev cX11_canGain : ByteArray := prog_13_method_87_code
def yX11_canGain : MethodName := ⟨RX11, "canGain", "(II)Z"⟩
abbrev cX11_gains : ByteArray := prog_13_method_88_code
def yX11_gains : MethodName := ⟨RX11, "gains", "(II)V"⟩
abbrev cX11_gain : ByteArray := prog_13_method_89_code
def yX11_gain : MethodName := ⟨RX11, "gain", "(II)I"⟩
abbrev cX11_sheds : ByteArray := prog_13_method_90_code
def yX11_sheds : MethodName := ⟨RX11, "sheds", "(II)V"⟩
abbrev cX11_shed : ByteArray := prog_13_method_91_code
def yX11_shed : MethodName := ⟨RX11, "shed", "(II)I"⟩
abbrev cX11_unpicked : ByteArray := prog_13_method_92_code
def yX11_unpicked : MethodName := ⟨RX11, "unpicked", "(II)I"⟩
abbrev cX11_steal : ByteArray := prog_13_method_93_code
def yX11_steal : MethodName := ⟨RX11, "steal", "(III)Z"⟩
abbrev cX11_trade : ByteArray := prog_13_method_94_code
def yX11_trade : MethodName := ⟨RX11, "trade", "(IIII)Z"⟩
abbrev cX11_lend : ByteArray := prog_13_method_95_code
def yX11_lend : MethodName := ⟨RX11, "lend", "(III)I"⟩
abbrev cX11_canBack : ByteArray := prog_13_method_96_code
def yX11_canBack : MethodName := ⟨RX11, "canBack", "(I)Z"⟩
abbrev cX11_giveBack : ByteArray := prog_13_method_97_code
def yX11_giveBack : MethodName := ⟨RX11, "giveBack", "(I)Z"⟩
abbrev cX11_loan : ByteArray := prog_13_method_98_code
def yX11_loan : MethodName := ⟨RX11, "loan", "(II)I"⟩
abbrev cX11_drown : ByteArray := prog_13_method_99_code
def yX11_drown : MethodName := ⟨RX11, "drown", "(I)I"⟩
abbrev cX11_melt : ByteArray := prog_13_method_100_code
def yX11_melt : MethodName := ⟨RX11, "melt", "(II)I"⟩
abbrev cX11_empties : ByteArray := prog_13_method_101_code
def yX11_empties : MethodName := ⟨RX11, "empties", "(I)V"⟩
abbrev cX11_heir : ByteArray := prog_13_method_102_code
def yX11_heir : MethodName := ⟨RX11, "heir", "(II)I"⟩
abbrev cX11_yearOf : ByteArray := prog_13_method_103_code
def yX11_yearOf : MethodName := ⟨RX11, "yearOf", "(I)I"⟩
abbrev cX11_years : ByteArray := prog_13_method_104_code
def yX11_years : MethodName := ⟨RX11, "years", "(I)I"⟩
abbrev cX11_drawn : ByteArray := prog_13_method_105_code
def yX11_drawn : MethodName := ⟨RX11, "drawn", "(I)I"⟩
abbrev cX11_feastOf : ByteArray := prog_13_method_106_code
def yX11_feastOf : MethodName := ⟨RX11, "feastOf", "(I)I"⟩
abbrev cX11_feast : ByteArray := prog_13_method_107_code
def yX11_feast : MethodName := ⟨RX11, "feast", "()I"⟩
abbrev cX11_seed : ByteArray := prog_13_method_108_code
def yX11_seed : MethodName := ⟨RX11, "seed", "(I)Z"⟩
abbrev cX11_signed : ByteArray := prog_13_method_109_code
def yX11_signed : MethodName := ⟨RX11, "signed", "(II)I"⟩
abbrev cX11_span : ByteArray := prog_13_method_110_code
def yX11_span : MethodName := ⟨RX11, "span", "(II)I"⟩
abbrev cX11_moved : ByteArray := prog_13_method_111_code
def yX11_moved : MethodName := ⟨RX11, "moved", "(II)I"⟩
abbrev cX11_likelyOf : ByteArray := prog_13_method_112_code
def yX11_likelyOf : MethodName := ⟨RX11, "likelyOf", "(III)J"⟩
abbrev cX11_share : ByteArray := prog_13_method_113_code
def yX11_share : MethodName := ⟨RX11, "share", "(III)I"⟩
abbrev cX11_bullets : ByteArray := prog_13_method_114_code
def yX11_bullets : MethodName := ⟨RX11, "bullets", "(II)I"⟩
abbrev cX11_letterOf : ByteArray := prog_13_method_115_code
def yX11_letterOf : MethodName := ⟨RX11, "letterOf", "(II)I"⟩
abbrev cX11_tries : ByteArray := prog_13_method_116_code
def yX11_tries : MethodName := ⟨RX11, "tries", "(III)V"⟩
abbrev cX11_row : ByteArray := prog_13_method_117_code
def yX11_row : MethodName := ⟨RX11, "row", "(III)I"⟩
abbrev cX11_goings : ByteArray := prog_13_method_118_code
def yX11_goings : MethodName := ⟨RX11, "goings", "(II)I"⟩
abbrev cX11_common : ByteArray := prog_13_method_119_code
def yX11_common : MethodName := ⟨RX11, "common", "(II)I"⟩
abbrev cX11_writes : ByteArray := prog_13_method_120_code
def yX11_writes : MethodName := ⟨RX11, "writes", "(I)V"⟩
abbrev cX11_writes2 : ByteArray := prog_13_method_121_code
def yX11_writes2 : MethodName := ⟨RX11, "writes2", "(I)V"⟩
abbrev cX11_image : ByteArray := prog_13_method_122_code
def yX11_image : MethodName := ⟨RX11, "image", "()I"⟩
abbrev cX11_octet : ByteArray := prog_13_method_123_code
def yX11_octet : MethodName := ⟨RX11, "octet", "(I)I"⟩
abbrev cX11_two : ByteArray := prog_13_method_124_code
def yX11_two : MethodName := ⟨RX11, "two", "(I)I"⟩
abbrev cX11_rowAt : ByteArray := prog_13_method_125_code
def yX11_rowAt : MethodName := ⟨RX11, "rowAt", "(IZ)J"⟩
abbrev cX11_isWhole : ByteArray := prog_13_method_126_code
def yX11_isWhole : MethodName := ⟨RX11, "isWhole", "(I)Z"⟩
abbrev cX11_on : ByteArray := prog_13_method_127_code
def yX11_on : MethodName := ⟨RX11, "on", "()Z"⟩
def RJ6 : String := "java/lang/Integer"
abbrev cJ6_bitCount_0f7a4 : ByteArray := prog_14_method_49_code
def yJ6_bitCount_0f7a4 : MethodName := ⟨RJ6, "bitCount", "(I)I"⟩
def RJ9 : String := "java/lang/Math"
abbrev cJ9_floorDiv_f86c9 : ByteArray := prog_15_method_49_code
def yJ9_floorDiv_f86c9 : MethodName := ⟨RJ9, "floorDiv", "(JJ)J"⟩
abbrev cJ9_floorMod_f86c9 : ByteArray := prog_15_method_52_code
def yJ9_floorMod_f86c9 : MethodName := ⟨RJ9, "floorMod", "(JJ)J"⟩
abbrev cJ9_max_7cf53 : ByteArray := prog_15_method_65_code
def yJ9_max_7cf53 : MethodName := ⟨RJ9, "max", "(II)I"⟩
abbrev cJ9_max_f86c9 : ByteArray := prog_15_method_66_code
def yJ9_max_f86c9 : MethodName := ⟨RJ9, "max", "(JJ)J"⟩
abbrev cJ9_min_7cf53 : ByteArray := prog_15_method_69_code
def yJ9_min_7cf53 : MethodName := ⟨RJ9, "min", "(II)I"⟩
abbrev cJ9_min_f86c9 : ByteArray := prog_15_method_70_code
def yJ9_min_f86c9 : MethodName := ⟨RJ9, "min", "(JJ)J"⟩
def RJ10 : String := "java/lang/System"
def RJ7 : String := "java/util/Arrays"
abbrev cJ7_fill_53178 : ByteArray := prog_20_method_103_code
def yJ7_fill_53178 : MethodName := ⟨RJ7, "fill", "([II)V"⟩
def RL : String := "LeadNamesLaw"
abbrev cL_law : ByteArray := code
def yL_law : MethodName := ⟨RL, "law", "([I)Z"⟩
