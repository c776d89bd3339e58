-- ===== PART A: goes FIRST, ahead of the names: the tables' words, and 'selects' of the private methods out of them =====
/-- a private method of a class that the tables say can be made, by its rows of tables_1 -/
def lw_okq (q : MethodName × Nat) : Prop := (q.1.cls ≠ "java/lang/invoke/MethodHandle" ∧ q.1.cls ≠ "java/lang/invoke/VarHandle") ∧ Cond.instantiable q.1.cls q.2 ∈ tables_1 ∧ Cond.privateMethod q.1 ∈ tables_1 ∧ Cond.instanceMethod q.1 ∈ tables_1
theorem lw_p0 : lw_okq (⟨"SkyMargins", "refuse", "(I)I"⟩, 16) := ⟨⟨by decide +kernel, by decide +kernel⟩, List.mem_of_getElem? (i := 24) (by decide +kernel), List.mem_of_getElem? (i := 371) (by decide +kernel), List.mem_of_getElem? (i := 372) (by decide +kernel)⟩
theorem lw_p1 : lw_okq (⟨"SkyMargins", "changed", "(I)I"⟩, 16) := ⟨⟨by decide +kernel, by decide +kernel⟩, List.mem_of_getElem? (i := 24) (by decide +kernel), List.mem_of_getElem? (i := 377) (by decide +kernel), List.mem_of_getElem? (i := 378) (by decide +kernel)⟩
theorem lw_p2 : lw_okq (⟨"SkyMargins", "accept", "(I)I"⟩, 16) := ⟨⟨by decide +kernel, by decide +kernel⟩, List.mem_of_getElem? (i := 24) (by decide +kernel), List.mem_of_getElem? (i := 381) (by decide +kernel), List.mem_of_getElem? (i := 382) (by decide +kernel)⟩
theorem lw_p3 : lw_okq (⟨"SkyMargins", "freshReadings", "()LSkyMargins$Readings;"⟩, 16) := ⟨⟨by decide +kernel, by decide +kernel⟩, List.mem_of_getElem? (i := 24) (by decide +kernel), List.mem_of_getElem? (i := 443) (by decide +kernel), List.mem_of_getElem? (i := 444) (by decide +kernel)⟩
theorem lw_p4 : lw_okq (⟨"SkyMargins$Readings", "addHolder", "(III)V"⟩, 9) := ⟨⟨by decide +kernel, by decide +kernel⟩, List.mem_of_getElem? (i := 187) (by decide +kernel), List.mem_of_getElem? (i := 456) (by decide +kernel), List.mem_of_getElem? (i := 457) (by decide +kernel)⟩
theorem lw_p5 : lw_okq (⟨"SkyMargins$Readings", "find", "(II)I"⟩, 9) := ⟨⟨by decide +kernel, by decide +kernel⟩, List.mem_of_getElem? (i := 187) (by decide +kernel), List.mem_of_getElem? (i := 460) (by decide +kernel), List.mem_of_getElem? (i := 461) (by decide +kernel)⟩
theorem lw_p6 : lw_okq (⟨"SkyMargins$Asker", "passes", "(LSkyMargins$Text;II)Z"⟩, 3) := ⟨⟨by decide +kernel, by decide +kernel⟩, List.mem_of_getElem? (i := 170) (by decide +kernel), List.mem_of_getElem? (i := 499) (by decide +kernel), List.mem_of_getElem? (i := 500) (by decide +kernel)⟩
theorem lw_p7 : lw_okq (⟨"SkyMargins$Asker", "work", "(LSkyMargins$Text;II)J"⟩, 3) := ⟨⟨by decide +kernel, by decide +kernel⟩, List.mem_of_getElem? (i := 170) (by decide +kernel), List.mem_of_getElem? (i := 503) (by decide +kernel), List.mem_of_getElem? (i := 504) (by decide +kernel)⟩
theorem lw_p8 : lw_okq (⟨"SkyMargins$Asker", "askedOf", "(I)I"⟩, 3) := ⟨⟨by decide +kernel, by decide +kernel⟩, List.mem_of_getElem? (i := 170) (by decide +kernel), List.mem_of_getElem? (i := 507) (by decide +kernel), List.mem_of_getElem? (i := 508) (by decide +kernel)⟩
theorem lw_p9 : lw_okq (⟨"SkyMargins$Asker", "combined", "(IJJ)J"⟩, 3) := ⟨⟨by decide +kernel, by decide +kernel⟩, List.mem_of_getElem? (i := 170) (by decide +kernel), List.mem_of_getElem? (i := 512) (by decide +kernel), List.mem_of_getElem? (i := 513) (by decide +kernel)⟩
theorem lw_p10 : lw_okq (⟨"SkyMargins", "takeFromRow", "(II)Z"⟩, 16) := ⟨⟨by decide +kernel, by decide +kernel⟩, List.mem_of_getElem? (i := 24) (by decide +kernel), List.mem_of_getElem? (i := 574) (by decide +kernel), List.mem_of_getElem? (i := 575) (by decide +kernel)⟩
theorem lw_p11 : lw_okq (⟨"SkyMargins$Parser", "advance", "()V"⟩, 9) := ⟨⟨by decide +kernel, by decide +kernel⟩, List.mem_of_getElem? (i := 136) (by decide +kernel), List.mem_of_getElem? (i := 594) (by decide +kernel), List.mem_of_getElem? (i := 595) (by decide +kernel)⟩
theorem lw_p12 : lw_okq (⟨"SkyMargins$Parser", "wordNumber", "()I"⟩, 9) := ⟨⟨by decide +kernel, by decide +kernel⟩, List.mem_of_getElem? (i := 136) (by decide +kernel), List.mem_of_getElem? (i := 603) (by decide +kernel), List.mem_of_getElem? (i := 604) (by decide +kernel)⟩
theorem lw_p13 : lw_okq (⟨"SkyMargins$Parser", "fail", "()Z"⟩, 9) := ⟨⟨by decide +kernel, by decide +kernel⟩, List.mem_of_getElem? (i := 136) (by decide +kernel), List.mem_of_getElem? (i := 660) (by decide +kernel), List.mem_of_getElem? (i := 661) (by decide +kernel)⟩
theorem lw_p14 : lw_okq (⟨"SkyMargins$Parser", "readClause", "()Z"⟩, 9) := ⟨⟨by decide +kernel, by decide +kernel⟩, List.mem_of_getElem? (i := 136) (by decide +kernel), List.mem_of_getElem? (i := 664) (by decide +kernel), List.mem_of_getElem? (i := 665) (by decide +kernel)⟩
theorem lw_p15 : lw_okq (⟨"SkyMargins$Parser", "emit", "(I)V"⟩, 9) := ⟨⟨by decide +kernel, by decide +kernel⟩, List.mem_of_getElem? (i := 136) (by decide +kernel), List.mem_of_getElem? (i := 668) (by decide +kernel), List.mem_of_getElem? (i := 669) (by decide +kernel)⟩
def lw_privs_1 : List (MethodName × Nat) := [(⟨"SkyMargins", "refuse", "(I)I"⟩, 16), (⟨"SkyMargins", "changed", "(I)I"⟩, 16), (⟨"SkyMargins", "accept", "(I)I"⟩, 16), (⟨"SkyMargins", "freshReadings", "()LSkyMargins$Readings;"⟩, 16), (⟨"SkyMargins$Readings", "addHolder", "(III)V"⟩, 9), (⟨"SkyMargins$Readings", "find", "(II)I"⟩, 9), (⟨"SkyMargins$Asker", "passes", "(LSkyMargins$Text;II)Z"⟩, 3), (⟨"SkyMargins$Asker", "work", "(LSkyMargins$Text;II)J"⟩, 3), (⟨"SkyMargins$Asker", "askedOf", "(I)I"⟩, 3), (⟨"SkyMargins$Asker", "combined", "(IJJ)J"⟩, 3), (⟨"SkyMargins", "takeFromRow", "(II)Z"⟩, 16), (⟨"SkyMargins$Parser", "advance", "()V"⟩, 9), (⟨"SkyMargins$Parser", "wordNumber", "()I"⟩, 9), (⟨"SkyMargins$Parser", "fail", "()Z"⟩, 9), (⟨"SkyMargins$Parser", "readClause", "()Z"⟩, 9), (⟨"SkyMargins$Parser", "emit", "(I)V"⟩, 9)]
theorem lw_r1 : ∀ q ∈ lw_privs_1, lw_okq q := List.forall_mem_cons.mpr ⟨lw_p0, List.forall_mem_cons.mpr ⟨lw_p1, List.forall_mem_cons.mpr ⟨lw_p2, List.forall_mem_cons.mpr ⟨lw_p3, List.forall_mem_cons.mpr ⟨lw_p4, List.forall_mem_cons.mpr ⟨lw_p5, List.forall_mem_cons.mpr ⟨lw_p6, List.forall_mem_cons.mpr ⟨lw_p7, List.forall_mem_cons.mpr ⟨lw_p8, List.forall_mem_cons.mpr ⟨lw_p9, List.forall_mem_cons.mpr ⟨lw_p10, List.forall_mem_cons.mpr ⟨lw_p11, List.forall_mem_cons.mpr ⟨lw_p12, List.forall_mem_cons.mpr ⟨lw_p13, List.forall_mem_cons.mpr ⟨lw_p14, List.forall_mem_cons.mpr ⟨lw_p15, fun _ h => absurd h List.not_mem_nil⟩⟩⟩⟩⟩⟩⟩⟩⟩⟩⟩⟩⟩⟩⟩⟩
theorem lw_p16 : lw_okq (⟨"SkyMargins$Parser", "readSum", "(I)Z"⟩, 9) := ⟨⟨by decide +kernel, by decide +kernel⟩, List.mem_of_getElem? (i := 136) (by decide +kernel), List.mem_of_getElem? (i := 672) (by decide +kernel), List.mem_of_getElem? (i := 673) (by decide +kernel)⟩
theorem lw_p17 : lw_okq (⟨"SkyMargins$Parser", "readTerm", "(I)Z"⟩, 9) := ⟨⟨by decide +kernel, by decide +kernel⟩, List.mem_of_getElem? (i := 136) (by decide +kernel), List.mem_of_getElem? (i := 676) (by decide +kernel), List.mem_of_getElem? (i := 677) (by decide +kernel)⟩
theorem lw_p18 : lw_okq (⟨"SkyMargins$Parser", "readPart", "(I)Z"⟩, 9) := ⟨⟨by decide +kernel, by decide +kernel⟩, List.mem_of_getElem? (i := 136) (by decide +kernel), List.mem_of_getElem? (i := 680) (by decide +kernel), List.mem_of_getElem? (i := 681) (by decide +kernel)⟩
theorem lw_p19 : lw_okq (⟨"SkyMargins$Parser", "openBracket", "(I)Z"⟩, 9) := ⟨⟨by decide +kernel, by decide +kernel⟩, List.mem_of_getElem? (i := 136) (by decide +kernel), List.mem_of_getElem? (i := 684) (by decide +kernel), List.mem_of_getElem? (i := 685) (by decide +kernel)⟩
theorem lw_p20 : lw_okq (⟨"SkyMargins$Parser", "takeSign", "(I)Z"⟩, 9) := ⟨⟨by decide +kernel, by decide +kernel⟩, List.mem_of_getElem? (i := 136) (by decide +kernel), List.mem_of_getElem? (i := 688) (by decide +kernel), List.mem_of_getElem? (i := 689) (by decide +kernel)⟩
theorem lw_p21 : lw_okq (⟨"SkyMargins$Parser", "patch", "(I)V"⟩, 9) := ⟨⟨by decide +kernel, by decide +kernel⟩, List.mem_of_getElem? (i := 136) (by decide +kernel), List.mem_of_getElem? (i := 692) (by decide +kernel), List.mem_of_getElem? (i := 693) (by decide +kernel)⟩
theorem lw_p22 : lw_okq (⟨"SkyMargins$Parser", "readTest", "(I)Z"⟩, 9) := ⟨⟨by decide +kernel, by decide +kernel⟩, List.mem_of_getElem? (i := 136) (by decide +kernel), List.mem_of_getElem? (i := 696) (by decide +kernel), List.mem_of_getElem? (i := 697) (by decide +kernel)⟩
theorem lw_p23 : lw_okq (⟨"SkyMargins$Parser", "readBoth", "(I)Z"⟩, 9) := ⟨⟨by decide +kernel, by decide +kernel⟩, List.mem_of_getElem? (i := 136) (by decide +kernel), List.mem_of_getElem? (i := 700) (by decide +kernel), List.mem_of_getElem? (i := 701) (by decide +kernel)⟩
theorem lw_p24 : lw_okq (⟨"SkyMargins$Parser", "readPlain", "(I)Z"⟩, 9) := ⟨⟨by decide +kernel, by decide +kernel⟩, List.mem_of_getElem? (i := 136) (by decide +kernel), List.mem_of_getElem? (i := 704) (by decide +kernel), List.mem_of_getElem? (i := 705) (by decide +kernel)⟩
theorem lw_p25 : lw_okq (⟨"SkyMargins$Parser", "emitJump", "(I)I"⟩, 9) := ⟨⟨by decide +kernel, by decide +kernel⟩, List.mem_of_getElem? (i := 136) (by decide +kernel), List.mem_of_getElem? (i := 708) (by decide +kernel), List.mem_of_getElem? (i := 709) (by decide +kernel)⟩
theorem lw_p26 : lw_okq (⟨"SkyMargins", "areTwoCopies", "(II)Z"⟩, 16) := ⟨⟨by decide +kernel, by decide +kernel⟩, List.mem_of_getElem? (i := 24) (by decide +kernel), List.mem_of_getElem? (i := 769) (by decide +kernel), List.mem_of_getElem? (i := 770) (by decide +kernel)⟩
theorem lw_p27 : lw_okq (⟨"SkyMargins$Shelf", "metDuring", "(II)Z"⟩, 9) := ⟨⟨by decide +kernel, by decide +kernel⟩, List.mem_of_getElem? (i := 32) (by decide +kernel), List.mem_of_getElem? (i := 777) (by decide +kernel), List.mem_of_getElem? (i := 778) (by decide +kernel)⟩
theorem lw_p28 : lw_okq (⟨"SkyMargins", "freshStemma", "()LSkyMargins$Stemma;"⟩, 16) := ⟨⟨by decide +kernel, by decide +kernel⟩, List.mem_of_getElem? (i := 24) (by decide +kernel), List.mem_of_getElem? (i := 801) (by decide +kernel), List.mem_of_getElem? (i := 802) (by decide +kernel)⟩
theorem lw_p29 : lw_okq (⟨"SkyMargins$Stemma", "findCosts", "(LSkyMargins$Shelf;LSkyMargins$Readings;)V"⟩, 9) := ⟨⟨by decide +kernel, by decide +kernel⟩, List.mem_of_getElem? (i := 221) (by decide +kernel), List.mem_of_getElem? (i := 809) (by decide +kernel), List.mem_of_getElem? (i := 810) (by decide +kernel)⟩
theorem lw_p30 : lw_okq (⟨"SkyMargins$Stemma", "leastSum", "()J"⟩, 9) := ⟨⟨by decide +kernel, by decide +kernel⟩, List.mem_of_getElem? (i := 221) (by decide +kernel), List.mem_of_getElem? (i := 823) (by decide +kernel), List.mem_of_getElem? (i := 824) (by decide +kernel)⟩
theorem lw_p31 : lw_okq (⟨"SkyMargins$Stemma", "nearestTo", "(II)I"⟩, 9) := ⟨⟨by decide +kernel, by decide +kernel⟩, List.mem_of_getElem? (i := 221) (by decide +kernel), List.mem_of_getElem? (i := 827) (by decide +kernel), List.mem_of_getElem? (i := 828) (by decide +kernel)⟩
def lw_privs_2 : List (MethodName × Nat) := [(⟨"SkyMargins$Parser", "readSum", "(I)Z"⟩, 9), (⟨"SkyMargins$Parser", "readTerm", "(I)Z"⟩, 9), (⟨"SkyMargins$Parser", "readPart", "(I)Z"⟩, 9), (⟨"SkyMargins$Parser", "openBracket", "(I)Z"⟩, 9), (⟨"SkyMargins$Parser", "takeSign", "(I)Z"⟩, 9), (⟨"SkyMargins$Parser", "patch", "(I)V"⟩, 9), (⟨"SkyMargins$Parser", "readTest", "(I)Z"⟩, 9), (⟨"SkyMargins$Parser", "readBoth", "(I)Z"⟩, 9), (⟨"SkyMargins$Parser", "readPlain", "(I)Z"⟩, 9), (⟨"SkyMargins$Parser", "emitJump", "(I)I"⟩, 9), (⟨"SkyMargins", "areTwoCopies", "(II)Z"⟩, 16), (⟨"SkyMargins$Shelf", "metDuring", "(II)Z"⟩, 9), (⟨"SkyMargins", "freshStemma", "()LSkyMargins$Stemma;"⟩, 16), (⟨"SkyMargins$Stemma", "findCosts", "(LSkyMargins$Shelf;LSkyMargins$Readings;)V"⟩, 9), (⟨"SkyMargins$Stemma", "leastSum", "()J"⟩, 9), (⟨"SkyMargins$Stemma", "nearestTo", "(II)I"⟩, 9)]
theorem lw_r2 : ∀ q ∈ lw_privs_2, lw_okq q := List.forall_mem_cons.mpr ⟨lw_p16, List.forall_mem_cons.mpr ⟨lw_p17, List.forall_mem_cons.mpr ⟨lw_p18, List.forall_mem_cons.mpr ⟨lw_p19, List.forall_mem_cons.mpr ⟨lw_p20, List.forall_mem_cons.mpr ⟨lw_p21, List.forall_mem_cons.mpr ⟨lw_p22, List.forall_mem_cons.mpr ⟨lw_p23, List.forall_mem_cons.mpr ⟨lw_p24, List.forall_mem_cons.mpr ⟨lw_p25, List.forall_mem_cons.mpr ⟨lw_p26, List.forall_mem_cons.mpr ⟨lw_p27, List.forall_mem_cons.mpr ⟨lw_p28, List.forall_mem_cons.mpr ⟨lw_p29, List.forall_mem_cons.mpr ⟨lw_p30, List.forall_mem_cons.mpr ⟨lw_p31, fun _ h => absurd h List.not_mem_nil⟩⟩⟩⟩⟩⟩⟩⟩⟩⟩⟩⟩⟩⟩⟩⟩
theorem lw_p32 : lw_okq (⟨"SkyMargins$Stemma", "findGroups", "(I)I"⟩, 9) := ⟨⟨by decide +kernel, by decide +kernel⟩, List.mem_of_getElem? (i := 221) (by decide +kernel), List.mem_of_getElem? (i := 832) (by decide +kernel), List.mem_of_getElem? (i := 833) (by decide +kernel)⟩
theorem lw_p33 : lw_okq (⟨"SkyMargins$Stemma", "mergeGroups", "(I)V"⟩, 9) := ⟨⟨by decide +kernel, by decide +kernel⟩, List.mem_of_getElem? (i := 221) (by decide +kernel), List.mem_of_getElem? (i := 836) (by decide +kernel), List.mem_of_getElem? (i := 837) (by decide +kernel)⟩
theorem lw_p34 : lw_okq (⟨"SkyMargins$Readings", "findNear", "(LSkyMargins$Shelf;)V"⟩, 9) := ⟨⟨by decide +kernel, by decide +kernel⟩, List.mem_of_getElem? (i := 187) (by decide +kernel), List.mem_of_getElem? (i := 918) (by decide +kernel), List.mem_of_getElem? (i := 919) (by decide +kernel)⟩
theorem lw_p35 : lw_okq (⟨"SkyMargins$Readings", "spread", "(II)I"⟩, 9) := ⟨⟨by decide +kernel, by decide +kernel⟩, List.mem_of_getElem? (i := 187) (by decide +kernel), List.mem_of_getElem? (i := 923) (by decide +kernel), List.mem_of_getElem? (i := 924) (by decide +kernel)⟩
theorem lw_p36 : lw_okq (⟨"SkyMargins$Odds", "weigh", "(LSkyMargins$Shelf;III)V"⟩, 5) := ⟨⟨by decide +kernel, by decide +kernel⟩, List.mem_of_getElem? (i := 255) (by decide +kernel), List.mem_of_getElem? (i := 947) (by decide +kernel), List.mem_of_getElem? (i := 948) (by decide +kernel)⟩
theorem lw_p37 : lw_okq (⟨"SkyMargins$Odds", "weighFactor", "(III)V"⟩, 5) := ⟨⟨by decide +kernel, by decide +kernel⟩, List.mem_of_getElem? (i := 255) (by decide +kernel), List.mem_of_getElem? (i := 957) (by decide +kernel), List.mem_of_getElem? (i := 958) (by decide +kernel)⟩
theorem lw_p38 : lw_okq (⟨"SkyMargins$Odds", "topThroughBottom", "()I"⟩, 5) := ⟨⟨by decide +kernel, by decide +kernel⟩, List.mem_of_getElem? (i := 255) (by decide +kernel), List.mem_of_getElem? (i := 973) (by decide +kernel), List.mem_of_getElem? (i := 974) (by decide +kernel)⟩
theorem lw_p39 : lw_okq (⟨"SkyMargins$Shelf", "handsIn", "(I)I"⟩, 9) := ⟨⟨by decide +kernel, by decide +kernel⟩, List.mem_of_getElem? (i := 32) (by decide +kernel), List.mem_of_getElem? (i := 1014) (by decide +kernel), List.mem_of_getElem? (i := 1015) (by decide +kernel)⟩
theorem lw_p40 : lw_okq (⟨"SkyMargins", "firstYearByTree", "(LSkyMargins$Stemma;I)I"⟩, 16) := ⟨⟨by decide +kernel, by decide +kernel⟩, List.mem_of_getElem? (i := 24) (by decide +kernel), List.mem_of_getElem? (i := 1024) (by decide +kernel), List.mem_of_getElem? (i := 1025) (by decide +kernel)⟩
theorem lw_p41 : lw_okq (⟨"SkyMargins", "lastYearByTree", "(LSkyMargins$Stemma;I)I"⟩, 16) := ⟨⟨by decide +kernel, by decide +kernel⟩, List.mem_of_getElem? (i := 24) (by decide +kernel), List.mem_of_getElem? (i := 1029) (by decide +kernel), List.mem_of_getElem? (i := 1030) (by decide +kernel)⟩
theorem lw_p42 : lw_okq (⟨"SkyMargins$Asker", "askOfCopy", "(LSkyMargins$Shelf;I)V"⟩, 3) := ⟨⟨by decide +kernel, by decide +kernel⟩, List.mem_of_getElem? (i := 170) (by decide +kernel), List.mem_of_getElem? (i := 1046) (by decide +kernel), List.mem_of_getElem? (i := 1047) (by decide +kernel)⟩
theorem lw_p43 : lw_okq (⟨"SkyMargins$Odds", "weighRead", "(II)V"⟩, 5) := ⟨⟨by decide +kernel, by decide +kernel⟩, List.mem_of_getElem? (i := 255) (by decide +kernel), List.mem_of_getElem? (i := 1065) (by decide +kernel), List.mem_of_getElem? (i := 1066) (by decide +kernel)⟩
theorem lw_p44 : lw_okq (⟨"SkyMargins", "placesStruck", "(LSkyMargins$Text;)J"⟩, 16) := ⟨⟨by decide +kernel, by decide +kernel⟩, List.mem_of_getElem? (i := 24) (by decide +kernel), List.mem_of_getElem? (i := 1098) (by decide +kernel), List.mem_of_getElem? (i := 1099) (by decide +kernel)⟩
theorem lw_p45 : lw_okq (⟨"SkyMargins", "toldOfCensor", "(IJI)I"⟩, 16) := ⟨⟨by decide +kernel, by decide +kernel⟩, List.mem_of_getElem? (i := 24) (by decide +kernel), List.mem_of_getElem? (i := 1107) (by decide +kernel), List.mem_of_getElem? (i := 1108) (by decide +kernel)⟩
theorem lw_p46 : lw_okq (⟨"SkyMargins$World", "nextCopy", "(LSkyMargins$Stemma;I)I"⟩, 6) := ⟨⟨by decide +kernel, by decide +kernel⟩, List.mem_of_getElem? (i := 290) (by decide +kernel), List.mem_of_getElem? (i := 1145) (by decide +kernel), List.mem_of_getElem? (i := 1146) (by decide +kernel)⟩
theorem lw_p47 : lw_okq (⟨"SkyMargins$World", "takeNotes", "(LSkyMargins$Shelf;LSkyMargins$Asker;II)V"⟩, 6) := ⟨⟨by decide +kernel, by decide +kernel⟩, List.mem_of_getElem? (i := 290) (by decide +kernel), List.mem_of_getElem? (i := 1150) (by decide +kernel), List.mem_of_getElem? (i := 1151) (by decide +kernel)⟩
def lw_privs_3 : List (MethodName × Nat) := [(⟨"SkyMargins$Stemma", "findGroups", "(I)I"⟩, 9), (⟨"SkyMargins$Stemma", "mergeGroups", "(I)V"⟩, 9), (⟨"SkyMargins$Readings", "findNear", "(LSkyMargins$Shelf;)V"⟩, 9), (⟨"SkyMargins$Readings", "spread", "(II)I"⟩, 9), (⟨"SkyMargins$Odds", "weigh", "(LSkyMargins$Shelf;III)V"⟩, 5), (⟨"SkyMargins$Odds", "weighFactor", "(III)V"⟩, 5), (⟨"SkyMargins$Odds", "topThroughBottom", "()I"⟩, 5), (⟨"SkyMargins$Shelf", "handsIn", "(I)I"⟩, 9), (⟨"SkyMargins", "firstYearByTree", "(LSkyMargins$Stemma;I)I"⟩, 16), (⟨"SkyMargins", "lastYearByTree", "(LSkyMargins$Stemma;I)I"⟩, 16), (⟨"SkyMargins$Asker", "askOfCopy", "(LSkyMargins$Shelf;I)V"⟩, 3), (⟨"SkyMargins$Odds", "weighRead", "(II)V"⟩, 5), (⟨"SkyMargins", "placesStruck", "(LSkyMargins$Text;)J"⟩, 16), (⟨"SkyMargins", "toldOfCensor", "(IJI)I"⟩, 16), (⟨"SkyMargins$World", "nextCopy", "(LSkyMargins$Stemma;I)I"⟩, 6), (⟨"SkyMargins$World", "takeNotes", "(LSkyMargins$Shelf;LSkyMargins$Asker;II)V"⟩, 6)]
theorem lw_r3 : ∀ q ∈ lw_privs_3, lw_okq q := List.forall_mem_cons.mpr ⟨lw_p32, List.forall_mem_cons.mpr ⟨lw_p33, List.forall_mem_cons.mpr ⟨lw_p34, List.forall_mem_cons.mpr ⟨lw_p35, List.forall_mem_cons.mpr ⟨lw_p36, List.forall_mem_cons.mpr ⟨lw_p37, List.forall_mem_cons.mpr ⟨lw_p38, List.forall_mem_cons.mpr ⟨lw_p39, List.forall_mem_cons.mpr ⟨lw_p40, List.forall_mem_cons.mpr ⟨lw_p41, List.forall_mem_cons.mpr ⟨lw_p42, List.forall_mem_cons.mpr ⟨lw_p43, List.forall_mem_cons.mpr ⟨lw_p44, List.forall_mem_cons.mpr ⟨lw_p45, List.forall_mem_cons.mpr ⟨lw_p46, List.forall_mem_cons.mpr ⟨lw_p47, fun _ h => absurd h List.not_mem_nil⟩⟩⟩⟩⟩⟩⟩⟩⟩⟩⟩⟩⟩⟩⟩⟩
theorem lw_p48 : lw_okq (⟨"SkyMargins$World", "drawOfHundred", "()I"⟩, 6) := ⟨⟨by decide +kernel, by decide +kernel⟩, List.mem_of_getElem? (i := 290) (by decide +kernel), List.mem_of_getElem? (i := 1165) (by decide +kernel), List.mem_of_getElem? (i := 1166) (by decide +kernel)⟩
theorem lw_p49 : lw_okq (⟨"SkyMargins$World", "put", "(II)V"⟩, 6) := ⟨⟨by decide +kernel, by decide +kernel⟩, List.mem_of_getElem? (i := 290) (by decide +kernel), List.mem_of_getElem? (i := 1173) (by decide +kernel), List.mem_of_getElem? (i := 1174) (by decide +kernel)⟩
theorem lw_p50 : lw_okq (⟨"SkyMargins$World", "writeNotes", "(LSkyMargins$Shelf;LSkyMargins$Asker;I)V"⟩, 6) := ⟨⟨by decide +kernel, by decide +kernel⟩, List.mem_of_getElem? (i := 290) (by decide +kernel), List.mem_of_getElem? (i := 1177) (by decide +kernel), List.mem_of_getElem? (i := 1178) (by decide +kernel)⟩
theorem lw_p51 : lw_okq (⟨"SkyMargins$World", "hasNote", "(II)Z"⟩, 6) := ⟨⟨by decide +kernel, by decide +kernel⟩, List.mem_of_getElem? (i := 290) (by decide +kernel), List.mem_of_getElem? (i := 1195) (by decide +kernel), List.mem_of_getElem? (i := 1196) (by decide +kernel)⟩
theorem lw_p52 : lw_okq (⟨"SkyMarginsModel", "refuses", "(I)I"⟩, 46) := ⟨⟨by decide +kernel, by decide +kernel⟩, List.mem_of_getElem? (i := 1230) (by decide +kernel), List.mem_of_getElem? (i := 1382) (by decide +kernel), List.mem_of_getElem? (i := 1383) (by decide +kernel)⟩
theorem lw_p53 : lw_okq (⟨"SkyMarginsModel", "good", "(I)I"⟩, 46) := ⟨⟨by decide +kernel, by decide +kernel⟩, List.mem_of_getElem? (i := 1230) (by decide +kernel), List.mem_of_getElem? (i := 1386) (by decide +kernel), List.mem_of_getElem? (i := 1387) (by decide +kernel)⟩
theorem lw_p54 : lw_okq (⟨"SkyMarginsModel", "copies", "()I"⟩, 46) := ⟨⟨by decide +kernel, by decide +kernel⟩, List.mem_of_getElem? (i := 1230) (by decide +kernel), List.mem_of_getElem? (i := 1398) (by decide +kernel), List.mem_of_getElem? (i := 1399) (by decide +kernel)⟩
theorem lw_p55 : lw_okq (⟨"SkyMarginsModel", "isCopy", "(I)Z"⟩, 46) := ⟨⟨by decide +kernel, by decide +kernel⟩, List.mem_of_getElem? (i := 1230) (by decide +kernel), List.mem_of_getElem? (i := 1406) (by decide +kernel), List.mem_of_getElem? (i := 1407) (by decide +kernel)⟩
theorem lw_p56 : lw_okq (⟨"SkyMarginsModel", "replaces", "(II)I"⟩, 46) := ⟨⟨by decide +kernel, by decide +kernel⟩, List.mem_of_getElem? (i := 1230) (by decide +kernel), List.mem_of_getElem? (i := 1410) (by decide +kernel), List.mem_of_getElem? (i := 1411) (by decide +kernel)⟩
theorem lw_p57 : lw_okq (⟨"SkyMarginsModel", "isHand", "(I)Z"⟩, 46) := ⟨⟨by decide +kernel, by decide +kernel⟩, List.mem_of_getElem? (i := 1230) (by decide +kernel), List.mem_of_getElem? (i := 1429) (by decide +kernel), List.mem_of_getElem? (i := 1430) (by decide +kernel)⟩
theorem lw_p58 : lw_okq (⟨"SkyMarginsModel", "hasIt", "(IIII)Z"⟩, 46) := ⟨⟨by decide +kernel, by decide +kernel⟩, List.mem_of_getElem? (i := 1230) (by decide +kernel), List.mem_of_getElem? (i := 1441) (by decide +kernel), List.mem_of_getElem? (i := 1442) (by decide +kernel)⟩
theorem lw_p59 : lw_okq (⟨"SkyMarginsModel", "has", "(III)Z"⟩, 46) := ⟨⟨by decide +kernel, by decide +kernel⟩, List.mem_of_getElem? (i := 1230) (by decide +kernel), List.mem_of_getElem? (i := 1445) (by decide +kernel), List.mem_of_getElem? (i := 1446) (by decide +kernel)⟩
theorem lw_p60 : lw_okq (⟨"SkyMarginsModel", "noteOf", "(II)I"⟩, 46) := ⟨⟨by decide +kernel, by decide +kernel⟩, List.mem_of_getElem? (i := 1230) (by decide +kernel), List.mem_of_getElem? (i := 1449) (by decide +kernel), List.mem_of_getElem? (i := 1450) (by decide +kernel)⟩
theorem lw_p61 : lw_okq (⟨"SkyMarginsModel", "hasKind", "(III)Z"⟩, 46) := ⟨⟨by decide +kernel, by decide +kernel⟩, List.mem_of_getElem? (i := 1230) (by decide +kernel), List.mem_of_getElem? (i := 1453) (by decide +kernel), List.mem_of_getElem? (i := 1454) (by decide +kernel)⟩
theorem lw_p62 : lw_okq (⟨"SkyMarginsModel", "notes", "(IIIII)V"⟩, 46) := ⟨⟨by decide +kernel, by decide +kernel⟩, List.mem_of_getElem? (i := 1230) (by decide +kernel), List.mem_of_getElem? (i := 1457) (by decide +kernel), List.mem_of_getElem? (i := 1458) (by decide +kernel)⟩
theorem lw_p63 : lw_okq (⟨"SkyMarginsModel", "sharedBy", "(II)I"⟩, 46) := ⟨⟨by decide +kernel, by decide +kernel⟩, List.mem_of_getElem? (i := 1230) (by decide +kernel), List.mem_of_getElem? (i := 1465) (by decide +kernel), List.mem_of_getElem? (i := 1466) (by decide +kernel)⟩
def lw_privs_4 : List (MethodName × Nat) := [(⟨"SkyMargins$World", "drawOfHundred", "()I"⟩, 6), (⟨"SkyMargins$World", "put", "(II)V"⟩, 6), (⟨"SkyMargins$World", "writeNotes", "(LSkyMargins$Shelf;LSkyMargins$Asker;I)V"⟩, 6), (⟨"SkyMargins$World", "hasNote", "(II)Z"⟩, 6), (⟨"SkyMarginsModel", "refuses", "(I)I"⟩, 46), (⟨"SkyMarginsModel", "good", "(I)I"⟩, 46), (⟨"SkyMarginsModel", "copies", "()I"⟩, 46), (⟨"SkyMarginsModel", "isCopy", "(I)Z"⟩, 46), (⟨"SkyMarginsModel", "replaces", "(II)I"⟩, 46), (⟨"SkyMarginsModel", "isHand", "(I)Z"⟩, 46), (⟨"SkyMarginsModel", "hasIt", "(IIII)Z"⟩, 46), (⟨"SkyMarginsModel", "has", "(III)Z"⟩, 46), (⟨"SkyMarginsModel", "noteOf", "(II)I"⟩, 46), (⟨"SkyMarginsModel", "hasKind", "(III)Z"⟩, 46), (⟨"SkyMarginsModel", "notes", "(IIIII)V"⟩, 46), (⟨"SkyMarginsModel", "sharedBy", "(II)I"⟩, 46)]
theorem lw_r4 : ∀ q ∈ lw_privs_4, lw_okq q := List.forall_mem_cons.mpr ⟨lw_p48, List.forall_mem_cons.mpr ⟨lw_p49, List.forall_mem_cons.mpr ⟨lw_p50, List.forall_mem_cons.mpr ⟨lw_p51, List.forall_mem_cons.mpr ⟨lw_p52, List.forall_mem_cons.mpr ⟨lw_p53, List.forall_mem_cons.mpr ⟨lw_p54, List.forall_mem_cons.mpr ⟨lw_p55, List.forall_mem_cons.mpr ⟨lw_p56, List.forall_mem_cons.mpr ⟨lw_p57, List.forall_mem_cons.mpr ⟨lw_p58, List.forall_mem_cons.mpr ⟨lw_p59, List.forall_mem_cons.mpr ⟨lw_p60, List.forall_mem_cons.mpr ⟨lw_p61, List.forall_mem_cons.mpr ⟨lw_p62, List.forall_mem_cons.mpr ⟨lw_p63, fun _ h => absurd h List.not_mem_nil⟩⟩⟩⟩⟩⟩⟩⟩⟩⟩⟩⟩⟩⟩⟩⟩
theorem lw_p64 : lw_okq (⟨"SkyMarginsModel", "reads", "()Z"⟩, 46) := ⟨⟨by decide +kernel, by decide +kernel⟩, List.mem_of_getElem? (i := 1230) (by decide +kernel), List.mem_of_getElem? (i := 1493) (by decide +kernel), List.mem_of_getElem? (i := 1494) (by decide +kernel)⟩
theorem lw_p65 : lw_okq (⟨"SkyMarginsModel", "splits", "(I)V"⟩, 46) := ⟨⟨by decide +kernel, by decide +kernel⟩, List.mem_of_getElem? (i := 1230) (by decide +kernel), List.mem_of_getElem? (i := 1497) (by decide +kernel), List.mem_of_getElem? (i := 1498) (by decide +kernel)⟩
theorem lw_p66 : lw_okq (⟨"SkyMarginsModel", "wordOf", "(II)I"⟩, 46) := ⟨⟨by decide +kernel, by decide +kernel⟩, List.mem_of_getElem? (i := 1230) (by decide +kernel), List.mem_of_getElem? (i := 1507) (by decide +kernel), List.mem_of_getElem? (i := 1508) (by decide +kernel)⟩
theorem lw_p67 : lw_okq (⟨"SkyMarginsModel", "readClause", "()V"⟩, 46) := ⟨⟨by decide +kernel, by decide +kernel⟩, List.mem_of_getElem? (i := 1230) (by decide +kernel), List.mem_of_getElem? (i := 1512) (by decide +kernel), List.mem_of_getElem? (i := 1513) (by decide +kernel)⟩
theorem lw_p68 : lw_okq (⟨"SkyMarginsModel", "takes", "(I)Z"⟩, 46) := ⟨⟨by decide +kernel, by decide +kernel⟩, List.mem_of_getElem? (i := 1230) (by decide +kernel), List.mem_of_getElem? (i := 1516) (by decide +kernel), List.mem_of_getElem? (i := 1517) (by decide +kernel)⟩
theorem lw_p69 : lw_okq (⟨"SkyMarginsModel", "fine", "()Z"⟩, 46) := ⟨⟨by decide +kernel, by decide +kernel⟩, List.mem_of_getElem? (i := 1230) (by decide +kernel), List.mem_of_getElem? (i := 1520) (by decide +kernel), List.mem_of_getElem? (i := 1521) (by decide +kernel)⟩
theorem lw_p70 : lw_okq (⟨"SkyMarginsModel", "readSum", "(I)V"⟩, 46) := ⟨⟨by decide +kernel, by decide +kernel⟩, List.mem_of_getElem? (i := 1230) (by decide +kernel), List.mem_of_getElem? (i := 1524) (by decide +kernel), List.mem_of_getElem? (i := 1525) (by decide +kernel)⟩
theorem lw_p71 : lw_okq (⟨"SkyMarginsModel", "readTerm", "(I)V"⟩, 46) := ⟨⟨by decide +kernel, by decide +kernel⟩, List.mem_of_getElem? (i := 1230) (by decide +kernel), List.mem_of_getElem? (i := 1528) (by decide +kernel), List.mem_of_getElem? (i := 1529) (by decide +kernel)⟩
theorem lw_p72 : lw_okq (⟨"SkyMarginsModel", "readPart", "(I)V"⟩, 46) := ⟨⟨by decide +kernel, by decide +kernel⟩, List.mem_of_getElem? (i := 1230) (by decide +kernel), List.mem_of_getElem? (i := 1532) (by decide +kernel), List.mem_of_getElem? (i := 1533) (by decide +kernel)⟩
theorem lw_p73 : lw_okq (⟨"SkyMarginsModel", "faults", "()V"⟩, 46) := ⟨⟨by decide +kernel, by decide +kernel⟩, List.mem_of_getElem? (i := 1230) (by decide +kernel), List.mem_of_getElem? (i := 1539) (by decide +kernel), List.mem_of_getElem? (i := 1540) (by decide +kernel)⟩
theorem lw_p74 : lw_okq (⟨"SkyMarginsModel", "must", "(I)V"⟩, 46) := ⟨⟨by decide +kernel, by decide +kernel⟩, List.mem_of_getElem? (i := 1230) (by decide +kernel), List.mem_of_getElem? (i := 1543) (by decide +kernel), List.mem_of_getElem? (i := 1544) (by decide +kernel)⟩
theorem lw_p75 : lw_okq (⟨"SkyMarginsModel", "leaf", "()V"⟩, 46) := ⟨⟨by decide +kernel, by decide +kernel⟩, List.mem_of_getElem? (i := 1230) (by decide +kernel), List.mem_of_getElem? (i := 1547) (by decide +kernel), List.mem_of_getElem? (i := 1548) (by decide +kernel)⟩
theorem lw_p76 : lw_okq (⟨"SkyMarginsModel", "readTest", "(I)V"⟩, 46) := ⟨⟨by decide +kernel, by decide +kernel⟩, List.mem_of_getElem? (i := 1230) (by decide +kernel), List.mem_of_getElem? (i := 1551) (by decide +kernel), List.mem_of_getElem? (i := 1552) (by decide +kernel)⟩
theorem lw_p77 : lw_okq (⟨"SkyMarginsModel", "readBoth", "(I)V"⟩, 46) := ⟨⟨by decide +kernel, by decide +kernel⟩, List.mem_of_getElem? (i := 1230) (by decide +kernel), List.mem_of_getElem? (i := 1555) (by decide +kernel), List.mem_of_getElem? (i := 1556) (by decide +kernel)⟩
theorem lw_p78 : lw_okq (⟨"SkyMarginsModel", "readPlain", "(I)V"⟩, 46) := ⟨⟨by decide +kernel, by decide +kernel⟩, List.mem_of_getElem? (i := 1230) (by decide +kernel), List.mem_of_getElem? (i := 1559) (by decide +kernel), List.mem_of_getElem? (i := 1560) (by decide +kernel)⟩
theorem lw_p79 : lw_okq (⟨"SkyMarginsModel", "isText", "(I)Z"⟩, 46) := ⟨⟨by decide +kernel, by decide +kernel⟩, List.mem_of_getElem? (i := 1230) (by decide +kernel), List.mem_of_getElem? (i := 1571) (by decide +kernel), List.mem_of_getElem? (i := 1572) (by decide +kernel)⟩
def lw_privs_5 : List (MethodName × Nat) := [(⟨"SkyMarginsModel", "reads", "()Z"⟩, 46), (⟨"SkyMarginsModel", "splits", "(I)V"⟩, 46), (⟨"SkyMarginsModel", "wordOf", "(II)I"⟩, 46), (⟨"SkyMarginsModel", "readClause", "()V"⟩, 46), (⟨"SkyMarginsModel", "takes", "(I)Z"⟩, 46), (⟨"SkyMarginsModel", "fine", "()Z"⟩, 46), (⟨"SkyMarginsModel", "readSum", "(I)V"⟩, 46), (⟨"SkyMarginsModel", "readTerm", "(I)V"⟩, 46), (⟨"SkyMarginsModel", "readPart", "(I)V"⟩, 46), (⟨"SkyMarginsModel", "faults", "()V"⟩, 46), (⟨"SkyMarginsModel", "must", "(I)V"⟩, 46), (⟨"SkyMarginsModel", "leaf", "()V"⟩, 46), (⟨"SkyMarginsModel", "readTest", "(I)V"⟩, 46), (⟨"SkyMarginsModel", "readBoth", "(I)V"⟩, 46), (⟨"SkyMarginsModel", "readPlain", "(I)V"⟩, 46), (⟨"SkyMarginsModel", "isText", "(I)Z"⟩, 46)]
theorem lw_r5 : ∀ q ∈ lw_privs_5, lw_okq q := List.forall_mem_cons.mpr ⟨lw_p64, List.forall_mem_cons.mpr ⟨lw_p65, List.forall_mem_cons.mpr ⟨lw_p66, List.forall_mem_cons.mpr ⟨lw_p67, List.forall_mem_cons.mpr ⟨lw_p68, List.forall_mem_cons.mpr ⟨lw_p69, List.forall_mem_cons.mpr ⟨lw_p70, List.forall_mem_cons.mpr ⟨lw_p71, List.forall_mem_cons.mpr ⟨lw_p72, List.forall_mem_cons.mpr ⟨lw_p73, List.forall_mem_cons.mpr ⟨lw_p74, List.forall_mem_cons.mpr ⟨lw_p75, List.forall_mem_cons.mpr ⟨lw_p76, List.forall_mem_cons.mpr ⟨lw_p77, List.forall_mem_cons.mpr ⟨lw_p78, List.forall_mem_cons.mpr ⟨lw_p79, fun _ h => absurd h List.not_mem_nil⟩⟩⟩⟩⟩⟩⟩⟩⟩⟩⟩⟩⟩⟩⟩⟩
theorem lw_p80 : lw_okq (⟨"SkyMarginsModel", "weightOf", "(II)I"⟩, 46) := ⟨⟨by decide +kernel, by decide +kernel⟩, List.mem_of_getElem? (i := 1230) (by decide +kernel), List.mem_of_getElem? (i := 1579) (by decide +kernel), List.mem_of_getElem? (i := 1580) (by decide +kernel)⟩
theorem lw_p81 : lw_okq (⟨"SkyMarginsModel", "bare", "()V"⟩, 46) := ⟨⟨by decide +kernel, by decide +kernel⟩, List.mem_of_getElem? (i := 1230) (by decide +kernel), List.mem_of_getElem? (i := 1583) (by decide +kernel), List.mem_of_getElem? (i := 1584) (by decide +kernel)⟩
theorem lw_p82 : lw_okq (⟨"SkyMarginsModel", "asks", "(II)V"⟩, 46) := ⟨⟨by decide +kernel, by decide +kernel⟩, List.mem_of_getElem? (i := 1230) (by decide +kernel), List.mem_of_getElem? (i := 1587) (by decide +kernel), List.mem_of_getElem? (i := 1588) (by decide +kernel)⟩
theorem lw_p83 : lw_okq (⟨"SkyMarginsModel", "codeAt", "(I)I"⟩, 46) := ⟨⟨by decide +kernel, by decide +kernel⟩, List.mem_of_getElem? (i := 1230) (by decide +kernel), List.mem_of_getElem? (i := 1591) (by decide +kernel), List.mem_of_getElem? (i := 1592) (by decide +kernel)⟩
theorem lw_p84 : lw_okq (⟨"SkyMarginsModel", "sumOf", "(Z)J"⟩, 46) := ⟨⟨by decide +kernel, by decide +kernel⟩, List.mem_of_getElem? (i := 1230) (by decide +kernel), List.mem_of_getElem? (i := 1595) (by decide +kernel), List.mem_of_getElem? (i := 1596) (by decide +kernel)⟩
theorem lw_p85 : lw_okq (⟨"SkyMarginsModel", "termOf", "(Z)J"⟩, 46) := ⟨⟨by decide +kernel, by decide +kernel⟩, List.mem_of_getElem? (i := 1230) (by decide +kernel), List.mem_of_getElem? (i := 1599) (by decide +kernel), List.mem_of_getElem? (i := 1600) (by decide +kernel)⟩
theorem lw_p86 : lw_okq (⟨"SkyMarginsModel", "partOf", "(Z)J"⟩, 46) := ⟨⟨by decide +kernel, by decide +kernel⟩, List.mem_of_getElem? (i := 1230) (by decide +kernel), List.mem_of_getElem? (i := 1603) (by decide +kernel), List.mem_of_getElem? (i := 1604) (by decide +kernel)⟩
theorem lw_p87 : lw_okq (⟨"SkyMarginsModel", "passes", "(I)Z"⟩, 46) := ⟨⟨by decide +kernel, by decide +kernel⟩, List.mem_of_getElem? (i := 1230) (by decide +kernel), List.mem_of_getElem? (i := 1607) (by decide +kernel), List.mem_of_getElem? (i := 1608) (by decide +kernel)⟩
theorem lw_p88 : lw_okq (⟨"SkyMarginsModel", "bounded", "(JZ)J"⟩, 46) := ⟨⟨by decide +kernel, by decide +kernel⟩, List.mem_of_getElem? (i := 1230) (by decide +kernel), List.mem_of_getElem? (i := 1611) (by decide +kernel), List.mem_of_getElem? (i := 1612) (by decide +kernel)⟩
theorem lw_p89 : lw_okq (⟨"SkyMarginsModel", "testOf", "(Z)Z"⟩, 46) := ⟨⟨by decide +kernel, by decide +kernel⟩, List.mem_of_getElem? (i := 1230) (by decide +kernel), List.mem_of_getElem? (i := 1617) (by decide +kernel), List.mem_of_getElem? (i := 1618) (by decide +kernel)⟩
theorem lw_p90 : lw_okq (⟨"SkyMarginsModel", "bothOf", "(Z)Z"⟩, 46) := ⟨⟨by decide +kernel, by decide +kernel⟩, List.mem_of_getElem? (i := 1230) (by decide +kernel), List.mem_of_getElem? (i := 1621) (by decide +kernel), List.mem_of_getElem? (i := 1622) (by decide +kernel)⟩
theorem lw_p91 : lw_okq (⟨"SkyMarginsModel", "plainOf", "(Z)Z"⟩, 46) := ⟨⟨by decide +kernel, by decide +kernel⟩, List.mem_of_getElem? (i := 1230) (by decide +kernel), List.mem_of_getElem? (i := 1625) (by decide +kernel), List.mem_of_getElem? (i := 1626) (by decide +kernel)⟩
theorem lw_p92 : lw_okq (⟨"SkyMarginsModel", "positiveOf", "(Z)Z"⟩, 46) := ⟨⟨by decide +kernel, by decide +kernel⟩, List.mem_of_getElem? (i := 1230) (by decide +kernel), List.mem_of_getElem? (i := 1629) (by decide +kernel), List.mem_of_getElem? (i := 1630) (by decide +kernel)⟩
theorem lw_p93 : lw_okq (⟨"SkyMarginsModel", "canMeet", "(II)Z"⟩, 46) := ⟨⟨by decide +kernel, by decide +kernel⟩, List.mem_of_getElem? (i := 1230) (by decide +kernel), List.mem_of_getElem? (i := 1638) (by decide +kernel), List.mem_of_getElem? (i := 1639) (by decide +kernel)⟩
theorem lw_p94 : lw_okq (⟨"SkyMarginsModel", "hasStays", "(I)Z"⟩, 46) := ⟨⟨by decide +kernel, by decide +kernel⟩, List.mem_of_getElem? (i := 1230) (by decide +kernel), List.mem_of_getElem? (i := 1642) (by decide +kernel), List.mem_of_getElem? (i := 1643) (by decide +kernel)⟩
theorem lw_p95 : lw_okq (⟨"SkyMarginsModel", "stayOf", "(II)I"⟩, 46) := ⟨⟨by decide +kernel, by decide +kernel⟩, List.mem_of_getElem? (i := 1230) (by decide +kernel), List.mem_of_getElem? (i := 1646) (by decide +kernel), List.mem_of_getElem? (i := 1647) (by decide +kernel)⟩
def lw_privs_6 : List (MethodName × Nat) := [(⟨"SkyMarginsModel", "weightOf", "(II)I"⟩, 46), (⟨"SkyMarginsModel", "bare", "()V"⟩, 46), (⟨"SkyMarginsModel", "asks", "(II)V"⟩, 46), (⟨"SkyMarginsModel", "codeAt", "(I)I"⟩, 46), (⟨"SkyMarginsModel", "sumOf", "(Z)J"⟩, 46), (⟨"SkyMarginsModel", "termOf", "(Z)J"⟩, 46), (⟨"SkyMarginsModel", "partOf", "(Z)J"⟩, 46), (⟨"SkyMarginsModel", "passes", "(I)Z"⟩, 46), (⟨"SkyMarginsModel", "bounded", "(JZ)J"⟩, 46), (⟨"SkyMarginsModel", "testOf", "(Z)Z"⟩, 46), (⟨"SkyMarginsModel", "bothOf", "(Z)Z"⟩, 46), (⟨"SkyMarginsModel", "plainOf", "(Z)Z"⟩, 46), (⟨"SkyMarginsModel", "positiveOf", "(Z)Z"⟩, 46), (⟨"SkyMarginsModel", "canMeet", "(II)Z"⟩, 46), (⟨"SkyMarginsModel", "hasStays", "(I)Z"⟩, 46), (⟨"SkyMarginsModel", "stayOf", "(II)I"⟩, 46)]
theorem lw_r6 : ∀ q ∈ lw_privs_6, lw_okq q := List.forall_mem_cons.mpr ⟨lw_p80, List.forall_mem_cons.mpr ⟨lw_p81, List.forall_mem_cons.mpr ⟨lw_p82, List.forall_mem_cons.mpr ⟨lw_p83, List.forall_mem_cons.mpr ⟨lw_p84, List.forall_mem_cons.mpr ⟨lw_p85, List.forall_mem_cons.mpr ⟨lw_p86, List.forall_mem_cons.mpr ⟨lw_p87, List.forall_mem_cons.mpr ⟨lw_p88, List.forall_mem_cons.mpr ⟨lw_p89, List.forall_mem_cons.mpr ⟨lw_p90, List.forall_mem_cons.mpr ⟨lw_p91, List.forall_mem_cons.mpr ⟨lw_p92, List.forall_mem_cons.mpr ⟨lw_p93, List.forall_mem_cons.mpr ⟨lw_p94, List.forall_mem_cons.mpr ⟨lw_p95, fun _ h => absurd h List.not_mem_nil⟩⟩⟩⟩⟩⟩⟩⟩⟩⟩⟩⟩⟩⟩⟩⟩
theorem lw_p96 : lw_okq (⟨"SkyMarginsModel", "weighs", "()V"⟩, 46) := ⟨⟨by decide +kernel, by decide +kernel⟩, List.mem_of_getElem? (i := 1230) (by decide +kernel), List.mem_of_getElem? (i := 1654) (by decide +kernel), List.mem_of_getElem? (i := 1655) (by decide +kernel)⟩
theorem lw_p97 : lw_okq (⟨"SkyMarginsModel", "costAlone", "(I)I"⟩, 46) := ⟨⟨by decide +kernel, by decide +kernel⟩, List.mem_of_getElem? (i := 1230) (by decide +kernel), List.mem_of_getElem? (i := 1658) (by decide +kernel), List.mem_of_getElem? (i := 1659) (by decide +kernel)⟩
theorem lw_p98 : lw_okq (⟨"SkyMarginsModel", "term", "(I)I"⟩, 46) := ⟨⟨by decide +kernel, by decide +kernel⟩, List.mem_of_getElem? (i := 1230) (by decide +kernel), List.mem_of_getElem? (i := 1662) (by decide +kernel), List.mem_of_getElem? (i := 1663) (by decide +kernel)⟩
theorem lw_p99 : lw_okq (⟨"SkyMarginsModel", "costFrom", "(III)I"⟩, 46) := ⟨⟨by decide +kernel, by decide +kernel⟩, List.mem_of_getElem? (i := 1230) (by decide +kernel), List.mem_of_getElem? (i := 1666) (by decide +kernel), List.mem_of_getElem? (i := 1667) (by decide +kernel)⟩
theorem lw_p100 : lw_okq (⟨"SkyMarginsModel", "laysCosts", "()V"⟩, 46) := ⟨⟨by decide +kernel, by decide +kernel⟩, List.mem_of_getElem? (i := 1230) (by decide +kernel), List.mem_of_getElem? (i := 1674) (by decide +kernel), List.mem_of_getElem? (i := 1675) (by decide +kernel)⟩
theorem lw_p101 : lw_okq (⟨"SkyMarginsModel", "cheapest", "()I"⟩, 46) := ⟨⟨by decide +kernel, by decide +kernel⟩, List.mem_of_getElem? (i := 1230) (by decide +kernel), List.mem_of_getElem? (i := 1678) (by decide +kernel), List.mem_of_getElem? (i := 1679) (by decide +kernel)⟩
theorem lw_p102 : lw_okq (⟨"SkyMarginsModel", "cheapestOf", "(II)I"⟩, 46) := ⟨⟨by decide +kernel, by decide +kernel⟩, List.mem_of_getElem? (i := 1230) (by decide +kernel), List.mem_of_getElem? (i := 1683) (by decide +kernel), List.mem_of_getElem? (i := 1684) (by decide +kernel)⟩
theorem lw_p103 : lw_okq (⟨"SkyMarginsModel", "grows", "()V"⟩, 46) := ⟨⟨by decide +kernel, by decide +kernel⟩, List.mem_of_getElem? (i := 1230) (by decide +kernel), List.mem_of_getElem? (i := 1691) (by decide +kernel), List.mem_of_getElem? (i := 1692) (by decide +kernel)⟩
theorem lw_p104 : lw_okq (⟨"SkyMarginsModel", "stepsOf", "(I)I"⟩, 46) := ⟨⟨by decide +kernel, by decide +kernel⟩, List.mem_of_getElem? (i := 1230) (by decide +kernel), List.mem_of_getElem? (i := 1703) (by decide +kernel), List.mem_of_getElem? (i := 1704) (by decide +kernel)⟩
theorem lw_p105 : lw_okq (⟨"SkyMarginsModel", "comesOf", "(II)Z"⟩, 46) := ⟨⟨by decide +kernel, by decide +kernel⟩, List.mem_of_getElem? (i := 1230) (by decide +kernel), List.mem_of_getElem? (i := 1707) (by decide +kernel), List.mem_of_getElem? (i := 1708) (by decide +kernel)⟩
theorem lw_p106 : lw_okq (⟨"SkyMarginsModel", "agreeOf", "(II)I"⟩, 46) := ⟨⟨by decide +kernel, by decide +kernel⟩, List.mem_of_getElem? (i := 1230) (by decide +kernel), List.mem_of_getElem? (i := 1720) (by decide +kernel), List.mem_of_getElem? (i := 1721) (by decide +kernel)⟩
theorem lw_p107 : lw_okq (⟨"SkyMarginsModel", "joinsAll", "(I)V"⟩, 46) := ⟨⟨by decide +kernel, by decide +kernel⟩, List.mem_of_getElem? (i := 1230) (by decide +kernel), List.mem_of_getElem? (i := 1728) (by decide +kernel), List.mem_of_getElem? (i := 1729) (by decide +kernel)⟩
theorem lw_p108 : lw_okq (⟨"SkyMarginsModel", "familiesBut", "(I)I"⟩, 46) := ⟨⟨by decide +kernel, by decide +kernel⟩, List.mem_of_getElem? (i := 1230) (by decide +kernel), List.mem_of_getElem? (i := 1732) (by decide +kernel), List.mem_of_getElem? (i := 1733) (by decide +kernel)⟩
theorem lw_p109 : lw_okq (⟨"SkyMarginsModel", "likens", "(III)V"⟩, 46) := ⟨⟨by decide +kernel, by decide +kernel⟩, List.mem_of_getElem? (i := 1230) (by decide +kernel), List.mem_of_getElem? (i := 1748) (by decide +kernel), List.mem_of_getElem? (i := 1749) (by decide +kernel)⟩
theorem lw_p110 : lw_okq (⟨"SkyMarginsModel", "handOf", "(II)I"⟩, 46) := ⟨⟨by decide +kernel, by decide +kernel⟩, List.mem_of_getElem? (i := 1230) (by decide +kernel), List.mem_of_getElem? (i := 1755) (by decide +kernel), List.mem_of_getElem? (i := 1756) (by decide +kernel)⟩
theorem lw_p111 : lw_okq (⟨"SkyMarginsModel", "formsOf", "(I)I"⟩, 46) := ⟨⟨by decide +kernel, by decide +kernel⟩, List.mem_of_getElem? (i := 1230) (by decide +kernel), List.mem_of_getElem? (i := 1763) (by decide +kernel), List.mem_of_getElem? (i := 1764) (by decide +kernel)⟩
def lw_privs_7 : List (MethodName × Nat) := [(⟨"SkyMarginsModel", "weighs", "()V"⟩, 46), (⟨"SkyMarginsModel", "costAlone", "(I)I"⟩, 46), (⟨"SkyMarginsModel", "term", "(I)I"⟩, 46), (⟨"SkyMarginsModel", "costFrom", "(III)I"⟩, 46), (⟨"SkyMarginsModel", "laysCosts", "()V"⟩, 46), (⟨"SkyMarginsModel", "cheapest", "()I"⟩, 46), (⟨"SkyMarginsModel", "cheapestOf", "(II)I"⟩, 46), (⟨"SkyMarginsModel", "grows", "()V"⟩, 46), (⟨"SkyMarginsModel", "stepsOf", "(I)I"⟩, 46), (⟨"SkyMarginsModel", "comesOf", "(II)Z"⟩, 46), (⟨"SkyMarginsModel", "agreeOf", "(II)I"⟩, 46), (⟨"SkyMarginsModel", "joinsAll", "(I)V"⟩, 46), (⟨"SkyMarginsModel", "familiesBut", "(I)I"⟩, 46), (⟨"SkyMarginsModel", "likens", "(III)V"⟩, 46), (⟨"SkyMarginsModel", "handOf", "(II)I"⟩, 46), (⟨"SkyMarginsModel", "formsOf", "(I)I"⟩, 46)]
theorem lw_r7 : ∀ q ∈ lw_privs_7, lw_okq q := List.forall_mem_cons.mpr ⟨lw_p96, List.forall_mem_cons.mpr ⟨lw_p97, List.forall_mem_cons.mpr ⟨lw_p98, List.forall_mem_cons.mpr ⟨lw_p99, List.forall_mem_cons.mpr ⟨lw_p100, List.forall_mem_cons.mpr ⟨lw_p101, List.forall_mem_cons.mpr ⟨lw_p102, List.forall_mem_cons.mpr ⟨lw_p103, List.forall_mem_cons.mpr ⟨lw_p104, List.forall_mem_cons.mpr ⟨lw_p105, List.forall_mem_cons.mpr ⟨lw_p106, List.forall_mem_cons.mpr ⟨lw_p107, List.forall_mem_cons.mpr ⟨lw_p108, List.forall_mem_cons.mpr ⟨lw_p109, List.forall_mem_cons.mpr ⟨lw_p110, List.forall_mem_cons.mpr ⟨lw_p111, fun _ h => absurd h List.not_mem_nil⟩⟩⟩⟩⟩⟩⟩⟩⟩⟩⟩⟩⟩⟩⟩⟩
theorem lw_p112 : lw_okq (⟨"SkyMarginsModel", "quotient", "()I"⟩, 46) := ⟨⟨by decide +kernel, by decide +kernel⟩, List.mem_of_getElem? (i := 1230) (by decide +kernel), List.mem_of_getElem? (i := 1767) (by decide +kernel), List.mem_of_getElem? (i := 1768) (by decide +kernel)⟩
theorem lw_p113 : lw_okq (⟨"SkyMarginsModel", "isIn", "(II)Z"⟩, 46) := ⟨⟨by decide +kernel, by decide +kernel⟩, List.mem_of_getElem? (i := 1230) (by decide +kernel), List.mem_of_getElem? (i := 1782) (by decide +kernel), List.mem_of_getElem? (i := 1783) (by decide +kernel)⟩
theorem lw_p114 : lw_okq (⟨"SkyMarginsModel", "fromOf", "(I)I"⟩, 46) := ⟨⟨by decide +kernel, by decide +kernel⟩, List.mem_of_getElem? (i := 1230) (by decide +kernel), List.mem_of_getElem? (i := 1790) (by decide +kernel), List.mem_of_getElem? (i := 1791) (by decide +kernel)⟩
theorem lw_p115 : lw_okq (⟨"SkyMarginsModel", "toOf", "(I)I"⟩, 46) := ⟨⟨by decide +kernel, by decide +kernel⟩, List.mem_of_getElem? (i := 1230) (by decide +kernel), List.mem_of_getElem? (i := 1794) (by decide +kernel), List.mem_of_getElem? (i := 1795) (by decide +kernel)⟩
theorem lw_p116 : lw_okq (⟨"SkyMarginsModel", "isNoted", "(II)Z"⟩, 46) := ⟨⟨by decide +kernel, by decide +kernel⟩, List.mem_of_getElem? (i := 1230) (by decide +kernel), List.mem_of_getElem? (i := 1802) (by decide +kernel), List.mem_of_getElem? (i := 1803) (by decide +kernel)⟩
theorem lw_p117 : lw_okq (⟨"SkyMarginsModel", "asksCopy", "(II)V"⟩, 46) := ⟨⟨by decide +kernel, by decide +kernel⟩, List.mem_of_getElem? (i := 1230) (by decide +kernel), List.mem_of_getElem? (i := 1810) (by decide +kernel), List.mem_of_getElem? (i := 1811) (by decide +kernel)⟩
theorem lw_p118 : lw_okq (⟨"SkyMarginsModel", "copyOf", "(II)I"⟩, 46) := ⟨⟨by decide +kernel, by decide +kernel⟩, List.mem_of_getElem? (i := 1230) (by decide +kernel), List.mem_of_getElem? (i := 1814) (by decide +kernel), List.mem_of_getElem? (i := 1815) (by decide +kernel)⟩
theorem lw_p119 : lw_okq (⟨"SkyMarginsModel", "hundredth", "(I)I"⟩, 46) := ⟨⟨by decide +kernel, by decide +kernel⟩, List.mem_of_getElem? (i := 1230) (by decide +kernel), List.mem_of_getElem? (i := 1818) (by decide +kernel), List.mem_of_getElem? (i := 1819) (by decide +kernel)⟩
theorem lw_p120 : lw_okq (⟨"SkyMarginsModel", "chanceOf", "(II)V"⟩, 46) := ⟨⟨by decide +kernel, by decide +kernel⟩, List.mem_of_getElem? (i := 1230) (by decide +kernel), List.mem_of_getElem? (i := 1822) (by decide +kernel), List.mem_of_getElem? (i := 1823) (by decide +kernel)⟩
theorem lw_p121 : lw_okq (⟨"SkyMarginsModel", "isOn", "(II)Z"⟩, 46) := ⟨⟨by decide +kernel, by decide +kernel⟩, List.mem_of_getElem? (i := 1230) (by decide +kernel), List.mem_of_getElem? (i := 1833) (by decide +kernel), List.mem_of_getElem? (i := 1834) (by decide +kernel)⟩
theorem lw_p122 : lw_okq (⟨"SkyMarginsModel", "isStruck", "(II)Z"⟩, 46) := ⟨⟨by decide +kernel, by decide +kernel⟩, List.mem_of_getElem? (i := 1230) (by decide +kernel), List.mem_of_getElem? (i := 1845) (by decide +kernel), List.mem_of_getElem? (i := 1846) (by decide +kernel)⟩
theorem lw_p123 : lw_okq (⟨"SkyMarginsModel", "draw", "(II)V"⟩, 46) := ⟨⟨by decide +kernel, by decide +kernel⟩, List.mem_of_getElem? (i := 1230) (by decide +kernel), List.mem_of_getElem? (i := 1861) (by decide +kernel), List.mem_of_getElem? (i := 1862) (by decide +kernel)⟩
theorem lw_p124 : lw_okq (⟨"SkyMarginsModel", "draws", "(I)I"⟩, 46) := ⟨⟨by decide +kernel, by decide +kernel⟩, List.mem_of_getElem? (i := 1230) (by decide +kernel), List.mem_of_getElem? (i := 1865) (by decide +kernel), List.mem_of_getElem? (i := 1866) (by decide +kernel)⟩
theorem lw_p125 : lw_okq (⟨"SkyMarginsModel", "hasWorld", "(II)Z"⟩, 46) := ⟨⟨by decide +kernel, by decide +kernel⟩, List.mem_of_getElem? (i := 1230) (by decide +kernel), List.mem_of_getElem? (i := 1876) (by decide +kernel), List.mem_of_getElem? (i := 1877) (by decide +kernel)⟩
def lw_privs_8 : List (MethodName × Nat) := [(⟨"SkyMarginsModel", "quotient", "()I"⟩, 46), (⟨"SkyMarginsModel", "isIn", "(II)Z"⟩, 46), (⟨"SkyMarginsModel", "fromOf", "(I)I"⟩, 46), (⟨"SkyMarginsModel", "toOf", "(I)I"⟩, 46), (⟨"SkyMarginsModel", "isNoted", "(II)Z"⟩, 46), (⟨"SkyMarginsModel", "asksCopy", "(II)V"⟩, 46), (⟨"SkyMarginsModel", "copyOf", "(II)I"⟩, 46), (⟨"SkyMarginsModel", "hundredth", "(I)I"⟩, 46), (⟨"SkyMarginsModel", "chanceOf", "(II)V"⟩, 46), (⟨"SkyMarginsModel", "isOn", "(II)Z"⟩, 46), (⟨"SkyMarginsModel", "isStruck", "(II)Z"⟩, 46), (⟨"SkyMarginsModel", "draw", "(II)V"⟩, 46), (⟨"SkyMarginsModel", "draws", "(I)I"⟩, 46), (⟨"SkyMarginsModel", "hasWorld", "(II)Z"⟩, 46)]
theorem lw_r8 : ∀ q ∈ lw_privs_8, lw_okq q := List.forall_mem_cons.mpr ⟨lw_p112, List.forall_mem_cons.mpr ⟨lw_p113, List.forall_mem_cons.mpr ⟨lw_p114, List.forall_mem_cons.mpr ⟨lw_p115, List.forall_mem_cons.mpr ⟨lw_p116, List.forall_mem_cons.mpr ⟨lw_p117, List.forall_mem_cons.mpr ⟨lw_p118, List.forall_mem_cons.mpr ⟨lw_p119, List.forall_mem_cons.mpr ⟨lw_p120, List.forall_mem_cons.mpr ⟨lw_p121, List.forall_mem_cons.mpr ⟨lw_p122, List.forall_mem_cons.mpr ⟨lw_p123, List.forall_mem_cons.mpr ⟨lw_p124, List.forall_mem_cons.mpr ⟨lw_p125, fun _ h => absurd h List.not_mem_nil⟩⟩⟩⟩⟩⟩⟩⟩⟩⟩⟩⟩⟩⟩
def lw_privs : List (MethodName × Nat) := lw_privs_1 ++ (lw_privs_2 ++ (lw_privs_3 ++ (lw_privs_4 ++ (lw_privs_5 ++ (lw_privs_6 ++ (lw_privs_7 ++ (lw_privs_8)))))))
def lw_tbl : List Cond := k2_sels lw_privs ++ tables_1
theorem lw_privs_ok : ∀ q ∈ lw_privs, lw_okq q := by
  show ∀ q ∈ lw_privs_1 ++ (lw_privs_2 ++ (lw_privs_3 ++ (lw_privs_4 ++ (lw_privs_5 ++ (lw_privs_6 ++ (lw_privs_7 ++ (lw_privs_8))))))), lw_okq q
  exact List.forall_mem_append.mpr ⟨lw_r1, List.forall_mem_append.mpr ⟨lw_r2, List.forall_mem_append.mpr ⟨lw_r3, List.forall_mem_append.mpr ⟨lw_r4, List.forall_mem_append.mpr ⟨lw_r5, List.forall_mem_append.mpr ⟨lw_r6, List.forall_mem_append.mpr ⟨lw_r7, lw_r8⟩⟩⟩⟩⟩⟩⟩

def RX0 : String := "SkyMargins$Asker"
def TX0 : u_T := fun k => match k with
  | 0 => ("SkyMargins$Asker", "asked", "[I", true)
  | 1 => ("SkyMargins$Asker", "stack", "[J", true)
  | _ => ("SkyMargins$Asker", "broken", "Z", false)
def tyX0 : Nat → FieldType := fun k => match k with
  | 0 => .array .int
  | 1 => .array .long
  | _ => .boolean
abbrev wsX00 : List Cond := u_ws RX0 TX0 3
theorem nmX0 : ∀ a, a < 3 → ∀ b, b < 3 → a ≠ b → (TX0 a).2.1 ≠ (TX0 b).2.1 := by decide +kernel
theorem tyX0_ok : ∀ k, k < 3 → parseFieldDescriptor (TX0 k).2.2.1 = some (tyX0 k) := by decide +kernel
abbrev cX0_init : ByteArray := prog_2_method_1_code
def yX0_init : MethodName := ⟨RX0, "<init>", "()V"⟩
abbrev cX0_askOfPlace : ByteArray := prog_2_method_2_code
def yX0_askOfPlace : MethodName := ⟨RX0, "askOfPlace", "(I)V"⟩
abbrev cX0_askOfWording : ByteArray := prog_2_method_3_code
def yX0_askOfWording : MethodName := ⟨RX0, "askOfWording", "(III)V"⟩
abbrev cX0_askOfNote : ByteArray := prog_2_method_4_code
def yX0_askOfNote : MethodName := ⟨RX0, "askOfNote", "(LSkyMargins$Shelf;II)V"⟩
abbrev cX0_askOfChapter : ByteArray := prog_2_method_5_code
def yX0_askOfChapter : MethodName := ⟨RX0, "askOfChapter", "(LSkyMargins$Shelf;II)V"⟩
abbrev cX0_askOfCopy : ByteArray := prog_2_method_6_code
def yX0_askOfCopy : MethodName := ⟨RX0, "askOfCopy", "(LSkyMargins$Shelf;I)V"⟩
abbrev cX0_told : ByteArray := prog_2_method_7_code
def yX0_told : MethodName := ⟨RX0, "told", "(LSkyMargins$Text;II)I"⟩
abbrev cX0_holdsIn : ByteArray := prog_2_method_8_code
def yX0_holdsIn : MethodName := ⟨RX0, "holdsIn", "(LSkyMargins$Text;I)Z"⟩
abbrev cX0_passes : ByteArray := prog_2_method_9_code
def yX0_passes : MethodName := ⟨RX0, "passes", "(LSkyMargins$Text;II)Z"⟩
abbrev cX0_work : ByteArray := prog_2_method_10_code
def yX0_work : MethodName := ⟨RX0, "work", "(LSkyMargins$Text;II)J"⟩
abbrev cX0_askedOf : ByteArray := prog_2_method_11_code
def yX0_askedOf : MethodName := ⟨RX0, "askedOf", "(I)I"⟩
abbrev cX0_combined : ByteArray := prog_2_method_12_code
def yX0_combined : MethodName := ⟨RX0, "combined", "(IJJ)J"⟩
def RX1 : String := "SkyMargins$Big"
def TX1 : u_T := fun k => match k with
  | 0 => ("SkyMargins$Big", "limbs", "[J", true)
  | _ => ("SkyMargins$Big", "size", "I", false)
def tyX1 : Nat → FieldType := fun k => match k with
  | 0 => .array .long
  | _ => .int
abbrev wsX10 : List Cond := u_ws RX1 TX1 2
theorem nmX1 : ∀ a, a < 2 → ∀ b, b < 2 → a ≠ b → (TX1 a).2.1 ≠ (TX1 b).2.1 := by decide +kernel
theorem tyX1_ok : ∀ k, k < 2 → parseFieldDescriptor (TX1 k).2.2.1 = some (tyX1 k) := by decide +kernel
abbrev cX1_init : ByteArray := prog_3_method_1_code
def yX1_init : MethodName := ⟨RX1, "<init>", "()V"⟩
abbrev cX1_become : ByteArray := prog_3_method_2_code
def yX1_become : MethodName := ⟨RX1, "become", "(I)V"⟩
abbrev cX1_takeFrom : ByteArray := prog_3_method_3_code
def yX1_takeFrom : MethodName := ⟨RX1, "takeFrom", "(LSkyMargins$Big;)V"⟩
abbrev cX1_isZero : ByteArray := prog_3_method_4_code
def yX1_isZero : MethodName := ⟨RX1, "isZero", "()Z"⟩
abbrev cX1_multiply : ByteArray := prog_3_method_5_code
def yX1_multiply : MethodName := ⟨RX1, "multiply", "(J)V"⟩
abbrev cX1_multiplyOften : ByteArray := prog_3_method_6_code
def yX1_multiplyOften : MethodName := ⟨RX1, "multiplyOften", "(II)V"⟩
abbrev cX1_add : ByteArray := prog_3_method_7_code
def yX1_add : MethodName := ⟨RX1, "add", "(LSkyMargins$Big;)V"⟩
abbrev cX1_isMoreThan : ByteArray := prog_3_method_8_code
def yX1_isMoreThan : MethodName := ⟨RX1, "isMoreThan", "(LSkyMargins$Big;)Z"⟩
def RX2 : String := "SkyMargins$Odds"
def TX2 : u_T := fun k => match k with
  | 0 => ("SkyMargins$Odds", "top", "LSkyMargins$Big;", true)
  | 1 => ("SkyMargins$Odds", "bottom", "LSkyMargins$Big;", true)
  | 2 => ("SkyMargins$Odds", "product", "LSkyMargins$Big;", true)
  | 3 => ("SkyMargins$Odds", "reads", "[I", true)
  | _ => ("SkyMargins$Odds", "notes", "[I", true)
def tyX2 : Nat → FieldType := fun k => match k with
  | 0 => .object "SkyMargins$Big"
  | 1 => .object "SkyMargins$Big"
  | 2 => .object "SkyMargins$Big"
  | 3 => .array .int
  | _ => .array .int
abbrev wsX20 : List Cond := u_ws RX2 TX2 5
theorem nmX2 : ∀ a, a < 5 → ∀ b, b < 5 → a ≠ b → (TX2 a).2.1 ≠ (TX2 b).2.1 := by decide +kernel
theorem tyX2_ok : ∀ k, k < 5 → parseFieldDescriptor (TX2 k).2.2.1 = some (tyX2 k) := by decide +kernel
abbrev cX2_init : ByteArray := prog_4_method_1_code
def yX2_init : MethodName := ⟨RX2, "<init>", "()V"⟩
abbrev cX2_timesAsLikely : ByteArray := prog_4_method_2_code
def yX2_timesAsLikely : MethodName := ⟨RX2, "timesAsLikely", "(LSkyMargins$Shelf;III)I"⟩
abbrev cX2_likeliestHand : ByteArray := prog_4_method_3_code
def yX2_likeliestHand : MethodName := ⟨RX2, "likeliestHand", "(LSkyMargins$Shelf;I)I"⟩
abbrev cX2_weigh : ByteArray := prog_4_method_4_code
def yX2_weigh : MethodName := ⟨RX2, "weigh", "(LSkyMargins$Shelf;III)V"⟩
abbrev cX2_weighFactor : ByteArray := prog_4_method_5_code
def yX2_weighFactor : MethodName := ⟨RX2, "weighFactor", "(III)V"⟩
abbrev cX2_commonFactor : ByteArray := prog_4_method_6_code
def yX2_commonFactor : MethodName := ⟨RX2, "commonFactor", "(II)I"⟩
abbrev cX2_topThroughBottom : ByteArray := prog_4_method_7_code
def yX2_topThroughBottom : MethodName := ⟨RX2, "topThroughBottom", "()I"⟩
abbrev cX2_chanceRead : ByteArray := prog_4_method_8_code
def yX2_chanceRead : MethodName := ⟨RX2, "chanceRead", "(LSkyMargins$Shelf;LSkyMargins$Asker;II)I"⟩
abbrev cX2_weighRead : ByteArray := prog_4_method_9_code
def yX2_weighRead : MethodName := ⟨RX2, "weighRead", "(II)V"⟩
def RX3 : String := "SkyMargins$Parser"
def TX3 : u_T := fun k => match k with
  | 0 => ("SkyMargins$Parser", "codes", "[I", true)
  | 1 => ("SkyMargins$Parser", "tape", "LSkyMargins$Tape;", true)
  | 2 => ("SkyMargins$Parser", "length", "I", false)
  | 3 => ("SkyMargins$Parser", "start", "I", false)
  | 4 => ("SkyMargins$Parser", "stop", "I", false)
  | 5 => ("SkyMargins$Parser", "token", "I", false)
  | 6 => ("SkyMargins$Parser", "value", "I", false)
  | 7 => ("SkyMargins$Parser", "parts", "I", false)
  | _ => ("SkyMargins$Parser", "fault", "I", false)
def tyX3 : Nat → FieldType := fun k => match k with
  | 0 => .array .int
  | 1 => .object "SkyMargins$Tape"
  | 2 => .int
  | 3 => .int
  | 4 => .int
  | 5 => .int
  | 6 => .int
  | 7 => .int
  | _ => .int
abbrev wsX30 : List Cond := u_ws RX3 TX3 9
theorem nmX3 : ∀ a, a < 9 → ∀ b, b < 9 → a ≠ b → (TX3 a).2.1 ≠ (TX3 b).2.1 := by decide +kernel
theorem tyX3_ok : ∀ k, k < 9 → parseFieldDescriptor (TX3 k).2.2.1 = some (tyX3 k) := by decide +kernel
abbrev cX3_init : ByteArray := prog_5_method_1_code
def yX3_init : MethodName := ⟨RX3, "<init>", "(LSkyMargins$Tape;)V"⟩
abbrev cX3_faultPlace : ByteArray := prog_5_method_2_code
def yX3_faultPlace : MethodName := ⟨RX3, "faultPlace", "()I"⟩
abbrev cX3_compile : ByteArray := prog_5_method_3_code
def yX3_compile : MethodName := ⟨RX3, "compile", "()LSkyMargins$Text;"⟩
abbrev cX3_fail : ByteArray := prog_5_method_4_code
def yX3_fail : MethodName := ⟨RX3, "fail", "()Z"⟩
abbrev cX3_readClause : ByteArray := prog_5_method_5_code
def yX3_readClause : MethodName := ⟨RX3, "readClause", "()Z"⟩
abbrev cX3_readTest : ByteArray := prog_5_method_6_code
def yX3_readTest : MethodName := ⟨RX3, "readTest", "(I)Z"⟩
abbrev cX3_readBoth : ByteArray := prog_5_method_7_code
def yX3_readBoth : MethodName := ⟨RX3, "readBoth", "(I)Z"⟩
abbrev cX3_readPlain : ByteArray := prog_5_method_8_code
def yX3_readPlain : MethodName := ⟨RX3, "readPlain", "(I)Z"⟩
abbrev cX3_readSum : ByteArray := prog_5_method_9_code
def yX3_readSum : MethodName := ⟨RX3, "readSum", "(I)Z"⟩
abbrev cX3_readTerm : ByteArray := prog_5_method_10_code
def yX3_readTerm : MethodName := ⟨RX3, "readTerm", "(I)Z"⟩
abbrev cX3_readPart : ByteArray := prog_5_method_11_code
def yX3_readPart : MethodName := ⟨RX3, "readPart", "(I)Z"⟩
abbrev cX3_openBracket : ByteArray := prog_5_method_12_code
def yX3_openBracket : MethodName := ⟨RX3, "openBracket", "(I)Z"⟩
abbrev cX3_takeSign : ByteArray := prog_5_method_13_code
def yX3_takeSign : MethodName := ⟨RX3, "takeSign", "(I)Z"⟩
abbrev cX3_advance : ByteArray := prog_5_method_14_code
def yX3_advance : MethodName := ⟨RX3, "advance", "()V"⟩
abbrev cX3_wordNumber : ByteArray := prog_5_method_15_code
def yX3_wordNumber : MethodName := ⟨RX3, "wordNumber", "()I"⟩
abbrev cX3_isLetter : ByteArray := prog_5_method_16_code
def yX3_isLetter : MethodName := ⟨RX3, "isLetter", "(I)Z"⟩
abbrev cX3_isDigit : ByteArray := prog_5_method_17_code
def yX3_isDigit : MethodName := ⟨RX3, "isDigit", "(I)Z"⟩
abbrev cX3_emit : ByteArray := prog_5_method_18_code
def yX3_emit : MethodName := ⟨RX3, "emit", "(I)V"⟩
abbrev cX3_emitJump : ByteArray := prog_5_method_19_code
def yX3_emitJump : MethodName := ⟨RX3, "emitJump", "(I)I"⟩
abbrev cX3_patch : ByteArray := prog_5_method_20_code
def yX3_patch : MethodName := ⟨RX3, "patch", "(I)V"⟩
def RX4 : String := "SkyMargins$Readings"
def TX4 : u_T := fun k => match k with
  | 0 => ("SkyMargins$Readings", "places", "[I", true)
  | 1 => ("SkyMargins$Readings", "wordings", "[I", true)
  | 2 => ("SkyMargins$Readings", "holders", "[I", true)
  | 3 => ("SkyMargins$Readings", "weights", "[I", true)
  | 4 => ("SkyMargins$Readings", "firstAt", "[I", true)
  | 5 => ("SkyMargins$Readings", "after", "[I", true)
  | 6 => ("SkyMargins$Readings", "cutAt", "[I", true)
  | 7 => ("SkyMargins$Readings", "near", "[I", true)
  | _ => ("SkyMargins$Readings", "size", "I", false)
def tyX4 : Nat → FieldType := fun k => match k with
  | 0 => .array .int
  | 1 => .array .int
  | 2 => .array .int
  | 3 => .array .int
  | 4 => .array .int
  | 5 => .array .int
  | 6 => .array .int
  | 7 => .array .int
  | _ => .int
abbrev wsX40 : List Cond := u_ws RX4 TX4 9
theorem nmX4 : ∀ a, a < 9 → ∀ b, b < 9 → a ≠ b → (TX4 a).2.1 ≠ (TX4 b).2.1 := by decide +kernel
theorem tyX4_ok : ∀ k, k < 9 → parseFieldDescriptor (TX4 k).2.2.1 = some (tyX4 k) := by decide +kernel
abbrev cX4_init : ByteArray := prog_6_method_1_code
def yX4_init : MethodName := ⟨RX4, "<init>", "()V"⟩
abbrev cX4_gather : ByteArray := prog_6_method_2_code
def yX4_gather : MethodName := ⟨RX4, "gather", "(LSkyMargins$Shelf;LSkyMargins$Asker;)V"⟩
abbrev cX4_addHolder : ByteArray := prog_6_method_3_code
def yX4_addHolder : MethodName := ⟨RX4, "addHolder", "(III)V"⟩
abbrev cX4_find : ByteArray := prog_6_method_4_code
def yX4_find : MethodName := ⟨RX4, "find", "(II)I"⟩
abbrev cX4_holdersOf : ByteArray := prog_6_method_5_code
def yX4_holdersOf : MethodName := ⟨RX4, "holdersOf", "(II)I"⟩
abbrev cX4_sharedOf : ByteArray := prog_6_method_6_code
def yX4_sharedOf : MethodName := ⟨RX4, "sharedOf", "(LSkyMargins$Shelf;I)I"⟩
abbrev cX4_ownCost : ByteArray := prog_6_method_7_code
def yX4_ownCost : MethodName := ⟨RX4, "ownCost", "(LSkyMargins$Shelf;I)I"⟩
abbrev cX4_costFrom : ByteArray := prog_6_method_8_code
def yX4_costFrom : MethodName := ⟨RX4, "costFrom", "(LSkyMargins$Shelf;II)I"⟩
abbrev cX4_bestPair : ByteArray := prog_6_method_9_code
def yX4_bestPair : MethodName := ⟨RX4, "bestPair", "(LSkyMargins$Shelf;I)I"⟩
abbrev cX4_bestSingleCost : ByteArray := prog_6_method_10_code
def yX4_bestSingleCost : MethodName := ⟨RX4, "bestSingleCost", "(LSkyMargins$Shelf;I)I"⟩
abbrev cX4_agreement : ByteArray := prog_6_method_11_code
def yX4_agreement : MethodName := ⟨RX4, "agreement", "(II)I"⟩
abbrev cX4_familiesOf : ByteArray := prog_6_method_12_code
def yX4_familiesOf : MethodName := ⟨RX4, "familiesOf", "(LSkyMargins$Shelf;II)I"⟩
abbrev cX4_familyOf : ByteArray := prog_6_method_13_code
def yX4_familyOf : MethodName := ⟨RX4, "familyOf", "(LSkyMargins$Shelf;II)I"⟩
abbrev cX4_findNear : ByteArray := prog_6_method_14_code
def yX4_findNear : MethodName := ⟨RX4, "findNear", "(LSkyMargins$Shelf;)V"⟩
abbrev cX4_spread : ByteArray := prog_6_method_15_code
def yX4_spread : MethodName := ⟨RX4, "spread", "(II)I"⟩
def RX5 : String := "SkyMargins$Shelf"
def TX5 : u_T := fun k => match k with
  | 0 => ("SkyMargins$Shelf", "copies", "LSkyMargins$Table;", true)
  | 1 => ("SkyMargins$Shelf", "stays", "LSkyMargins$Table;", true)
  | 2 => ("SkyMargins$Shelf", "hands", "LSkyMargins$Table;", true)
  | 3 => ("SkyMargins$Shelf", "samples", "LSkyMargins$Table;", true)
  | 4 => ("SkyMargins$Shelf", "notes", "LSkyMargins$Table;", true)
  | 5 => ("SkyMargins$Shelf", "terms", "[I", true)
  | 6 => ("SkyMargins$Shelf", "texts", "[LSkyMargins$Text;", true)
  | 7 => ("SkyMargins$Shelf", "textCount", "I", false)
  | _ => ("SkyMargins$Shelf", "used", "I", false)
def tyX5 : Nat → FieldType := fun k => match k with
  | 0 => .object "SkyMargins$Table"
  | 1 => .object "SkyMargins$Table"
  | 2 => .object "SkyMargins$Table"
  | 3 => .object "SkyMargins$Table"
  | 4 => .object "SkyMargins$Table"
  | 5 => .array .int
  | 6 => .array (.object "SkyMargins$Text")
  | 7 => .int
  | _ => .int
abbrev wsX50 : List Cond := u_ws RX5 TX5 9
theorem nmX5 : ∀ a, a < 9 → ∀ b, b < 9 → a ≠ b → (TX5 a).2.1 ≠ (TX5 b).2.1 := by decide +kernel
theorem tyX5_ok : ∀ k, k < 9 → parseFieldDescriptor (TX5 k).2.2.1 = some (tyX5 k) := by decide +kernel
abbrev cX5_init : ByteArray := prog_7_method_1_code
def yX5_init : MethodName := ⟨RX5, "<init>", "()V"⟩
abbrev cX5_takeFrom : ByteArray := prog_7_method_2_code
def yX5_takeFrom : MethodName := ⟨RX5, "takeFrom", "(LSkyMargins$Shelf;)V"⟩
abbrev cX5_addText : ByteArray := prog_7_method_3_code
def yX5_addText : MethodName := ⟨RX5, "addText", "(LSkyMargins$Text;)I"⟩
abbrev cX5_textOf : ByteArray := prog_7_method_4_code
def yX5_textOf : MethodName := ⟨RX5, "textOf", "(I)LSkyMargins$Text;"⟩
abbrev cX5_textUsed : ByteArray := prog_7_method_5_code
def yX5_textUsed : MethodName := ⟨RX5, "textUsed", "()LSkyMargins$Text;"⟩
abbrev cX5_allCopies : ByteArray := prog_7_method_6_code
def yX5_allCopies : MethodName := ⟨RX5, "allCopies", "()I"⟩
abbrev cX5_copiesLookedAt : ByteArray := prog_7_method_7_code
def yX5_copiesLookedAt : MethodName := ⟨RX5, "copiesLookedAt", "()I"⟩
abbrev cX5_isHandOrUnknown : ByteArray := prog_7_method_8_code
def yX5_isHandOrUnknown : MethodName := ⟨RX5, "isHandOrUnknown", "(I)Z"⟩
abbrev cX5_hasNote : ByteArray := prog_7_method_9_code
def yX5_hasNote : MethodName := ⟨RX5, "hasNote", "(IIII)Z"⟩
abbrev cX5_addNote : ByteArray := prog_7_method_10_code
def yX5_addNote : MethodName := ⟨RX5, "addNote", "(IIIII)I"⟩
abbrev cX5_notesWritten : ByteArray := prog_7_method_11_code
def yX5_notesWritten : MethodName := ⟨RX5, "notesWritten", "()I"⟩
abbrev cX5_copiesWithHand : ByteArray := prog_7_method_12_code
def yX5_copiesWithHand : MethodName := ⟨RX5, "copiesWithHand", "(I)I"⟩
abbrev cX5_placesOfKind : ByteArray := prog_7_method_13_code
def yX5_placesOfKind : MethodName := ⟨RX5, "placesOfKind", "(II)J"⟩
abbrev cX5_chaptersWritten : ByteArray := prog_7_method_14_code
def yX5_chaptersWritten : MethodName := ⟨RX5, "chaptersWritten", "(I)I"⟩
abbrev cX5_companions : ByteArray := prog_7_method_15_code
def yX5_companions : MethodName := ⟨RX5, "companions", "(I)I"⟩
abbrev cX5_metDuring : ByteArray := prog_7_method_16_code
def yX5_metDuring : MethodName := ⟨RX5, "metDuring", "(II)Z"⟩
abbrev cX5_firstYear : ByteArray := prog_7_method_17_code
def yX5_firstYear : MethodName := ⟨RX5, "firstYear", "(I)I"⟩
abbrev cX5_lastYear : ByteArray := prog_7_method_18_code
def yX5_lastYear : MethodName := ⟨RX5, "lastYear", "(I)I"⟩
abbrev cX5_handsIn : ByteArray := prog_7_method_19_code
def yX5_handsIn : MethodName := ⟨RX5, "handsIn", "(I)I"⟩
def RX6 : String := "SkyMargins$Stemma"
def TX6 : u_T := fun k => match k with
  | 0 => ("SkyMargins$Stemma", "costs", "[I", true)
  | 1 => ("SkyMargins$Stemma", "edges", "[J", true)
  | 2 => ("SkyMargins$Stemma", "merged", "[J", true)
  | 3 => ("SkyMargins$Stemma", "nearest", "[I", true)
  | 4 => ("SkyMargins$Stemma", "group", "[I", true)
  | 5 => ("SkyMargins$Stemma", "seen", "[I", true)
  | 6 => ("SkyMargins$Stemma", "exemplars", "[I", true)
  | 7 => ("SkyMargins$Stemma", "knots", "I", false)
  | _ => ("SkyMargins$Stemma", "least", "I", false)
def tyX6 : Nat → FieldType := fun k => match k with
  | 0 => .array .int
  | 1 => .array .long
  | 2 => .array .long
  | 3 => .array .int
  | 4 => .array .int
  | 5 => .array .int
  | 6 => .array .int
  | 7 => .int
  | _ => .int
abbrev wsX60 : List Cond := u_ws RX6 TX6 9
theorem nmX6 : ∀ a, a < 9 → ∀ b, b < 9 → a ≠ b → (TX6 a).2.1 ≠ (TX6 b).2.1 := by decide +kernel
theorem tyX6_ok : ∀ k, k < 9 → parseFieldDescriptor (TX6 k).2.2.1 = some (tyX6 k) := by decide +kernel
abbrev cX6_init : ByteArray := prog_8_method_1_code
def yX6_init : MethodName := ⟨RX6, "<init>", "()V"⟩
abbrev cX6_leastCost : ByteArray := prog_8_method_2_code
def yX6_leastCost : MethodName := ⟨RX6, "leastCost", "()I"⟩
abbrev cX6_exemplarOf : ByteArray := prog_8_method_3_code
def yX6_exemplarOf : MethodName := ⟨RX6, "exemplarOf", "(I)I"⟩
abbrev cX6_stepsFromNobody : ByteArray := prog_8_method_4_code
def yX6_stepsFromNobody : MethodName := ⟨RX6, "stepsFromNobody", "(I)I"⟩
abbrev cX6_comesOf : ByteArray := prog_8_method_5_code
def yX6_comesOf : MethodName := ⟨RX6, "comesOf", "(II)Z"⟩
abbrev cX6_grow : ByteArray := prog_8_method_6_code
def yX6_grow : MethodName := ⟨RX6, "grow", "(LSkyMargins$Shelf;LSkyMargins$Readings;)V"⟩
abbrev cX6_isSure : ByteArray := prog_8_method_7_code
def yX6_isSure : MethodName := ⟨RX6, "isSure", "(I)Z"⟩
abbrev cX6_findCosts : ByteArray := prog_8_method_8_code
def yX6_findCosts : MethodName := ⟨RX6, "findCosts", "(LSkyMargins$Shelf;LSkyMargins$Readings;)V"⟩
abbrev cX6_leastSum : ByteArray := prog_8_method_9_code
def yX6_leastSum : MethodName := ⟨RX6, "leastSum", "()J"⟩
abbrev cX6_nearestTo : ByteArray := prog_8_method_10_code
def yX6_nearestTo : MethodName := ⟨RX6, "nearestTo", "(II)I"⟩
abbrev cX6_findGroups : ByteArray := prog_8_method_11_code
def yX6_findGroups : MethodName := ⟨RX6, "findGroups", "(I)I"⟩
abbrev cX6_mergeGroups : ByteArray := prog_8_method_12_code
def yX6_mergeGroups : MethodName := ⟨RX6, "mergeGroups", "(I)V"⟩
def RX7 : String := "SkyMargins$Table"
def TX7 : u_T := fun k => match k with
  | 0 => ("SkyMargins$Table", "cells", "[I", true)
  | 1 => ("SkyMargins$Table", "width", "I", true)
  | 2 => ("SkyMargins$Table", "most", "I", true)
  | _ => ("SkyMargins$Table", "rows", "I", false)
def tyX7 : Nat → FieldType := fun k => match k with
  | 0 => .array .int
  | 1 => .int
  | 2 => .int
  | _ => .int
abbrev wsX70 : List Cond := u_ws RX7 TX7 4
theorem nmX7 : ∀ a, a < 4 → ∀ b, b < 4 → a ≠ b → (TX7 a).2.1 ≠ (TX7 b).2.1 := by decide +kernel
theorem tyX7_ok : ∀ k, k < 4 → parseFieldDescriptor (TX7 k).2.2.1 = some (tyX7 k) := by decide +kernel
abbrev cX7_init : ByteArray := prog_9_method_1_code
def yX7_init : MethodName := ⟨RX7, "<init>", "(II)V"⟩
abbrev cX7_size : ByteArray := prog_9_method_2_code
def yX7_size : MethodName := ⟨RX7, "size", "()I"⟩
abbrev cX7_holds : ByteArray := prog_9_method_3_code
def yX7_holds : MethodName := ⟨RX7, "holds", "(I)Z"⟩
abbrev cX7_open : ByteArray := prog_9_method_4_code
def yX7_open : MethodName := ⟨RX7, "open", "()I"⟩
abbrev cX7_at : ByteArray := prog_9_method_5_code
def yX7_at : MethodName := ⟨RX7, "at", "(II)I"⟩
abbrev cX7_put : ByteArray := prog_9_method_6_code
def yX7_put : MethodName := ⟨RX7, "put", "(III)I"⟩
abbrev cX7_takeFrom : ByteArray := prog_9_method_7_code
def yX7_takeFrom : MethodName := ⟨RX7, "takeFrom", "(LSkyMargins$Table;)V"⟩
def RX8 : String := "SkyMargins$Tape"
def TX8 : u_T := fun k => match k with
  | 0 => ("SkyMargins$Tape", "bytes", "[I", true)
  | _ => ("SkyMargins$Tape", "size", "I", false)
def tyX8 : Nat → FieldType := fun k => match k with
  | 0 => .array .int
  | _ => .int
abbrev wsX80 : List Cond := u_ws RX8 TX8 2
theorem nmX8 : ∀ a, a < 2 → ∀ b, b < 2 → a ≠ b → (TX8 a).2.1 ≠ (TX8 b).2.1 := by decide +kernel
theorem tyX8_ok : ∀ k, k < 2 → parseFieldDescriptor (TX8 k).2.2.1 = some (tyX8 k) := by decide +kernel
abbrev cX8_init : ByteArray := prog_10_method_1_code
def yX8_init : MethodName := ⟨RX8, "<init>", "()V"⟩
abbrev cX8_size : ByteArray := prog_10_method_2_code
def yX8_size : MethodName := ⟨RX8, "size", "()I"⟩
abbrev cX8_hasRoomFor : ByteArray := prog_10_method_3_code
def yX8_hasRoomFor : MethodName := ⟨RX8, "hasRoomFor", "(I)Z"⟩
abbrev cX8_putNumber : ByteArray := prog_10_method_4_code
def yX8_putNumber : MethodName := ⟨RX8, "putNumber", "(I)V"⟩
abbrev cX8_shorten : ByteArray := prog_10_method_5_code
def yX8_shorten : MethodName := ⟨RX8, "shorten", "(I)V"⟩
abbrev cX8_byteAt : ByteArray := prog_10_method_6_code
def yX8_byteAt : MethodName := ⟨RX8, "byteAt", "(I)I"⟩
def RX9 : String := "SkyMargins$Text"
def TX9 : u_T := fun k => match k with
  | _ => ("SkyMargins$Text", "codes", "[I", true)
def tyX9 : Nat → FieldType := fun k => match k with
  | _ => .array .int
abbrev wsX90 : List Cond := u_ws RX9 TX9 1
theorem nmX9 : ∀ a, a < 1 → ∀ b, b < 1 → a ≠ b → (TX9 a).2.1 ≠ (TX9 b).2.1 := by decide +kernel
theorem tyX9_ok : ∀ k, k < 1 → parseFieldDescriptor (TX9 k).2.2.1 = some (tyX9 k) := by decide +kernel
abbrev cX9_init : ByteArray := prog_11_method_1_code
def yX9_init : MethodName := ⟨RX9, "<init>", "([II)V"⟩
abbrev cX9_length : ByteArray := prog_11_method_2_code
def yX9_length : MethodName := ⟨RX9, "length", "()I"⟩
abbrev cX9_codeAt : ByteArray := prog_11_method_3_code
def yX9_codeAt : MethodName := ⟨RX9, "codeAt", "(I)I"⟩
def RX10 : String := "SkyMargins$World"
def TX10 : u_T := fun k => match k with
  | 0 => ("SkyMargins$World", "held", "[I", true)
  | 1 => ("SkyMargins$World", "sizes", "[I", true)
  | 2 => ("SkyMargins$World", "copied", "[I", true)
  | 3 => ("SkyMargins$World", "copies", "I", false)
  | 4 => ("SkyMargins$World", "newest", "I", false)
  | _ => ("SkyMargins$World", "state", "J", false)
def tyX10 : Nat → FieldType := fun k => match k with
  | 0 => .array .int
  | 1 => .array .int
  | 2 => .array .int
  | 3 => .int
  | 4 => .int
  | _ => .long
abbrev wsX100 : List Cond := u_ws RX10 TX10 6
theorem nmX10 : ∀ a, a < 6 → ∀ b, b < 6 → a ≠ b → (TX10 a).2.1 ≠ (TX10 b).2.1 := by decide +kernel
theorem tyX10_ok : ∀ k, k < 6 → parseFieldDescriptor (TX10 k).2.2.1 = some (tyX10 k) := by decide +kernel
abbrev cX10_init : ByteArray := prog_12_method_1_code
def yX10_init : MethodName := ⟨RX10, "<init>", "()V"⟩
abbrev cX10_hasCopy : ByteArray := prog_12_method_2_code
def yX10_hasCopy : MethodName := ⟨RX10, "hasCopy", "(I)Z"⟩
abbrev cX10_notesOf : ByteArray := prog_12_method_3_code
def yX10_notesOf : MethodName := ⟨RX10, "notesOf", "(I)I"⟩
abbrev cX10_notesCopied : ByteArray := prog_12_method_4_code
def yX10_notesCopied : MethodName := ⟨RX10, "notesCopied", "(I)I"⟩
abbrev cX10_holdersOfFirst : ByteArray := prog_12_method_5_code
def yX10_holdersOfFirst : MethodName := ⟨RX10, "holdersOfFirst", "(I)I"⟩
abbrev cX10_hasNote : ByteArray := prog_12_method_6_code
def yX10_hasNote : MethodName := ⟨RX10, "hasNote", "(II)Z"⟩
abbrev cX10_draw : ByteArray := prog_12_method_7_code
def yX10_draw : MethodName := ⟨RX10, "draw", "(LSkyMargins$Shelf;LSkyMargins$Stemma;LSkyMargins$Asker;I)I"⟩
abbrev cX10_nextCopy : ByteArray := prog_12_method_8_code
def yX10_nextCopy : MethodName := ⟨RX10, "nextCopy", "(LSkyMargins$Stemma;I)I"⟩
abbrev cX10_takeNotes : ByteArray := prog_12_method_9_code
def yX10_takeNotes : MethodName := ⟨RX10, "takeNotes", "(LSkyMargins$Shelf;LSkyMargins$Asker;II)V"⟩
abbrev cX10_writeNotes : ByteArray := prog_12_method_10_code
def yX10_writeNotes : MethodName := ⟨RX10, "writeNotes", "(LSkyMargins$Shelf;LSkyMargins$Asker;I)V"⟩
abbrev cX10_put : ByteArray := prog_12_method_11_code
def yX10_put : MethodName := ⟨RX10, "put", "(II)V"⟩
abbrev cX10_drawOfHundred : ByteArray := prog_12_method_12_code
def yX10_drawOfHundred : MethodName := ⟨RX10, "drawOfHundred", "()I"⟩
def RX11 : String := "SkyMargins"
def TX11 : u_T := fun k => match k with
  | 0 => ("SkyMargins", "now", "LSkyMargins$Shelf;", true)
  | 1 => ("SkyMargins", "images", "[LSkyMargins$Shelf;", true)
  | 2 => ("SkyMargins", "imageKept", "[Z", true)
  | 3 => ("SkyMargins", "tape", "LSkyMargins$Tape;", true)
  | 4 => ("SkyMargins", "parser", "LSkyMargins$Parser;", true)
  | 5 => ("SkyMargins", "asker", "LSkyMargins$Asker;", true)
  | 6 => ("SkyMargins", "readings", "LSkyMargins$Readings;", true)
  | 7 => ("SkyMargins", "stemma", "LSkyMargins$Stemma;", true)
  | 8 => ("SkyMargins", "odds", "LSkyMargins$Odds;", true)
  | 9 => ("SkyMargins", "latest", "LSkyMargins$World;", true)
  | 10 => ("SkyMargins", "refused", "[I", true)
  | 11 => ("SkyMargins", "latestStatus", "I", false)
  | 12 => ("SkyMargins", "latestTrimmed", "I", false)
  | 13 => ("SkyMargins", "latestFault", "I", false)
  | 14 => ("SkyMargins", "readingsFresh", "Z", false)
  | _ => ("SkyMargins", "stemmaFresh", "Z", false)
def tyX11 : Nat → FieldType := fun k => match k with
  | 0 => .object "SkyMargins$Shelf"
  | 1 => .array (.object "SkyMargins$Shelf")
  | 2 => .array .boolean
  | 3 => .object "SkyMargins$Tape"
  | 4 => .object "SkyMargins$Parser"
  | 5 => .object "SkyMargins$Asker"
  | 6 => .object "SkyMargins$Readings"
  | 7 => .object "SkyMargins$Stemma"
  | 8 => .object "SkyMargins$Odds"
  | 9 => .object "SkyMargins$World"
  | 10 => .array .int
  | 11 => .int
  | 12 => .int
  | 13 => .int
  | 14 => .boolean
  | _ => .boolean
abbrev wsX110 : List Cond := u_ws RX11 TX11 16
theorem nmX11 : ∀ a, a < 16 → ∀ b, b < 16 → a ≠ b → (TX11 a).2.1 ≠ (TX11 b).2.1 := by decide +kernel
theorem tyX11_ok : ∀ k, k < 16 → parseFieldDescriptor (TX11 k).2.2.1 = some (tyX11 k) := by decide +kernel
abbrev cX11_init : ByteArray := prog_1_method_1_code
def yX11_init : MethodName := ⟨RX11, "<init>", "()V"⟩
abbrev cX11_copy : ByteArray := prog_1_method_2_code
def yX11_copy : MethodName := ⟨RX11, "copy", "(II)I"⟩
abbrev cX11_look : ByteArray := prog_1_method_3_code
def yX11_look : MethodName := ⟨RX11, "look", "(II)I"⟩
abbrev cX11_stay : ByteArray := prog_1_method_4_code
def yX11_stay : MethodName := ⟨RX11, "stay", "(IIII)I"⟩
abbrev cX11_hand : ByteArray := prog_1_method_5_code
def yX11_hand : MethodName := ⟨RX11, "hand", "(II)I"⟩
abbrev cX11_form : ByteArray := prog_1_method_6_code
def yX11_form : MethodName := ⟨RX11, "form", "(III)I"⟩
abbrev cX11_sample : ByteArray := prog_1_method_7_code
def yX11_sample : MethodName := ⟨RX11, "sample", "(III)I"⟩
abbrev cX11_note : ByteArray := prog_1_method_8_code
def yX11_note : MethodName := ⟨RX11, "note", "(IIIII)I"⟩
abbrev cX11_of : ByteArray := prog_1_method_9_code
def yX11_of : MethodName := ⟨RX11, "of", "(II)I"⟩
abbrev cX11_terms : ByteArray := prog_1_method_10_code
def yX11_terms : MethodName := ⟨RX11, "terms", "(II)I"⟩
abbrev cX11_feed : ByteArray := prog_1_method_11_code
def yX11_feed : MethodName := ⟨RX11, "feed", "(IIIII)I"⟩
abbrev cX11_end : ByteArray := prog_1_method_12_code
def yX11_end : MethodName := ⟨RX11, "end", "(I)I"⟩
abbrev cX11_row : ByteArray := prog_1_method_13_code
def yX11_row : MethodName := ⟨RX11, "row", "(I)I"⟩
abbrev cX11_trimmed : ByteArray := prog_1_method_14_code
def yX11_trimmed : MethodName := ⟨RX11, "trimmed", "()I"⟩
abbrev cX11_text : ByteArray := prog_1_method_15_code
def yX11_text : MethodName := ⟨RX11, "text", "()I"⟩
abbrev cX11_fault : ByteArray := prog_1_method_16_code
def yX11_fault : MethodName := ⟨RX11, "fault", "()I"⟩
abbrev cX11_use : ByteArray := prog_1_method_17_code
def yX11_use : MethodName := ⟨RX11, "use", "(I)I"⟩
abbrev cX11_weight : ByteArray := prog_1_method_18_code
def yX11_weight : MethodName := ⟨RX11, "weight", "(II)I"⟩
abbrev cX11_may : ByteArray := prog_1_method_19_code
def yX11_may : MethodName := ⟨RX11, "may", "(II)I"⟩
abbrev cX11_cost : ByteArray := prog_1_method_20_code
def yX11_cost : MethodName := ⟨RX11, "cost", "(II)I"⟩
abbrev cX11_tree : ByteArray := prog_1_method_21_code
def yX11_tree : MethodName := ⟨RX11, "tree", "()I"⟩
abbrev cX11_whose : ByteArray := prog_1_method_22_code
def yX11_whose : MethodName := ⟨RX11, "whose", "(I)I"⟩
abbrev cX11_sure : ByteArray := prog_1_method_23_code
def yX11_sure : MethodName := ⟨RX11, "sure", "(I)I"⟩
abbrev cX11_come : ByteArray := prog_1_method_24_code
def yX11_come : MethodName := ⟨RX11, "come", "(II)I"⟩
abbrev cX11_net : ByteArray := prog_1_method_25_code
def yX11_net : MethodName := ⟨RX11, "net", "(II)I"⟩
abbrev cX11_agree : ByteArray := prog_1_method_26_code
def yX11_agree : MethodName := ⟨RX11, "agree", "(II)I"⟩
abbrev cX11_families : ByteArray := prog_1_method_27_code
def yX11_families : MethodName := ⟨RX11, "families", "()I"⟩
abbrev cX11_family : ByteArray := prog_1_method_28_code
def yX11_family : MethodName := ⟨RX11, "family", "(I)I"⟩
abbrev cX11_joins : ByteArray := prog_1_method_29_code
def yX11_joins : MethodName := ⟨RX11, "joins", "(I)I"⟩
abbrev cX11_times : ByteArray := prog_1_method_30_code
def yX11_times : MethodName := ⟨RX11, "times", "(III)I"⟩
abbrev cX11_written : ByteArray := prog_1_method_31_code
def yX11_written : MethodName := ⟨RX11, "written", "(I)I"⟩
abbrev cX11_towns : ByteArray := prog_1_method_32_code
def yX11_towns : MethodName := ⟨RX11, "towns", "(I)I"⟩
abbrev cX11_dates : ByteArray := prog_1_method_33_code
def yX11_dates : MethodName := ⟨RX11, "dates", "(II)I"⟩
abbrev cX11_read : ByteArray := prog_1_method_34_code
def yX11_read : MethodName := ⟨RX11, "read", "(II)I"⟩
abbrev cX11_stops : ByteArray := prog_1_method_35_code
def yX11_stops : MethodName := ⟨RX11, "stops", "(II)I"⟩
abbrev cX11_many : ByteArray := prog_1_method_36_code
def yX11_many : MethodName := ⟨RX11, "many", "(II)I"⟩
abbrev cX11_chao : ByteArray := prog_1_method_37_code
def yX11_chao : MethodName := ⟨RX11, "chao", "()I"⟩
abbrev cX11_censor : ByteArray := prog_1_method_38_code
def yX11_censor : MethodName := ⟨RX11, "censor", "(III)I"⟩
abbrev cX11_late : ByteArray := prog_1_method_39_code
def yX11_late : MethodName := ⟨RX11, "late", "(II)I"⟩
abbrev cX11_next : ByteArray := prog_1_method_40_code
def yX11_next : MethodName := ⟨RX11, "next", "(I)I"⟩
abbrev cX11_run : ByteArray := prog_1_method_41_code
def yX11_run : MethodName := ⟨RX11, "run", "(I)I"⟩
abbrev cX11_world : ByteArray := prog_1_method_42_code
def yX11_world : MethodName := ⟨RX11, "world", "(II)I"⟩
abbrev cX11_image : ByteArray := prog_1_method_43_code
def yX11_image : MethodName := ⟨RX11, "image", "(I)I"⟩
abbrev cX11_back : ByteArray := prog_1_method_44_code
def yX11_back : MethodName := ⟨RX11, "back", "(I)I"⟩
abbrev cX11_count : ByteArray := prog_1_method_45_code
def yX11_count : MethodName := ⟨RX11, "count", "(I)I"⟩
abbrev cX11_status : ByteArray := prog_1_method_46_code
def yX11_status : MethodName := ⟨RX11, "status", "()I"⟩
abbrev cX11_refuse : ByteArray := prog_1_method_47_code
def yX11_refuse : MethodName := ⟨RX11, "refuse", "(I)I"⟩
abbrev cX11_accept : ByteArray := prog_1_method_48_code
def yX11_accept : MethodName := ⟨RX11, "accept", "(I)I"⟩
abbrev cX11_changed : ByteArray := prog_1_method_49_code
def yX11_changed : MethodName := ⟨RX11, "changed", "(I)I"⟩
abbrev cX11_freshReadings : ByteArray := prog_1_method_50_code
def yX11_freshReadings : MethodName := ⟨RX11, "freshReadings", "()LSkyMargins$Readings;"⟩
abbrev cX11_freshStemma : ByteArray := prog_1_method_51_code
def yX11_freshStemma : MethodName := ⟨RX11, "freshStemma", "()LSkyMargins$Stemma;"⟩
abbrev cX11_areTwoCopies : ByteArray := prog_1_method_52_code
def yX11_areTwoCopies : MethodName := ⟨RX11, "areTwoCopies", "(II)Z"⟩
abbrev cX11_takeFromRow : ByteArray := prog_1_method_53_code
def yX11_takeFromRow : MethodName := ⟨RX11, "takeFromRow", "(II)Z"⟩
abbrev cX11_firstYearByTree : ByteArray := prog_1_method_54_code
def yX11_firstYearByTree : MethodName := ⟨RX11, "firstYearByTree", "(LSkyMargins$Stemma;I)I"⟩
abbrev cX11_lastYearByTree : ByteArray := prog_1_method_55_code
def yX11_lastYearByTree : MethodName := ⟨RX11, "lastYearByTree", "(LSkyMargins$Stemma;I)I"⟩
abbrev cX11_placesStruck : ByteArray := prog_1_method_56_code
def yX11_placesStruck : MethodName := ⟨RX11, "placesStruck", "(LSkyMargins$Text;)J"⟩
abbrev cX11_toldOfCensor : ByteArray := prog_1_method_57_code
def yX11_toldOfCensor : MethodName := ⟨RX11, "toldOfCensor", "(IJI)I"⟩
abbrev cX11_within : ByteArray := prog_1_method_58_code
def yX11_within : MethodName := ⟨RX11, "within", "(III)Z"⟩
abbrev cX11_areYears : ByteArray := prog_1_method_59_code
def yX11_areYears : MethodName := ⟨RX11, "areYears", "(II)Z"⟩
abbrev cX11_isNote : ByteArray := prog_1_method_60_code
def yX11_isNote : MethodName := ⟨RX11, "isNote", "(III)Z"⟩
abbrev cX11_lastBit : ByteArray := prog_1_method_61_code
def yX11_lastBit : MethodName := ⟨RX11, "lastBit", "(I)I"⟩
def RX12 : String := "SkyMarginsModel"
def TX12 : u_T := fun k => match k with
  | 0 => ("SkyMarginsModel", "status", "I", false)
  | 1 => ("SkyMarginsModel", "version", "I", false)
  | 2 => ("SkyMarginsModel", "refused", "[I", true)
  | 3 => ("SkyMarginsModel", "kept", "[I", true)
  | 4 => ("SkyMarginsModel", "images", "[I", true)
  | 5 => ("SkyMarginsModel", "hasImage", "[Z", true)
  | 6 => ("SkyMarginsModel", "trimmed", "I", false)
  | 7 => ("SkyMarginsModel", "words", "[B", true)
  | 8 => ("SkyMarginsModel", "tape", "[B", true)
  | 9 => ("SkyMarginsModel", "five", "[I", true)
  | 10 => ("SkyMarginsModel", "taped", "I", false)
  | 11 => ("SkyMarginsModel", "fault", "I", false)
  | 12 => ("SkyMarginsModel", "code", "[I", true)
  | 13 => ("SkyMarginsModel", "value", "[I", true)
  | 14 => ("SkyMarginsModel", "placed", "[I", true)
  | 15 => ("SkyMarginsModel", "tokens", "I", false)
  | 16 => ("SkyMarginsModel", "token", "I", false)
  | 17 => ("SkyMarginsModel", "leaves", "I", false)
  | 18 => ("SkyMarginsModel", "bad", "I", false)
  | 19 => ("SkyMarginsModel", "go", "I", false)
  | 20 => ("SkyMarginsModel", "goEnd", "I", false)
  | 21 => ("SkyMarginsModel", "broken", "Z", false)
  | 22 => ("SkyMarginsModel", "asked", "[I", true)
  | 23 => ("SkyMarginsModel", "told", "J", false)
  | 24 => ("SkyMarginsModel", "isTold", "Z", false)
  | 25 => ("SkyMarginsModel", "weights", "[I", true)
  | 26 => ("SkyMarginsModel", "costs", "[I", true)
  | 27 => ("SkyMarginsModel", "lets", "[I", true)
  | 28 => ("SkyMarginsModel", "least", "[I", true)
  | 29 => ("SkyMarginsModel", "exemplars", "[I", true)
  | 30 => ("SkyMarginsModel", "treeCost", "I", false)
  | 31 => ("SkyMarginsModel", "grownBy", "I", false)
  | 32 => ("SkyMarginsModel", "near", "[Z", true)
  | 33 => ("SkyMarginsModel", "families", "[I", true)
  | 34 => ("SkyMarginsModel", "one", "[J", true)
  | 35 => ("SkyMarginsModel", "two", "[J", true)
  | 36 => ("SkyMarginsModel", "spare", "[J", true)
  | 37 => ("SkyMarginsModel", "goesOn", "[I", true)
  | 38 => ("SkyMarginsModel", "writes", "[I", true)
  | 39 => ("SkyMarginsModel", "chance", "[J", true)
  | 40 => ("SkyMarginsModel", "struck", "[Z", true)
  | 41 => ("SkyMarginsModel", "worldNotes", "[I", true)
  | 42 => ("SkyMarginsModel", "worldMany", "[I", true)
  | 43 => ("SkyMarginsModel", "worldFrom", "[I", true)
  | 44 => ("SkyMarginsModel", "worldCopies", "I", false)
  | _ => ("SkyMarginsModel", "drawn", "I", false)
def tyX12 : Nat → FieldType := fun k => match k with
  | 0 => .int
  | 1 => .int
  | 2 => .array .int
  | 3 => .array .int
  | 4 => .array .int
  | 5 => .array .boolean
  | 6 => .int
  | 7 => .array .byte
  | 8 => .array .byte
  | 9 => .array .int
  | 10 => .int
  | 11 => .int
  | 12 => .array .int
  | 13 => .array .int
  | 14 => .array .int
  | 15 => .int
  | 16 => .int
  | 17 => .int
  | 18 => .int
  | 19 => .int
  | 20 => .int
  | 21 => .boolean
  | 22 => .array .int
  | 23 => .long
  | 24 => .boolean
  | 25 => .array .int
  | 26 => .array .int
  | 27 => .array .int
  | 28 => .array .int
  | 29 => .array .int
  | 30 => .int
  | 31 => .int
  | 32 => .array .boolean
  | 33 => .array .int
  | 34 => .array .long
  | 35 => .array .long
  | 36 => .array .long
  | 37 => .array .int
  | 38 => .array .int
  | 39 => .array .long
  | 40 => .array .boolean
  | 41 => .array .int
  | 42 => .array .int
  | 43 => .array .int
  | 44 => .int
  | _ => .int
abbrev wsX120 : List Cond := u_ws RX12 TX12 46
theorem nmX12 : ∀ a, a < 46 → ∀ b, b < 46 → a ≠ b → (TX12 a).2.1 ≠ (TX12 b).2.1 := by decide +kernel
theorem tyX12_ok : ∀ k, k < 46 → parseFieldDescriptor (TX12 k).2.2.1 = some (tyX12 k) := by decide +kernel
abbrev cX12_lies : ByteArray := prog_14_method_1_code
def yX12_lies : MethodName := ⟨RX12, "lies", "(III)Z"⟩
abbrev cX12_refuses : ByteArray := prog_14_method_2_code
def yX12_refuses : MethodName := ⟨RX12, "refuses", "(I)I"⟩
abbrev cX12_good : ByteArray := prog_14_method_3_code
def yX12_good : MethodName := ⟨RX12, "good", "(I)I"⟩
abbrev cX12_init : ByteArray := prog_14_method_4_code
def yX12_init : MethodName := ⟨RX12, "<init>", "()V"⟩
abbrev cX12_image : ByteArray := prog_14_method_5_code
def yX12_image : MethodName := ⟨RX12, "image", "(I)I"⟩
abbrev cX12_back : ByteArray := prog_14_method_6_code
def yX12_back : MethodName := ⟨RX12, "back", "(I)I"⟩
abbrev cX12_term : ByteArray := prog_14_method_7_code
def yX12_term : MethodName := ⟨RX12, "term", "(I)I"⟩
abbrev cX12_copies : ByteArray := prog_14_method_8_code
def yX12_copies : MethodName := ⟨RX12, "copies", "()I"⟩
abbrev cX12_isCopy : ByteArray := prog_14_method_9_code
def yX12_isCopy : MethodName := ⟨RX12, "isCopy", "(I)Z"⟩
abbrev cX12_isHand : ByteArray := prog_14_method_10_code
def yX12_isHand : MethodName := ⟨RX12, "isHand", "(I)Z"⟩
abbrev cX12_isText : ByteArray := prog_14_method_11_code
def yX12_isText : MethodName := ⟨RX12, "isText", "(I)Z"⟩
abbrev cX12_copyOf : ByteArray := prog_14_method_12_code
def yX12_copyOf : MethodName := ⟨RX12, "copyOf", "(II)I"⟩
abbrev cX12_stayOf : ByteArray := prog_14_method_13_code
def yX12_stayOf : MethodName := ⟨RX12, "stayOf", "(II)I"⟩
abbrev cX12_handOf : ByteArray := prog_14_method_14_code
def yX12_handOf : MethodName := ⟨RX12, "handOf", "(II)I"⟩
abbrev cX12_noteOf : ByteArray := prog_14_method_15_code
def yX12_noteOf : MethodName := ⟨RX12, "noteOf", "(II)I"⟩
abbrev cX12_replaces : ByteArray := prog_14_method_16_code
def yX12_replaces : MethodName := ⟨RX12, "replaces", "(II)I"⟩
abbrev cX12_copy : ByteArray := prog_14_method_17_code
def yX12_copy : MethodName := ⟨RX12, "copy", "(II)I"⟩
abbrev cX12_look : ByteArray := prog_14_method_18_code
def yX12_look : MethodName := ⟨RX12, "look", "(II)I"⟩
abbrev cX12_areYears : ByteArray := prog_14_method_19_code
def yX12_areYears : MethodName := ⟨RX12, "areYears", "(II)Z"⟩
abbrev cX12_stay : ByteArray := prog_14_method_20_code
def yX12_stay : MethodName := ⟨RX12, "stay", "(IIII)I"⟩
abbrev cX12_hand : ByteArray := prog_14_method_21_code
def yX12_hand : MethodName := ⟨RX12, "hand", "(II)I"⟩
abbrev cX12_form : ByteArray := prog_14_method_22_code
def yX12_form : MethodName := ⟨RX12, "form", "(III)I"⟩
abbrev cX12_sample : ByteArray := prog_14_method_23_code
def yX12_sample : MethodName := ⟨RX12, "sample", "(III)I"⟩
abbrev cX12_has : ByteArray := prog_14_method_24_code
def yX12_has : MethodName := ⟨RX12, "has", "(III)Z"⟩
abbrev cX12_hasKind : ByteArray := prog_14_method_25_code
def yX12_hasKind : MethodName := ⟨RX12, "hasKind", "(III)Z"⟩
abbrev cX12_hasIt : ByteArray := prog_14_method_26_code
def yX12_hasIt : MethodName := ⟨RX12, "hasIt", "(IIII)Z"⟩
abbrev cX12_notes : ByteArray := prog_14_method_27_code
def yX12_notes : MethodName := ⟨RX12, "notes", "(IIIII)V"⟩
abbrev cX12_note : ByteArray := prog_14_method_28_code
def yX12_note : MethodName := ⟨RX12, "note", "(IIIII)I"⟩
abbrev cX12_sharedBy : ByteArray := prog_14_method_29_code
def yX12_sharedBy : MethodName := ⟨RX12, "sharedBy", "(II)I"⟩
abbrev cX12_of : ByteArray := prog_14_method_30_code
def yX12_of : MethodName := ⟨RX12, "of", "(II)I"⟩
abbrev cX12_terms : ByteArray := prog_14_method_31_code
def yX12_terms : MethodName := ⟨RX12, "terms", "(II)I"⟩
abbrev cX12_row : ByteArray := prog_14_method_32_code
def yX12_row : MethodName := ⟨RX12, "row", "(I)I"⟩
abbrev cX12_trimmed : ByteArray := prog_14_method_33_code
def yX12_trimmed : MethodName := ⟨RX12, "trimmed", "()I"⟩
abbrev cX12_feed : ByteArray := prog_14_method_34_code
def yX12_feed : MethodName := ⟨RX12, "feed", "(IIIII)I"⟩
abbrev cX12_end : ByteArray := prog_14_method_35_code
def yX12_end : MethodName := ⟨RX12, "end", "(I)I"⟩
abbrev cX12_isSmall : ByteArray := prog_14_method_36_code
def yX12_isSmall : MethodName := ⟨RX12, "isSmall", "(I)Z"⟩
abbrev cX12_isDigit : ByteArray := prog_14_method_37_code
def yX12_isDigit : MethodName := ⟨RX12, "isDigit", "(I)Z"⟩
abbrev cX12_wordOf : ByteArray := prog_14_method_38_code
def yX12_wordOf : MethodName := ⟨RX12, "wordOf", "(II)I"⟩
abbrev cX12_splits : ByteArray := prog_14_method_39_code
def yX12_splits : MethodName := ⟨RX12, "splits", "(I)V"⟩
abbrev cX12_fine : ByteArray := prog_14_method_40_code
def yX12_fine : MethodName := ⟨RX12, "fine", "()Z"⟩
abbrev cX12_faults : ByteArray := prog_14_method_41_code
def yX12_faults : MethodName := ⟨RX12, "faults", "()V"⟩
abbrev cX12_takes : ByteArray := prog_14_method_42_code
def yX12_takes : MethodName := ⟨RX12, "takes", "(I)Z"⟩
abbrev cX12_must : ByteArray := prog_14_method_43_code
def yX12_must : MethodName := ⟨RX12, "must", "(I)V"⟩
abbrev cX12_leaf : ByteArray := prog_14_method_44_code
def yX12_leaf : MethodName := ⟨RX12, "leaf", "()V"⟩
abbrev cX12_sign : ByteArray := prog_14_method_45_code
def yX12_sign : MethodName := ⟨RX12, "sign", "(C)I"⟩
abbrev cX12_readClause : ByteArray := prog_14_method_46_code
def yX12_readClause : MethodName := ⟨RX12, "readClause", "()V"⟩
abbrev cX12_readTest : ByteArray := prog_14_method_47_code
def yX12_readTest : MethodName := ⟨RX12, "readTest", "(I)V"⟩
abbrev cX12_readBoth : ByteArray := prog_14_method_48_code
def yX12_readBoth : MethodName := ⟨RX12, "readBoth", "(I)V"⟩
abbrev cX12_readPlain : ByteArray := prog_14_method_49_code
def yX12_readPlain : MethodName := ⟨RX12, "readPlain", "(I)V"⟩
abbrev cX12_readSum : ByteArray := prog_14_method_50_code
def yX12_readSum : MethodName := ⟨RX12, "readSum", "(I)V"⟩
abbrev cX12_readTerm : ByteArray := prog_14_method_51_code
def yX12_readTerm : MethodName := ⟨RX12, "readTerm", "(I)V"⟩
abbrev cX12_readPart : ByteArray := prog_14_method_52_code
def yX12_readPart : MethodName := ⟨RX12, "readPart", "(I)V"⟩
abbrev cX12_reads : ByteArray := prog_14_method_53_code
def yX12_reads : MethodName := ⟨RX12, "reads", "()Z"⟩
abbrev cX12_text : ByteArray := prog_14_method_54_code
def yX12_text : MethodName := ⟨RX12, "text", "()I"⟩
abbrev cX12_fault : ByteArray := prog_14_method_55_code
def yX12_fault : MethodName := ⟨RX12, "fault", "()I"⟩
abbrev cX12_use : ByteArray := prog_14_method_56_code
def yX12_use : MethodName := ⟨RX12, "use", "(I)I"⟩
abbrev cX12_codeAt : ByteArray := prog_14_method_57_code
def yX12_codeAt : MethodName := ⟨RX12, "codeAt", "(I)I"⟩
abbrev cX12_passes : ByteArray := prog_14_method_58_code
def yX12_passes : MethodName := ⟨RX12, "passes", "(I)Z"⟩
abbrev cX12_bounded : ByteArray := prog_14_method_59_code
def yX12_bounded : MethodName := ⟨RX12, "bounded", "(JZ)J"⟩
abbrev cX12_sumOf : ByteArray := prog_14_method_60_code
def yX12_sumOf : MethodName := ⟨RX12, "sumOf", "(Z)J"⟩
abbrev cX12_termOf : ByteArray := prog_14_method_61_code
def yX12_termOf : MethodName := ⟨RX12, "termOf", "(Z)J"⟩
abbrev cX12_partOf : ByteArray := prog_14_method_62_code
def yX12_partOf : MethodName := ⟨RX12, "partOf", "(Z)J"⟩
abbrev cX12_testOf : ByteArray := prog_14_method_63_code
def yX12_testOf : MethodName := ⟨RX12, "testOf", "(Z)Z"⟩
abbrev cX12_bothOf : ByteArray := prog_14_method_64_code
def yX12_bothOf : MethodName := ⟨RX12, "bothOf", "(Z)Z"⟩
abbrev cX12_plainOf : ByteArray := prog_14_method_65_code
def yX12_plainOf : MethodName := ⟨RX12, "plainOf", "(Z)Z"⟩
abbrev cX12_positiveOf : ByteArray := prog_14_method_66_code
def yX12_positiveOf : MethodName := ⟨RX12, "positiveOf", "(Z)Z"⟩
abbrev cX12_asks : ByteArray := prog_14_method_67_code
def yX12_asks : MethodName := ⟨RX12, "asks", "(II)V"⟩
abbrev cX12_bare : ByteArray := prog_14_method_68_code
def yX12_bare : MethodName := ⟨RX12, "bare", "()V"⟩
abbrev cX12_asksCopy : ByteArray := prog_14_method_69_code
def yX12_asksCopy : MethodName := ⟨RX12, "asksCopy", "(II)V"⟩
abbrev cX12_hundredth : ByteArray := prog_14_method_70_code
def yX12_hundredth : MethodName := ⟨RX12, "hundredth", "(I)I"⟩
abbrev cX12_weightOf : ByteArray := prog_14_method_71_code
def yX12_weightOf : MethodName := ⟨RX12, "weightOf", "(II)I"⟩
abbrev cX12_weight : ByteArray := prog_14_method_72_code
def yX12_weight : MethodName := ⟨RX12, "weight", "(II)I"⟩
abbrev cX12_hasStays : ByteArray := prog_14_method_73_code
def yX12_hasStays : MethodName := ⟨RX12, "hasStays", "(I)Z"⟩
abbrev cX12_canMeet : ByteArray := prog_14_method_74_code
def yX12_canMeet : MethodName := ⟨RX12, "canMeet", "(II)Z"⟩
abbrev cX12_may : ByteArray := prog_14_method_75_code
def yX12_may : MethodName := ⟨RX12, "may", "(II)I"⟩
abbrev cX12_weighs : ByteArray := prog_14_method_76_code
def yX12_weighs : MethodName := ⟨RX12, "weighs", "()V"⟩
abbrev cX12_costFrom : ByteArray := prog_14_method_77_code
def yX12_costFrom : MethodName := ⟨RX12, "costFrom", "(III)I"⟩
abbrev cX12_costAlone : ByteArray := prog_14_method_78_code
def yX12_costAlone : MethodName := ⟨RX12, "costAlone", "(I)I"⟩
abbrev cX12_cost : ByteArray := prog_14_method_79_code
def yX12_cost : MethodName := ⟨RX12, "cost", "(II)I"⟩
abbrev cX12_laysCosts : ByteArray := prog_14_method_80_code
def yX12_laysCosts : MethodName := ⟨RX12, "laysCosts", "()V"⟩
abbrev cX12_cheapest : ByteArray := prog_14_method_81_code
def yX12_cheapest : MethodName := ⟨RX12, "cheapest", "()I"⟩
abbrev cX12_cheapestOf : ByteArray := prog_14_method_82_code
def yX12_cheapestOf : MethodName := ⟨RX12, "cheapestOf", "(II)I"⟩
abbrev cX12_grows : ByteArray := prog_14_method_83_code
def yX12_grows : MethodName := ⟨RX12, "grows", "()V"⟩
abbrev cX12_tree : ByteArray := prog_14_method_84_code
def yX12_tree : MethodName := ⟨RX12, "tree", "()I"⟩
abbrev cX12_whose : ByteArray := prog_14_method_85_code
def yX12_whose : MethodName := ⟨RX12, "whose", "(I)I"⟩
abbrev cX12_sure : ByteArray := prog_14_method_86_code
def yX12_sure : MethodName := ⟨RX12, "sure", "(I)I"⟩
abbrev cX12_stepsOf : ByteArray := prog_14_method_87_code
def yX12_stepsOf : MethodName := ⟨RX12, "stepsOf", "(I)I"⟩
abbrev cX12_comesOf : ByteArray := prog_14_method_88_code
def yX12_comesOf : MethodName := ⟨RX12, "comesOf", "(II)Z"⟩
abbrev cX12_come : ByteArray := prog_14_method_89_code
def yX12_come : MethodName := ⟨RX12, "come", "(II)I"⟩
abbrev cX12_net : ByteArray := prog_14_method_90_code
def yX12_net : MethodName := ⟨RX12, "net", "(II)I"⟩
abbrev cX12_agreeOf : ByteArray := prog_14_method_91_code
def yX12_agreeOf : MethodName := ⟨RX12, "agreeOf", "(II)I"⟩
abbrev cX12_agree : ByteArray := prog_14_method_92_code
def yX12_agree : MethodName := ⟨RX12, "agree", "(II)I"⟩
abbrev cX12_joinsAll : ByteArray := prog_14_method_93_code
def yX12_joinsAll : MethodName := ⟨RX12, "joinsAll", "(I)V"⟩
abbrev cX12_familiesBut : ByteArray := prog_14_method_94_code
def yX12_familiesBut : MethodName := ⟨RX12, "familiesBut", "(I)I"⟩
abbrev cX12_families : ByteArray := prog_14_method_95_code
def yX12_families : MethodName := ⟨RX12, "families", "()I"⟩
abbrev cX12_family : ByteArray := prog_14_method_96_code
def yX12_family : MethodName := ⟨RX12, "family", "(I)I"⟩
abbrev cX12_joins : ByteArray := prog_14_method_97_code
def yX12_joins : MethodName := ⟨RX12, "joins", "(I)I"⟩
abbrev cX12_be : ByteArray := prog_14_method_98_code
def yX12_be : MethodName := ⟨RX12, "be", "([JJ)V"⟩
abbrev cX12_makes : ByteArray := prog_14_method_99_code
def yX12_makes : MethodName := ⟨RX12, "makes", "([JII)V"⟩
abbrev cX12_adds : ByteArray := prog_14_method_100_code
def yX12_adds : MethodName := ⟨RX12, "adds", "([J[J)V"⟩
abbrev cX12_order : ByteArray := prog_14_method_101_code
def yX12_order : MethodName := ⟨RX12, "order", "([J[J)I"⟩
abbrev cX12_quotient : ByteArray := prog_14_method_102_code
def yX12_quotient : MethodName := ⟨RX12, "quotient", "()I"⟩
abbrev cX12_formsOf : ByteArray := prog_14_method_103_code
def yX12_formsOf : MethodName := ⟨RX12, "formsOf", "(I)I"⟩
abbrev cX12_likens : ByteArray := prog_14_method_104_code
def yX12_likens : MethodName := ⟨RX12, "likens", "(III)V"⟩
abbrev cX12_times : ByteArray := prog_14_method_105_code
def yX12_times : MethodName := ⟨RX12, "times", "(III)I"⟩
abbrev cX12_written : ByteArray := prog_14_method_106_code
def yX12_written : MethodName := ⟨RX12, "written", "(I)I"⟩
abbrev cX12_isIn : ByteArray := prog_14_method_107_code
def yX12_isIn : MethodName := ⟨RX12, "isIn", "(II)Z"⟩
abbrev cX12_towns : ByteArray := prog_14_method_108_code
def yX12_towns : MethodName := ⟨RX12, "towns", "(I)I"⟩
abbrev cX12_fromOf : ByteArray := prog_14_method_109_code
def yX12_fromOf : MethodName := ⟨RX12, "fromOf", "(I)I"⟩
abbrev cX12_toOf : ByteArray := prog_14_method_110_code
def yX12_toOf : MethodName := ⟨RX12, "toOf", "(I)I"⟩
abbrev cX12_dates : ByteArray := prog_14_method_111_code
def yX12_dates : MethodName := ⟨RX12, "dates", "(II)I"⟩
abbrev cX12_isNoted : ByteArray := prog_14_method_112_code
def yX12_isNoted : MethodName := ⟨RX12, "isNoted", "(II)Z"⟩
abbrev cX12_stops : ByteArray := prog_14_method_113_code
def yX12_stops : MethodName := ⟨RX12, "stops", "(II)I"⟩
abbrev cX12_chanceOf : ByteArray := prog_14_method_114_code
def yX12_chanceOf : MethodName := ⟨RX12, "chanceOf", "(II)V"⟩
abbrev cX12_read : ByteArray := prog_14_method_115_code
def yX12_read : MethodName := ⟨RX12, "read", "(II)I"⟩
abbrev cX12_isOn : ByteArray := prog_14_method_116_code
def yX12_isOn : MethodName := ⟨RX12, "isOn", "(II)Z"⟩
abbrev cX12_many : ByteArray := prog_14_method_117_code
def yX12_many : MethodName := ⟨RX12, "many", "(II)I"⟩
abbrev cX12_chao : ByteArray := prog_14_method_118_code
def yX12_chao : MethodName := ⟨RX12, "chao", "()I"⟩
abbrev cX12_isStruck : ByteArray := prog_14_method_119_code
def yX12_isStruck : MethodName := ⟨RX12, "isStruck", "(II)Z"⟩
abbrev cX12_censor : ByteArray := prog_14_method_120_code
def yX12_censor : MethodName := ⟨RX12, "censor", "(III)I"⟩
abbrev cX12_late : ByteArray := prog_14_method_121_code
def yX12_late : MethodName := ⟨RX12, "late", "(II)I"⟩
abbrev cX12_next : ByteArray := prog_14_method_122_code
def yX12_next : MethodName := ⟨RX12, "next", "(I)I"⟩
abbrev cX12_draws : ByteArray := prog_14_method_123_code
def yX12_draws : MethodName := ⟨RX12, "draws", "(I)I"⟩
abbrev cX12_draw : ByteArray := prog_14_method_124_code
def yX12_draw : MethodName := ⟨RX12, "draw", "(II)V"⟩
abbrev cX12_run : ByteArray := prog_14_method_125_code
def yX12_run : MethodName := ⟨RX12, "run", "(I)I"⟩
abbrev cX12_hasWorld : ByteArray := prog_14_method_126_code
def yX12_hasWorld : MethodName := ⟨RX12, "hasWorld", "(II)Z"⟩
abbrev cX12_world : ByteArray := prog_14_method_127_code
def yX12_world : MethodName := ⟨RX12, "world", "(II)I"⟩
abbrev cX12_count : ByteArray := prog_14_method_128_code
def yX12_count : MethodName := ⟨RX12, "count", "(I)I"⟩
abbrev cX12_status : ByteArray := prog_14_method_129_code
def yX12_status : MethodName := ⟨RX12, "status", "()I"⟩
def RJx145de : String := "java/io/Serializable"
def TJx145de : u_T := fun k => match k with
  | _ => ("", "", "", false)
def tyJx145de : Nat → FieldType := fun k => match k with
  | _ => .int
def RJx9f9b0 : String := "java/lang/CharSequence"
def TJx9f9b0 : u_T := fun k => match k with
  | _ => ("", "", "", false)
def tyJx9f9b0 : Nat → FieldType := fun k => match k with
  | _ => .int
def RJx8e188 : String := "java/lang/Cloneable"
def TJx8e188 : u_T := fun k => match k with
  | _ => ("", "", "", false)
def tyJx8e188 : Nat → FieldType := fun k => match k with
  | _ => .int
def RJxb160c : String := "java/lang/Comparable"
def TJxb160c : u_T := fun k => match k with
  | _ => ("", "", "", false)
def tyJxb160c : Nat → FieldType := fun k => match k with
  | _ => .int
def RJ6 : String := "java/lang/Integer"
def TJ6 : u_T := fun k => match k with
  | _ => ("", "", "", false)
def tyJ6 : Nat → FieldType := fun k => match k with
  | _ => .int
abbrev cJ6_numberOfLeadingZeros_0f7a4 : ByteArray := prog_16_method_47_code
def yJ6_numberOfLeadingZeros_0f7a4 : MethodName := ⟨RJ6, "numberOfLeadingZeros", "(I)I"⟩
abbrev cJ6_numberOfTrailingZeros_0f7a4 : ByteArray := prog_16_method_48_code
def yJ6_numberOfTrailingZeros_0f7a4 : MethodName := ⟨RJ6, "numberOfTrailingZeros", "(I)I"⟩
abbrev cJ6_bitCount_0f7a4 : ByteArray := prog_16_method_49_code
def yJ6_bitCount_0f7a4 : MethodName := ⟨RJ6, "bitCount", "(I)I"⟩
def RJ13 : String := "java/lang/Long"
def TJ13 : u_T := fun k => match k with
  | _ => ("", "", "", false)
def tyJ13 : Nat → FieldType := fun k => match k with
  | _ => .int
abbrev cJ13_bitCount_95d88 : ByteArray := prog_17_method_50_code
def yJ13_bitCount_95d88 : MethodName := ⟨RJ13, "bitCount", "(J)I"⟩
def RJ9 : String := "java/lang/Math"
def TJ9 : u_T := fun k => match k with
  | _ => ("", "", "", false)
def tyJ9 : Nat → FieldType := fun k => match k with
  | _ => .int
abbrev cJ9_max_7cf53 : ByteArray := prog_18_method_65_code
def yJ9_max_7cf53 : MethodName := ⟨RJ9, "max", "(II)I"⟩
abbrev cJ9_max_f86c9 : ByteArray := prog_18_method_66_code
def yJ9_max_f86c9 : MethodName := ⟨RJ9, "max", "(JJ)J"⟩
abbrev cJ9_min_7cf53 : ByteArray := prog_18_method_69_code
def yJ9_min_7cf53 : MethodName := ⟨RJ9, "min", "(II)I"⟩
abbrev cJ9_min_f86c9 : ByteArray := prog_18_method_70_code
def yJ9_min_f86c9 : MethodName := ⟨RJ9, "min", "(JJ)J"⟩
def RJ0 : String := "java/lang/String"
def TJ0 : u_T := fun k => match k with
  | _ => ("", "", "", false)
def tyJ0 : Nat → FieldType := fun k => match k with
  | _ => .int
abbrev cJ0_length_8abf5 : ByteArray := prog_19_method_54_code
def yJ0_length_8abf5 : MethodName := ⟨RJ0, "length", "()I"⟩
abbrev cJ0_charAt_5068e : ByteArray := prog_19_method_56_code
def yJ0_charAt_5068e : MethodName := ⟨RJ0, "charAt", "(I)C"⟩
abbrev cJ0_coder_7d493 : ByteArray := prog_19_method_152_code
def yJ0_coder_7d493 : MethodName := ⟨RJ0, "coder", "()B"⟩
abbrev cJ0_isLatin1_aae02 : ByteArray := prog_19_method_154_code
def yJ0_isLatin1_aae02 : MethodName := ⟨RJ0, "isLatin1", "()Z"⟩
abbrev cJ0_checkIndex_df160 : ByteArray := prog_19_method_155_code
def yJ0_checkIndex_df160 : MethodName := ⟨RJ0, "checkIndex", "(II)V"⟩
def RJ1 : String := "java/lang/StringLatin1"
def TJ1 : u_T := fun k => match k with
  | _ => ("", "", "", false)
def tyJ1 : Nat → FieldType := fun k => match k with
  | _ => .int
abbrev cJ1_charAt_3b067 : ByteArray := prog_20_method_2_code
def yJ1_charAt_3b067 : MethodName := ⟨RJ1, "charAt", "([BI)C"⟩
def RJ2 : String := "java/lang/StringUTF16"
def TJ2 : u_T := fun k => match k with
  | _ => ("", "", "", false)
def tyJ2 : Nat → FieldType := fun k => match k with
  | _ => .int
abbrev cJ2_getChar_3b067 : ByteArray := prog_21_method_5_code
def yJ2_getChar_3b067 : MethodName := ⟨RJ2, "getChar", "([BI)C"⟩
abbrev cJ2_length_9d52b : ByteArray := prog_21_method_6_code
def yJ2_length_9d52b : MethodName := ⟨RJ2, "length", "([B)I"⟩
abbrev cJ2_charAt_3b067 : ByteArray := prog_21_method_83_code
def yJ2_charAt_3b067 : MethodName := ⟨RJ2, "charAt", "([BI)C"⟩
abbrev cJ2_checkIndex_2214a : ByteArray := prog_21_method_91_code
def yJ2_checkIndex_2214a : MethodName := ⟨RJ2, "checkIndex", "(I[B)V"⟩
def RJ10 : String := "java/lang/System"
def TJ10 : u_T := fun k => match k with
  | _ => ("", "", "", false)
def tyJ10 : Nat → FieldType := fun k => match k with
  | _ => .int
def RJxfd54e : String := "java/lang/constant/Constable"
def TJxfd54e : u_T := fun k => match k with
  | _ => ("", "", "", false)
def tyJxfd54e : Nat → FieldType := fun k => match k with
  | _ => .int
def RJx3cf43 : String := "java/lang/constant/ConstantDesc"
def TJx3cf43 : u_T := fun k => match k with
  | _ => ("", "", "", false)
def tyJx3cf43 : Nat → FieldType := fun k => match k with
  | _ => .int
def RJ7 : String := "java/util/Arrays"
def TJ7 : u_T := fun k => match k with
  | _ => ("", "", "", false)
def tyJ7 : Nat → FieldType := fun k => match k with
  | _ => .int
abbrev cJ7_fill_d0a16 : ByteArray := prog_23_method_101_code
def yJ7_fill_d0a16 : MethodName := ⟨RJ7, "fill", "([JJ)V"⟩
abbrev cJ7_fill_53178 : ByteArray := prog_23_method_103_code
def yJ7_fill_53178 : MethodName := ⟨RJ7, "fill", "([II)V"⟩
abbrev cJ7_copyOf_59c91 : ByteArray := prog_23_method_123_code
def yJ7_copyOf_59c91 : MethodName := ⟨RJ7, "copyOf", "([II)[I"⟩
def RJ3 : String := "jdk/internal/util/Preconditions"
def TJ3 : u_T := fun k => match k with
  | _ => ("", "", "", false)
def tyJ3 : Nat → FieldType := fun k => match k with
  | _ => .int
abbrev cJ3_checkIndex_8e157 : ByteArray := prog_24_method_11_code
def yJ3_checkIndex_8e157 : MethodName := ⟨RJ3, "checkIndex", "(IILjava/util/function/BiFunction;)I"⟩
def RL : String := "SkyMarginsLaw"
abbrev cL_law : ByteArray := code
def yL_law : MethodName := ⟨RL, "law", "([I)Z"⟩
abbrev vwCl : List vw_C := [(RX0, TX0, 3), (RX1, TX1, 2), (RX2, TX2, 5), (RX3, TX3, 9), (RX4, TX4, 9), (RX5, TX5, 9), (RX6, TX6, 9), (RX7, TX7, 4), (RX8, TX8, 2), (RX9, TX9, 1), (RX10, TX10, 6), (RX11, TX11, 16), (RX12, TX12, 46)]
