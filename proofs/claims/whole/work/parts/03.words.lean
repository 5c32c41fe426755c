/-! the words of the tables (the beginning is the given starting text), and lists of what this program links: classes, fields, methods, by numbers -/
/-- a private method of a class that the tables say can be made, by its rows of tables_1 -/
def lw_okq (q : MethodName × Nat) : Prop := (q.1.cls ≠ "java/lang/invoke/MethodHandle" ∧ q.1.cls ≠ "java/lang/invoke/VarHandle") ∧ Cond.instantiable q.1.cls q.2 ∈ tables_1 ∧ Cond.privateMethod q.1 ∈ tables_1 ∧ Cond.instanceMethod q.1 ∈ tables_1
theorem lw_p0 : lw_okq (⟨"KeptAnswers", "refuse", "(I)I"⟩, 10) := ⟨⟨by decide +kernel, by decide +kernel⟩, List.mem_of_getElem? (i := 17) (by decide +kernel), List.mem_of_getElem? (i := 314) (by decide +kernel), List.mem_of_getElem? (i := 315) (by decide +kernel)⟩
theorem lw_p1 : lw_okq (⟨"KeptAnswers", "bringIn", "(I)V"⟩, 10) := ⟨⟨by decide +kernel, by decide +kernel⟩, List.mem_of_getElem? (i := 17) (by decide +kernel), List.mem_of_getElem? (i := 334) (by decide +kernel), List.mem_of_getElem? (i := 335) (by decide +kernel)⟩
theorem lw_p2 : lw_okq (⟨"KeptAnswers", "forgetSights", "()V"⟩, 10) := ⟨⟨by decide +kernel, by decide +kernel⟩, List.mem_of_getElem? (i := 17) (by decide +kernel), List.mem_of_getElem? (i := 378) (by decide +kernel), List.mem_of_getElem? (i := 379) (by decide +kernel)⟩
theorem lw_p3 : lw_okq (⟨"KeptAnswers$Text", "parseRow", "(LKeptAnswers$Picture;I)I"⟩, 2) := ⟨⟨by decide +kernel, by decide +kernel⟩, List.mem_of_getElem? (i := 161) (by decide +kernel), List.mem_of_getElem? (i := 437) (by decide +kernel), List.mem_of_getElem? (i := 438) (by decide +kernel)⟩
theorem lw_p4 : lw_okq (⟨"KeptAnswers$Text", "termAt", "(I)I"⟩, 2) := ⟨⟨by decide +kernel, by decide +kernel⟩, List.mem_of_getElem? (i := 161) (by decide +kernel), List.mem_of_getElem? (i := 442) (by decide +kernel), List.mem_of_getElem? (i := 443) (by decide +kernel)⟩
theorem lw_p5 : lw_okq (⟨"KeptAnswers$Text", "parseHead", "(LKeptAnswers$Picture;I)I"⟩, 2) := ⟨⟨by decide +kernel, by decide +kernel⟩, List.mem_of_getElem? (i := 161) (by decide +kernel), List.mem_of_getElem? (i := 450) (by decide +kernel), List.mem_of_getElem? (i := 451) (by decide +kernel)⟩
theorem lw_p6 : lw_okq (⟨"KeptAnswers", "isView", "(I)Z"⟩, 10) := ⟨⟨by decide +kernel, by decide +kernel⟩, List.mem_of_getElem? (i := 17) (by decide +kernel), List.mem_of_getElem? (i := 470) (by decide +kernel), List.mem_of_getElem? (i := 471) (by decide +kernel)⟩
theorem lw_p7 : lw_okq (⟨"KeptAnswers", "isAsk", "(I)Z"⟩, 10) := ⟨⟨by decide +kernel, by decide +kernel⟩, List.mem_of_getElem? (i := 17) (by decide +kernel), List.mem_of_getElem? (i := 474) (by decide +kernel), List.mem_of_getElem? (i := 475) (by decide +kernel)⟩
theorem lw_p8 : lw_okq (⟨"KeptAnswers", "seen", "(I)LKeptAnswers$Sight;"⟩, 10) := ⟨⟨by decide +kernel, by decide +kernel⟩, List.mem_of_getElem? (i := 17) (by decide +kernel), List.mem_of_getElem? (i := 502) (by decide +kernel), List.mem_of_getElem? (i := 503) (by decide +kernel)⟩
theorem lw_p9 : lw_okq (⟨"KeptAnswers$Picture", "dropDoubles", "()V"⟩, 8) := ⟨⟨by decide +kernel, by decide +kernel⟩, List.mem_of_getElem? (i := 32) (by decide +kernel), List.mem_of_getElem? (i := 525) (by decide +kernel), List.mem_of_getElem? (i := 526) (by decide +kernel)⟩
theorem lw_p10 : lw_okq (⟨"KeptAnswers$Picture", "hasRow", "(III)Z"⟩, 8) := ⟨⟨by decide +kernel, by decide +kernel⟩, List.mem_of_getElem? (i := 32) (by decide +kernel), List.mem_of_getElem? (i := 529) (by decide +kernel), List.mem_of_getElem? (i := 530) (by decide +kernel)⟩
theorem lw_p11 : lw_okq (⟨"KeptAnswers$Picture", "firstClashing", "(I)I"⟩, 8) := ⟨⟨by decide +kernel, by decide +kernel⟩, List.mem_of_getElem? (i := 32) (by decide +kernel), List.mem_of_getElem? (i := 533) (by decide +kernel), List.mem_of_getElem? (i := 534) (by decide +kernel)⟩
theorem lw_p12 : lw_okq (⟨"KeptAnswers$Picture", "clashOf", "(II)I"⟩, 8) := ⟨⟨by decide +kernel, by decide +kernel⟩, List.mem_of_getElem? (i := 32) (by decide +kernel), List.mem_of_getElem? (i := 537) (by decide +kernel), List.mem_of_getElem? (i := 538) (by decide +kernel)⟩
theorem lw_p13 : lw_okq (⟨"KeptAnswers$Picture", "makeOne", "(II)V"⟩, 8) := ⟨⟨by decide +kernel, by decide +kernel⟩, List.mem_of_getElem? (i := 32) (by decide +kernel), List.mem_of_getElem? (i := 544) (by decide +kernel), List.mem_of_getElem? (i := 545) (by decide +kernel)⟩
theorem lw_p14 : lw_okq (⟨"KeptAnswers", "liesWithin", "(II)Z"⟩, 10) := ⟨⟨by decide +kernel, by decide +kernel⟩, List.mem_of_getElem? (i := 17) (by decide +kernel), List.mem_of_getElem? (i := 577) (by decide +kernel), List.mem_of_getElem? (i := 578) (by decide +kernel)⟩
theorem lw_p15 : lw_okq (⟨"KeptAnswers", "showsRefusal", "(I)I"⟩, 10) := ⟨⟨by decide +kernel, by decide +kernel⟩, List.mem_of_getElem? (i := 17) (by decide +kernel), List.mem_of_getElem? (i := 592) (by decide +kernel), List.mem_of_getElem? (i := 593) (by decide +kernel)⟩
def lw_privs_1 : List (MethodName × Nat) := [(⟨"KeptAnswers", "refuse", "(I)I"⟩, 10), (⟨"KeptAnswers", "bringIn", "(I)V"⟩, 10), (⟨"KeptAnswers", "forgetSights", "()V"⟩, 10), (⟨"KeptAnswers$Text", "parseRow", "(LKeptAnswers$Picture;I)I"⟩, 2), (⟨"KeptAnswers$Text", "termAt", "(I)I"⟩, 2), (⟨"KeptAnswers$Text", "parseHead", "(LKeptAnswers$Picture;I)I"⟩, 2), (⟨"KeptAnswers", "isView", "(I)Z"⟩, 10), (⟨"KeptAnswers", "isAsk", "(I)Z"⟩, 10), (⟨"KeptAnswers", "seen", "(I)LKeptAnswers$Sight;"⟩, 10), (⟨"KeptAnswers$Picture", "dropDoubles", "()V"⟩, 8), (⟨"KeptAnswers$Picture", "hasRow", "(III)Z"⟩, 8), (⟨"KeptAnswers$Picture", "firstClashing", "(I)I"⟩, 8), (⟨"KeptAnswers$Picture", "clashOf", "(II)I"⟩, 8), (⟨"KeptAnswers$Picture", "makeOne", "(II)V"⟩, 8), (⟨"KeptAnswers", "liesWithin", "(II)Z"⟩, 10), (⟨"KeptAnswers", "showsRefusal", "(I)I"⟩, 10)]
theorem lw_r1 : ∀ q ∈ lw_privs_1, lw_okq q := List.forall_mem_cons.mpr ⟨lw_p0, List.forall_mem_cons.mpr ⟨lw_p1, List.forall_mem_cons.mpr ⟨lw_p2, List.forall_mem_cons.mpr ⟨lw_p3, List.forall_mem_cons.mpr ⟨lw_p4, List.forall_mem_cons.mpr ⟨lw_p5, List.forall_mem_cons.mpr ⟨lw_p6, List.forall_mem_cons.mpr ⟨lw_p7, List.forall_mem_cons.mpr ⟨lw_p8, List.forall_mem_cons.mpr ⟨lw_p9, List.forall_mem_cons.mpr ⟨lw_p10, List.forall_mem_cons.mpr ⟨lw_p11, List.forall_mem_cons.mpr ⟨lw_p12, List.forall_mem_cons.mpr ⟨lw_p13, List.forall_mem_cons.mpr ⟨lw_p14, List.forall_mem_cons.mpr ⟨lw_p15, fun _ h => absurd h List.not_mem_nil⟩⟩⟩⟩⟩⟩⟩⟩⟩⟩⟩⟩⟩⟩⟩⟩
theorem lw_p16 : lw_okq (⟨"KeptAnswers", "seenThrough", "(I)LKeptAnswers$Sight;"⟩, 10) := ⟨⟨by decide +kernel, by decide +kernel⟩, List.mem_of_getElem? (i := 17) (by decide +kernel), List.mem_of_getElem? (i := 612) (by decide +kernel), List.mem_of_getElem? (i := 613) (by decide +kernel)⟩
theorem lw_p17 : lw_okq (⟨"KeptAnswers$Sight", "noteCover", "(I)V"⟩, 10) := ⟨⟨by decide +kernel, by decide +kernel⟩, List.mem_of_getElem? (i := 228) (by decide +kernel), List.mem_of_getElem? (i := 623) (by decide +kernel), List.mem_of_getElem? (i := 624) (by decide +kernel)⟩
theorem lw_p18 : lw_okq (⟨"KeptAnswers$Sight", "viewsOf", "(I)I"⟩, 10) := ⟨⟨by decide +kernel, by decide +kernel⟩, List.mem_of_getElem? (i := 228) (by decide +kernel), List.mem_of_getElem? (i := 627) (by decide +kernel), List.mem_of_getElem? (i := 628) (by decide +kernel)⟩
theorem lw_p19 : lw_okq (⟨"KeptAnswers$Sight", "hasCoverIn", "(I)Z"⟩, 10) := ⟨⟨by decide +kernel, by decide +kernel⟩, List.mem_of_getElem? (i := 228) (by decide +kernel), List.mem_of_getElem? (i := 638) (by decide +kernel), List.mem_of_getElem? (i := 639) (by decide +kernel)⟩
theorem lw_p20 : lw_okq (⟨"KeptAnswers$Sight", "openSet", "(LKeptAnswers$Picture;ILKeptAnswers$Holding;)Z"⟩, 10) := ⟨⟨by decide +kernel, by decide +kernel⟩, List.mem_of_getElem? (i := 228) (by decide +kernel), List.mem_of_getElem? (i := 646) (by decide +kernel), List.mem_of_getElem? (i := 647) (by decide +kernel)⟩
theorem lw_p21 : lw_okq (⟨"KeptAnswers$Sight", "openShow", "(LKeptAnswers$Picture;LKeptAnswers$Picture;II)V"⟩, 10) := ⟨⟨by decide +kernel, by decide +kernel⟩, List.mem_of_getElem? (i := 228) (by decide +kernel), List.mem_of_getElem? (i := 651) (by decide +kernel), List.mem_of_getElem? (i := 652) (by decide +kernel)⟩
theorem lw_p22 : lw_okq (⟨"KeptAnswers$Sight", "openTerm", "(LKeptAnswers$Picture;III)I"⟩, 10) := ⟨⟨by decide +kernel, by decide +kernel⟩, List.mem_of_getElem? (i := 228) (by decide +kernel), List.mem_of_getElem? (i := 655) (by decide +kernel), List.mem_of_getElem? (i := 656) (by decide +kernel)⟩
theorem lw_p23 : lw_okq (⟨"KeptAnswers$Sight", "termsOf", "(I)I"⟩, 10) := ⟨⟨by decide +kernel, by decide +kernel⟩, List.mem_of_getElem? (i := 228) (by decide +kernel), List.mem_of_getElem? (i := 665) (by decide +kernel), List.mem_of_getElem? (i := 666) (by decide +kernel)⟩
theorem lw_p24 : lw_okq (⟨"KeptAnswers", "areViews", "(I)Z"⟩, 10) := ⟨⟨by decide +kernel, by decide +kernel⟩, List.mem_of_getElem? (i := 17) (by decide +kernel), List.mem_of_getElem? (i := 688) (by decide +kernel), List.mem_of_getElem? (i := 689) (by decide +kernel)⟩
theorem lw_p25 : lw_okq (⟨"KeptAnswers$Worlds", "findOpen", "(LKeptAnswers$Holding;)V"⟩, 4) := ⟨⟨by decide +kernel, by decide +kernel⟩, List.mem_of_getElem? (i := 207) (by decide +kernel), List.mem_of_getElem? (i := 708) (by decide +kernel), List.mem_of_getElem? (i := 709) (by decide +kernel)⟩
theorem lw_p26 : lw_okq (⟨"KeptAnswers$Worlds", "dropDoubleX", "(II)V"⟩, 4) := ⟨⟨by decide +kernel, by decide +kernel⟩, List.mem_of_getElem? (i := 207) (by decide +kernel), List.mem_of_getElem? (i := 715) (by decide +kernel), List.mem_of_getElem? (i := 716) (by decide +kernel)⟩
theorem lw_p27 : lw_okq (⟨"KeptAnswers$Worlds", "keepAgreeing", "([JLKeptAnswers$Picture;I)V"⟩, 4) := ⟨⟨by decide +kernel, by decide +kernel⟩, List.mem_of_getElem? (i := 207) (by decide +kernel), List.mem_of_getElem? (i := 727) (by decide +kernel), List.mem_of_getElem? (i := 728) (by decide +kernel)⟩
theorem lw_p28 : lw_okq (⟨"KeptAnswers$Worlds", "spread", "(LKeptAnswers$Picture;)V"⟩, 4) := ⟨⟨by decide +kernel, by decide +kernel⟩, List.mem_of_getElem? (i := 207) (by decide +kernel), List.mem_of_getElem? (i := 731) (by decide +kernel), List.mem_of_getElem? (i := 732) (by decide +kernel)⟩
theorem lw_p29 : lw_okq (⟨"KeptAnswers$Worlds", "settles", "(I)Z"⟩, 4) := ⟨⟨by decide +kernel, by decide +kernel⟩, List.mem_of_getElem? (i := 207) (by decide +kernel), List.mem_of_getElem? (i := 772) (by decide +kernel), List.mem_of_getElem? (i := 773) (by decide +kernel)⟩
theorem lw_p30 : lw_okq (⟨"KeptAnswers", "knowsAllCovers", "()Z"⟩, 10) := ⟨⟨by decide +kernel, by decide +kernel⟩, List.mem_of_getElem? (i := 17) (by decide +kernel), List.mem_of_getElem? (i := 793) (by decide +kernel), List.mem_of_getElem? (i := 794) (by decide +kernel)⟩
theorem lw_p31 : lw_okq (⟨"KeptAnswers", "costOf", "(I)I"⟩, 10) := ⟨⟨by decide +kernel, by decide +kernel⟩, List.mem_of_getElem? (i := 17) (by decide +kernel), List.mem_of_getElem? (i := 797) (by decide +kernel), List.mem_of_getElem? (i := 798) (by decide +kernel)⟩
def lw_privs_2 : List (MethodName × Nat) := [(⟨"KeptAnswers", "seenThrough", "(I)LKeptAnswers$Sight;"⟩, 10), (⟨"KeptAnswers$Sight", "noteCover", "(I)V"⟩, 10), (⟨"KeptAnswers$Sight", "viewsOf", "(I)I"⟩, 10), (⟨"KeptAnswers$Sight", "hasCoverIn", "(I)Z"⟩, 10), (⟨"KeptAnswers$Sight", "openSet", "(LKeptAnswers$Picture;ILKeptAnswers$Holding;)Z"⟩, 10), (⟨"KeptAnswers$Sight", "openShow", "(LKeptAnswers$Picture;LKeptAnswers$Picture;II)V"⟩, 10), (⟨"KeptAnswers$Sight", "openTerm", "(LKeptAnswers$Picture;III)I"⟩, 10), (⟨"KeptAnswers$Sight", "termsOf", "(I)I"⟩, 10), (⟨"KeptAnswers", "areViews", "(I)Z"⟩, 10), (⟨"KeptAnswers$Worlds", "findOpen", "(LKeptAnswers$Holding;)V"⟩, 4), (⟨"KeptAnswers$Worlds", "dropDoubleX", "(II)V"⟩, 4), (⟨"KeptAnswers$Worlds", "keepAgreeing", "([JLKeptAnswers$Picture;I)V"⟩, 4), (⟨"KeptAnswers$Worlds", "spread", "(LKeptAnswers$Picture;)V"⟩, 4), (⟨"KeptAnswers$Worlds", "settles", "(I)Z"⟩, 4), (⟨"KeptAnswers", "knowsAllCovers", "()Z"⟩, 10), (⟨"KeptAnswers", "costOf", "(I)I"⟩, 10)]
theorem lw_r2 : ∀ q ∈ lw_privs_2, lw_okq q := List.forall_mem_cons.mpr ⟨lw_p16, List.forall_mem_cons.mpr ⟨lw_p17, List.forall_mem_cons.mpr ⟨lw_p18, List.forall_mem_cons.mpr ⟨lw_p19, List.forall_mem_cons.mpr ⟨lw_p20, List.forall_mem_cons.mpr ⟨lw_p21, List.forall_mem_cons.mpr ⟨lw_p22, List.forall_mem_cons.mpr ⟨lw_p23, List.forall_mem_cons.mpr ⟨lw_p24, List.forall_mem_cons.mpr ⟨lw_p25, List.forall_mem_cons.mpr ⟨lw_p26, List.forall_mem_cons.mpr ⟨lw_p27, List.forall_mem_cons.mpr ⟨lw_p28, List.forall_mem_cons.mpr ⟨lw_p29, List.forall_mem_cons.mpr ⟨lw_p30, List.forall_mem_cons.mpr ⟨lw_p31, fun _ h => absurd h List.not_mem_nil⟩⟩⟩⟩⟩⟩⟩⟩⟩⟩⟩⟩⟩⟩⟩⟩
theorem lw_p32 : lw_okq (⟨"KeptAnswers", "cheapestViews", "()I"⟩, 10) := ⟨⟨by decide +kernel, by decide +kernel⟩, List.mem_of_getElem? (i := 17) (by decide +kernel), List.mem_of_getElem? (i := 809) (by decide +kernel), List.mem_of_getElem? (i := 810) (by decide +kernel)⟩
theorem lw_p33 : lw_okq (⟨"KeptAnswers$Sight", "orderOf", "(II)I"⟩, 10) := ⟨⟨by decide +kernel, by decide +kernel⟩, List.mem_of_getElem? (i := 228) (by decide +kernel), List.mem_of_getElem? (i := 840) (by decide +kernel), List.mem_of_getElem? (i := 841) (by decide +kernel)⟩
theorem lw_p34 : lw_okq (⟨"KeptAnswers$Sight", "nextToAsk", "(III)I"⟩, 10) := ⟨⟨by decide +kernel, by decide +kernel⟩, List.mem_of_getElem? (i := 228) (by decide +kernel), List.mem_of_getElem? (i := 844) (by decide +kernel), List.mem_of_getElem? (i := 845) (by decide +kernel)⟩
theorem lw_p35 : lw_okq (⟨"KeptAnswersModel", "wrongRow", "(III)I"⟩, 65) := ⟨⟨by decide +kernel, by decide +kernel⟩, List.mem_of_getElem? (i := 865) (by decide +kernel), List.mem_of_getElem? (i := 1072) (by decide +kernel), List.mem_of_getElem? (i := 1073) (by decide +kernel)⟩
theorem lw_p36 : lw_okq (⟨"KeptAnswersModel", "bring", "(III)I"⟩, 65) := ⟨⟨by decide +kernel, by decide +kernel⟩, List.mem_of_getElem? (i := 865) (by decide +kernel), List.mem_of_getElem? (i := 1080) (by decide +kernel), List.mem_of_getElem? (i := 1081) (by decide +kernel)⟩
theorem lw_p37 : lw_okq (⟨"KeptAnswersModel", "remember", "(I)V"⟩, 65) := ⟨⟨by decide +kernel, by decide +kernel⟩, List.mem_of_getElem? (i := 865) (by decide +kernel), List.mem_of_getElem? (i := 1087) (by decide +kernel), List.mem_of_getElem? (i := 1088) (by decide +kernel)⟩
theorem lw_p38 : lw_okq (⟨"KeptAnswersModel", "refuse", "(I)I"⟩, 65) := ⟨⟨by decide +kernel, by decide +kernel⟩, List.mem_of_getElem? (i := 865) (by decide +kernel), List.mem_of_getElem? (i := 1091) (by decide +kernel), List.mem_of_getElem? (i := 1092) (by decide +kernel)⟩
theorem lw_p39 : lw_okq (⟨"KeptAnswersModel", "readPicture", "(I)I"⟩, 65) := ⟨⟨by decide +kernel, by decide +kernel⟩, List.mem_of_getElem? (i := 865) (by decide +kernel), List.mem_of_getElem? (i := 1128) (by decide +kernel), List.mem_of_getElem? (i := 1129) (by decide +kernel)⟩
theorem lw_p40 : lw_okq (⟨"KeptAnswersModel", "readRow", "(I)V"⟩, 65) := ⟨⟨by decide +kernel, by decide +kernel⟩, List.mem_of_getElem? (i := 865) (by decide +kernel), List.mem_of_getElem? (i := 1132) (by decide +kernel), List.mem_of_getElem? (i := 1133) (by decide +kernel)⟩
theorem lw_p41 : lw_okq (⟨"KeptAnswersModel", "here", "()I"⟩, 65) := ⟨⟨by decide +kernel, by decide +kernel⟩, List.mem_of_getElem? (i := 865) (by decide +kernel), List.mem_of_getElem? (i := 1136) (by decide +kernel), List.mem_of_getElem? (i := 1137) (by decide +kernel)⟩
theorem lw_p42 : lw_okq (⟨"KeptAnswersModel", "readTerm", "()I"⟩, 65) := ⟨⟨by decide +kernel, by decide +kernel⟩, List.mem_of_getElem? (i := 865) (by decide +kernel), List.mem_of_getElem? (i := 1142) (by decide +kernel), List.mem_of_getElem? (i := 1143) (by decide +kernel)⟩
theorem lw_p43 : lw_okq (⟨"KeptAnswersModel", "stands", "(II)Z"⟩, 65) := ⟨⟨by decide +kernel, by decide +kernel⟩, List.mem_of_getElem? (i := 865) (by decide +kernel), List.mem_of_getElem? (i := 1149) (by decide +kernel), List.mem_of_getElem? (i := 1150) (by decide +kernel)⟩
theorem lw_p44 : lw_okq (⟨"KeptAnswersModel", "isView", "(I)Z"⟩, 65) := ⟨⟨by decide +kernel, by decide +kernel⟩, List.mem_of_getElem? (i := 865) (by decide +kernel), List.mem_of_getElem? (i := 1161) (by decide +kernel), List.mem_of_getElem? (i := 1162) (by decide +kernel)⟩
theorem lw_p45 : lw_okq (⟨"KeptAnswersModel", "isAsk", "(I)Z"⟩, 65) := ⟨⟨by decide +kernel, by decide +kernel⟩, List.mem_of_getElem? (i := 865) (by decide +kernel), List.mem_of_getElem? (i := 1165) (by decide +kernel), List.mem_of_getElem? (i := 1166) (by decide +kernel)⟩
theorem lw_p46 : lw_okq (⟨"KeptAnswersModel", "worldNow", "()I"⟩, 65) := ⟨⟨by decide +kernel, by decide +kernel⟩, List.mem_of_getElem? (i := 865) (by decide +kernel), List.mem_of_getElem? (i := 1169) (by decide +kernel), List.mem_of_getElem? (i := 1170) (by decide +kernel)⟩
theorem lw_p47 : lw_okq (⟨"KeptAnswersModel", "answerBy", "(II)I"⟩, 65) := ⟨⟨by decide +kernel, by decide +kernel⟩, List.mem_of_getElem? (i := 865) (by decide +kernel), List.mem_of_getElem? (i := 1173) (by decide +kernel), List.mem_of_getElem? (i := 1174) (by decide +kernel)⟩
def lw_privs_3 : List (MethodName × Nat) := [(⟨"KeptAnswers", "cheapestViews", "()I"⟩, 10), (⟨"KeptAnswers$Sight", "orderOf", "(II)I"⟩, 10), (⟨"KeptAnswers$Sight", "nextToAsk", "(III)I"⟩, 10), (⟨"KeptAnswersModel", "wrongRow", "(III)I"⟩, 65), (⟨"KeptAnswersModel", "bring", "(III)I"⟩, 65), (⟨"KeptAnswersModel", "remember", "(I)V"⟩, 65), (⟨"KeptAnswersModel", "refuse", "(I)I"⟩, 65), (⟨"KeptAnswersModel", "readPicture", "(I)I"⟩, 65), (⟨"KeptAnswersModel", "readRow", "(I)V"⟩, 65), (⟨"KeptAnswersModel", "here", "()I"⟩, 65), (⟨"KeptAnswersModel", "readTerm", "()I"⟩, 65), (⟨"KeptAnswersModel", "stands", "(II)Z"⟩, 65), (⟨"KeptAnswersModel", "isView", "(I)Z"⟩, 65), (⟨"KeptAnswersModel", "isAsk", "(I)Z"⟩, 65), (⟨"KeptAnswersModel", "worldNow", "()I"⟩, 65), (⟨"KeptAnswersModel", "answerBy", "(II)I"⟩, 65)]
theorem lw_r3 : ∀ q ∈ lw_privs_3, lw_okq q := List.forall_mem_cons.mpr ⟨lw_p32, List.forall_mem_cons.mpr ⟨lw_p33, List.forall_mem_cons.mpr ⟨lw_p34, List.forall_mem_cons.mpr ⟨lw_p35, List.forall_mem_cons.mpr ⟨lw_p36, List.forall_mem_cons.mpr ⟨lw_p37, List.forall_mem_cons.mpr ⟨lw_p38, List.forall_mem_cons.mpr ⟨lw_p39, List.forall_mem_cons.mpr ⟨lw_p40, List.forall_mem_cons.mpr ⟨lw_p41, List.forall_mem_cons.mpr ⟨lw_p42, List.forall_mem_cons.mpr ⟨lw_p43, List.forall_mem_cons.mpr ⟨lw_p44, List.forall_mem_cons.mpr ⟨lw_p45, List.forall_mem_cons.mpr ⟨lw_p46, List.forall_mem_cons.mpr ⟨lw_p47, fun _ h => absurd h List.not_mem_nil⟩⟩⟩⟩⟩⟩⟩⟩⟩⟩⟩⟩⟩⟩⟩⟩
theorem lw_p48 : lw_okq (⟨"KeptAnswersModel", "findEnd", "(I)V"⟩, 65) := ⟨⟨by decide +kernel, by decide +kernel⟩, List.mem_of_getElem? (i := 865) (by decide +kernel), List.mem_of_getElem? (i := 1185) (by decide +kernel), List.mem_of_getElem? (i := 1186) (by decide +kernel)⟩
theorem lw_p49 : lw_okq (⟨"KeptAnswersModel", "load", "(I)V"⟩, 65) := ⟨⟨by decide +kernel, by decide +kernel⟩, List.mem_of_getElem? (i := 865) (by decide +kernel), List.mem_of_getElem? (i := 1189) (by decide +kernel), List.mem_of_getElem? (i := 1190) (by decide +kernel)⟩
theorem lw_p50 : lw_okq (⟨"KeptAnswersModel", "goToEnd", "()V"⟩, 65) := ⟨⟨by decide +kernel, by decide +kernel⟩, List.mem_of_getElem? (i := 865) (by decide +kernel), List.mem_of_getElem? (i := 1193) (by decide +kernel), List.mem_of_getElem? (i := 1194) (by decide +kernel)⟩
theorem lw_p51 : lw_okq (⟨"KeptAnswersModel", "thin", "()V"⟩, 65) := ⟨⟨by decide +kernel, by decide +kernel⟩, List.mem_of_getElem? (i := 865) (by decide +kernel), List.mem_of_getElem? (i := 1197) (by decide +kernel), List.mem_of_getElem? (i := 1198) (by decide +kernel)⟩
theorem lw_p52 : lw_okq (⟨"KeptAnswersModel", "step", "()Z"⟩, 65) := ⟨⟨by decide +kernel, by decide +kernel⟩, List.mem_of_getElem? (i := 865) (by decide +kernel), List.mem_of_getElem? (i := 1201) (by decide +kernel), List.mem_of_getElem? (i := 1202) (by decide +kernel)⟩
theorem lw_p53 : lw_okq (⟨"KeptAnswersModel", "replace", "(II)V"⟩, 65) := ⟨⟨by decide +kernel, by decide +kernel⟩, List.mem_of_getElem? (i := 865) (by decide +kernel), List.mem_of_getElem? (i := 1205) (by decide +kernel), List.mem_of_getElem? (i := 1206) (by decide +kernel)⟩
theorem lw_p54 : lw_okq (⟨"KeptAnswersModel", "isWithin", "(II)Z"⟩, 65) := ⟨⟨by decide +kernel, by decide +kernel⟩, List.mem_of_getElem? (i := 865) (by decide +kernel), List.mem_of_getElem? (i := 1217) (by decide +kernel), List.mem_of_getElem? (i := 1218) (by decide +kernel)⟩
theorem lw_p55 : lw_okq (⟨"KeptAnswersModel", "liesWithin", "(I)Z"⟩, 65) := ⟨⟨by decide +kernel, by decide +kernel⟩, List.mem_of_getElem? (i := 865) (by decide +kernel), List.mem_of_getElem? (i := 1221) (by decide +kernel), List.mem_of_getElem? (i := 1222) (by decide +kernel)⟩
theorem lw_p56 : lw_okq (⟨"KeptAnswersModel", "nextWay", "(IZ)Z"⟩, 65) := ⟨⟨by decide +kernel, by decide +kernel⟩, List.mem_of_getElem? (i := 865) (by decide +kernel), List.mem_of_getElem? (i := 1225) (by decide +kernel), List.mem_of_getElem? (i := 1226) (by decide +kernel)⟩
theorem lw_p57 : lw_okq (⟨"KeptAnswersModel", "agree", "(II)Z"⟩, 65) := ⟨⟨by decide +kernel, by decide +kernel⟩, List.mem_of_getElem? (i := 865) (by decide +kernel), List.mem_of_getElem? (i := 1229) (by decide +kernel), List.mem_of_getElem? (i := 1230) (by decide +kernel)⟩
theorem lw_p58 : lw_okq (⟨"KeptAnswersModel", "findShows", "(I)Z"⟩, 65) := ⟨⟨by decide +kernel, by decide +kernel⟩, List.mem_of_getElem? (i := 865) (by decide +kernel), List.mem_of_getElem? (i := 1241) (by decide +kernel), List.mem_of_getElem? (i := 1242) (by decide +kernel)⟩
theorem lw_p59 : lw_okq (⟨"KeptAnswersModel", "termsOf", "(I)I"⟩, 65) := ⟨⟨by decide +kernel, by decide +kernel⟩, List.mem_of_getElem? (i := 865) (by decide +kernel), List.mem_of_getElem? (i := 1245) (by decide +kernel), List.mem_of_getElem? (i := 1246) (by decide +kernel)⟩
theorem lw_p60 : lw_okq (⟨"KeptAnswersModel", "termOf", "(II)I"⟩, 65) := ⟨⟨by decide +kernel, by decide +kernel⟩, List.mem_of_getElem? (i := 865) (by decide +kernel), List.mem_of_getElem? (i := 1253) (by decide +kernel), List.mem_of_getElem? (i := 1254) (by decide +kernel)⟩
theorem lw_p61 : lw_okq (⟨"KeptAnswersModel", "findCovers", "(I)Z"⟩, 65) := ⟨⟨by decide +kernel, by decide +kernel⟩, List.mem_of_getElem? (i := 865) (by decide +kernel), List.mem_of_getElem? (i := 1261) (by decide +kernel), List.mem_of_getElem? (i := 1262) (by decide +kernel)⟩
theorem lw_p62 : lw_okq (⟨"KeptAnswersModel", "isCover", "(II)Z"⟩, 65) := ⟨⟨by decide +kernel, by decide +kernel⟩, List.mem_of_getElem? (i := 865) (by decide +kernel), List.mem_of_getElem? (i := 1268) (by decide +kernel), List.mem_of_getElem? (i := 1269) (by decide +kernel)⟩
theorem lw_p63 : lw_okq (⟨"KeptAnswersModel", "isShown", "(II)Z"⟩, 65) := ⟨⟨by decide +kernel, by decide +kernel⟩, List.mem_of_getElem? (i := 865) (by decide +kernel), List.mem_of_getElem? (i := 1272) (by decide +kernel), List.mem_of_getElem? (i := 1273) (by decide +kernel)⟩
def lw_privs_4 : List (MethodName × Nat) := [(⟨"KeptAnswersModel", "findEnd", "(I)V"⟩, 65), (⟨"KeptAnswersModel", "load", "(I)V"⟩, 65), (⟨"KeptAnswersModel", "goToEnd", "()V"⟩, 65), (⟨"KeptAnswersModel", "thin", "()V"⟩, 65), (⟨"KeptAnswersModel", "step", "()Z"⟩, 65), (⟨"KeptAnswersModel", "replace", "(II)V"⟩, 65), (⟨"KeptAnswersModel", "isWithin", "(II)Z"⟩, 65), (⟨"KeptAnswersModel", "liesWithin", "(I)Z"⟩, 65), (⟨"KeptAnswersModel", "nextWay", "(IZ)Z"⟩, 65), (⟨"KeptAnswersModel", "agree", "(II)Z"⟩, 65), (⟨"KeptAnswersModel", "findShows", "(I)Z"⟩, 65), (⟨"KeptAnswersModel", "termsOf", "(I)I"⟩, 65), (⟨"KeptAnswersModel", "termOf", "(II)I"⟩, 65), (⟨"KeptAnswersModel", "findCovers", "(I)Z"⟩, 65), (⟨"KeptAnswersModel", "isCover", "(II)Z"⟩, 65), (⟨"KeptAnswersModel", "isShown", "(II)Z"⟩, 65)]
theorem lw_r4 : ∀ q ∈ lw_privs_4, lw_okq q := List.forall_mem_cons.mpr ⟨lw_p48, List.forall_mem_cons.mpr ⟨lw_p49, List.forall_mem_cons.mpr ⟨lw_p50, List.forall_mem_cons.mpr ⟨lw_p51, List.forall_mem_cons.mpr ⟨lw_p52, List.forall_mem_cons.mpr ⟨lw_p53, List.forall_mem_cons.mpr ⟨lw_p54, List.forall_mem_cons.mpr ⟨lw_p55, List.forall_mem_cons.mpr ⟨lw_p56, List.forall_mem_cons.mpr ⟨lw_p57, List.forall_mem_cons.mpr ⟨lw_p58, List.forall_mem_cons.mpr ⟨lw_p59, List.forall_mem_cons.mpr ⟨lw_p60, List.forall_mem_cons.mpr ⟨lw_p61, List.forall_mem_cons.mpr ⟨lw_p62, List.forall_mem_cons.mpr ⟨lw_p63, fun _ h => absurd h List.not_mem_nil⟩⟩⟩⟩⟩⟩⟩⟩⟩⟩⟩⟩⟩⟩⟩⟩
theorem lw_p64 : lw_okq (⟨"KeptAnswersModel", "open", "(II)V"⟩, 65) := ⟨⟨by decide +kernel, by decide +kernel⟩, List.mem_of_getElem? (i := 865) (by decide +kernel), List.mem_of_getElem? (i := 1276) (by decide +kernel), List.mem_of_getElem? (i := 1277) (by decide +kernel)⟩
theorem lw_p65 : lw_okq (⟨"KeptAnswersModel", "areViews", "(I)Z"⟩, 65) := ⟨⟨by decide +kernel, by decide +kernel⟩, List.mem_of_getElem? (i := 865) (by decide +kernel), List.mem_of_getElem? (i := 1291) (by decide +kernel), List.mem_of_getElem? (i := 1292) (by decide +kernel)⟩
theorem lw_p66 : lw_okq (⟨"KeptAnswersModel", "isCovered", "(I)Z"⟩, 65) := ⟨⟨by decide +kernel, by decide +kernel⟩, List.mem_of_getElem? (i := 865) (by decide +kernel), List.mem_of_getElem? (i := 1295) (by decide +kernel), List.mem_of_getElem? (i := 1296) (by decide +kernel)⟩
theorem lw_p67 : lw_okq (⟨"KeptAnswersModel", "viewsOf", "(I)I"⟩, 65) := ⟨⟨by decide +kernel, by decide +kernel⟩, List.mem_of_getElem? (i := 865) (by decide +kernel), List.mem_of_getElem? (i := 1299) (by decide +kernel), List.mem_of_getElem? (i := 1300) (by decide +kernel)⟩
theorem lw_p68 : lw_okq (⟨"KeptAnswersModel", "isWorld", "(I)Z"⟩, 65) := ⟨⟨by decide +kernel, by decide +kernel⟩, List.mem_of_getElem? (i := 865) (by decide +kernel), List.mem_of_getElem? (i := 1311) (by decide +kernel), List.mem_of_getElem? (i := 1312) (by decide +kernel)⟩
theorem lw_p69 : lw_okq (⟨"KeptAnswersModel", "findSure", "(I)V"⟩, 65) := ⟨⟨by decide +kernel, by decide +kernel⟩, List.mem_of_getElem? (i := 865) (by decide +kernel), List.mem_of_getElem? (i := 1319) (by decide +kernel), List.mem_of_getElem? (i := 1320) (by decide +kernel)⟩
theorem lw_p70 : lw_okq (⟨"KeptAnswersModel", "isSettled", "(I)Z"⟩, 65) := ⟨⟨by decide +kernel, by decide +kernel⟩, List.mem_of_getElem? (i := 865) (by decide +kernel), List.mem_of_getElem? (i := 1327) (by decide +kernel), List.mem_of_getElem? (i := 1328) (by decide +kernel)⟩
theorem lw_p71 : lw_okq (⟨"KeptAnswersModel", "findCovered", "()Z"⟩, 65) := ⟨⟨by decide +kernel, by decide +kernel⟩, List.mem_of_getElem? (i := 865) (by decide +kernel), List.mem_of_getElem? (i := 1347) (by decide +kernel), List.mem_of_getElem? (i := 1348) (by decide +kernel)⟩
theorem lw_p72 : lw_okq (⟨"KeptAnswersModel", "costOf", "(I)I"⟩, 65) := ⟨⟨by decide +kernel, by decide +kernel⟩, List.mem_of_getElem? (i := 865) (by decide +kernel), List.mem_of_getElem? (i := 1351) (by decide +kernel), List.mem_of_getElem? (i := 1352) (by decide +kernel)⟩
theorem lw_p73 : lw_okq (⟨"KeptAnswersModel", "sizeOf", "(I)I"⟩, 65) := ⟨⟨by decide +kernel, by decide +kernel⟩, List.mem_of_getElem? (i := 865) (by decide +kernel), List.mem_of_getElem? (i := 1359) (by decide +kernel), List.mem_of_getElem? (i := 1360) (by decide +kernel)⟩
theorem lw_p74 : lw_okq (⟨"KeptAnswersModel", "orderOf", "(I)I"⟩, 65) := ⟨⟨by decide +kernel, by decide +kernel⟩, List.mem_of_getElem? (i := 865) (by decide +kernel), List.mem_of_getElem? (i := 1379) (by decide +kernel), List.mem_of_getElem? (i := 1380) (by decide +kernel)⟩
theorem lw_p75 : lw_okq (⟨"KeptAnswersModel", "moveAll", "()V"⟩, 65) := ⟨⟨by decide +kernel, by decide +kernel⟩, List.mem_of_getElem? (i := 865) (by decide +kernel), List.mem_of_getElem? (i := 1387) (by decide +kernel), List.mem_of_getElem? (i := 1388) (by decide +kernel)⟩
theorem lw_p76 : lw_okq (⟨"KeptAnswersModel", "move", "(I)I"⟩, 65) := ⟨⟨by decide +kernel, by decide +kernel⟩, List.mem_of_getElem? (i := 865) (by decide +kernel), List.mem_of_getElem? (i := 1391) (by decide +kernel), List.mem_of_getElem? (i := 1392) (by decide +kernel)⟩
def lw_privs_5 : List (MethodName × Nat) := [(⟨"KeptAnswersModel", "open", "(II)V"⟩, 65), (⟨"KeptAnswersModel", "areViews", "(I)Z"⟩, 65), (⟨"KeptAnswersModel", "isCovered", "(I)Z"⟩, 65), (⟨"KeptAnswersModel", "viewsOf", "(I)I"⟩, 65), (⟨"KeptAnswersModel", "isWorld", "(I)Z"⟩, 65), (⟨"KeptAnswersModel", "findSure", "(I)V"⟩, 65), (⟨"KeptAnswersModel", "isSettled", "(I)Z"⟩, 65), (⟨"KeptAnswersModel", "findCovered", "()Z"⟩, 65), (⟨"KeptAnswersModel", "costOf", "(I)I"⟩, 65), (⟨"KeptAnswersModel", "sizeOf", "(I)I"⟩, 65), (⟨"KeptAnswersModel", "orderOf", "(I)I"⟩, 65), (⟨"KeptAnswersModel", "moveAll", "()V"⟩, 65), (⟨"KeptAnswersModel", "move", "(I)I"⟩, 65)]
theorem lw_r5 : ∀ q ∈ lw_privs_5, lw_okq q := List.forall_mem_cons.mpr ⟨lw_p64, List.forall_mem_cons.mpr ⟨lw_p65, List.forall_mem_cons.mpr ⟨lw_p66, List.forall_mem_cons.mpr ⟨lw_p67, List.forall_mem_cons.mpr ⟨lw_p68, List.forall_mem_cons.mpr ⟨lw_p69, List.forall_mem_cons.mpr ⟨lw_p70, List.forall_mem_cons.mpr ⟨lw_p71, List.forall_mem_cons.mpr ⟨lw_p72, List.forall_mem_cons.mpr ⟨lw_p73, List.forall_mem_cons.mpr ⟨lw_p74, List.forall_mem_cons.mpr ⟨lw_p75, List.forall_mem_cons.mpr ⟨lw_p76, fun _ h => absurd h List.not_mem_nil⟩⟩⟩⟩⟩⟩⟩⟩⟩⟩⟩⟩⟩
def lw_privs : List (MethodName × Nat) := lw_privs_1 ++ (lw_privs_2 ++ (lw_privs_3 ++ (lw_privs_4 ++ (lw_privs_5))))
def lw_tbl : List Cond := k2_sels lw_privs ++ tables_1
theorem lw_privs_ok : ∀ q ∈ lw_privs, lw_okq q := by
  show ∀ q ∈ lw_privs_1 ++ (lw_privs_2 ++ (lw_privs_3 ++ (lw_privs_4 ++ (lw_privs_5)))), lw_okq q
  exact List.forall_mem_append.mpr ⟨lw_r1, List.forall_mem_append.mpr ⟨lw_r2, List.forall_mem_append.mpr ⟨lw_r3, List.forall_mem_append.mpr ⟨lw_r4, lw_r5⟩⟩⟩⟩
def xCl : List String := ["KeptAnswers", "KeptAnswers$Book", "KeptAnswers$Changes", "KeptAnswers$Holding", "KeptAnswers$Leading", "KeptAnswers$Picture", "KeptAnswers$Sight", "KeptAnswers$Text", "KeptAnswers$Worlds", "KeptAnswersModel", "KeptAnswersLaw", "java/lang/Integer", "java/lang/Long", "java/lang/Math", "java/lang/System", "java/util/Arrays"]
def xCn (c : Nat) : String := xCl.getD c ""
def xTab : List (List (String × String × String × Bool)) := [[("KeptAnswers", "held", "LKeptAnswers$Holding;", true), ("KeptAnswers", "taken", "LKeptAnswers$Holding;", true), ("KeptAnswers", "isTaken", "Z", false), ("KeptAnswers", "text", "LKeptAnswers$Text;", true), ("KeptAnswers", "book", "LKeptAnswers$Book;", true), ("KeptAnswers", "changes", "LKeptAnswers$Changes;", true), ("KeptAnswers", "sights", "[LKeptAnswers$Sight;", true), ("KeptAnswers", "opened", "LKeptAnswers$Picture;", true), ("KeptAnswers", "possible", "LKeptAnswers$Worlds;", true), ("KeptAnswers", "refusals", "[I", true)],
  [("KeptAnswers$Book", "bytes", "[I", true), ("KeptAnswers$Book", "length", "I", false)],
  [("KeptAnswers$Changes", "turned", "[I", true), ("KeptAnswers$Changes", "count", "I", false)],
  [("KeptAnswers$Holding", "tables", "I", false), ("KeptAnswers$Holding", "keys", "I", false), ("KeptAnswers$Holding", "askCount", "I", false), ("KeptAnswers$Holding", "viewCount", "I", false), ("KeptAnswers$Holding", "kept", "I", false), ("KeptAnswers$Holding", "given", "I", false), ("KeptAnswers$Holding", "room", "I", false), ("KeptAnswers$Holding", "away", "I", false), ("KeptAnswers$Holding", "asks", "[LKeptAnswers$Picture;", true), ("KeptAnswers$Holding", "views", "[LKeptAnswers$Picture;", true), ("KeptAnswers$Holding", "keptAnswers", "[I", true), ("KeptAnswers$Holding", "weights", "[I", true), ("KeptAnswers$Holding", "sizes", "[I", true), ("KeptAnswers$Holding", "mends", "[I", true), ("KeptAnswers$Holding", "froms", "[I", true), ("KeptAnswers$Holding", "tos", "[I", true)],
  [],
  [("KeptAnswers$Picture", "rowCount", "I", false), ("KeptAnswers$Picture", "tables", "[I", true), ("KeptAnswers$Picture", "firsts", "[I", true), ("KeptAnswers$Picture", "seconds", "[I", true), ("KeptAnswers$Picture", "headLength", "I", false), ("KeptAnswers$Picture", "head", "[I", true), ("KeptAnswers$Picture", "stepCount", "I", false), ("KeptAnswers$Picture", "nothing", "Z", false)],
  [("KeptAnswers$Sight", "end", "LKeptAnswers$Picture;", true), ("KeptAnswers$Sight", "found", "[I", true), ("KeptAnswers$Sight", "showCount", "I", false), ("KeptAnswers$Sight", "spent", "Z", false), ("KeptAnswers$Sight", "coverSets", "[J", true), ("KeptAnswers$Sight", "coveringViews", "J", false), ("KeptAnswers$Sight", "leastSet", "I", false), ("KeptAnswers$Sight", "leastMany", "I", false), ("KeptAnswers$Sight", "isSeen", "Z", false), ("KeptAnswers$Sight", "isSeenThrough", "Z", false)],
  [("KeptAnswers$Text", "bytes", "[I", true), ("KeptAnswers$Text", "length", "I", false)],
  [("KeptAnswers$Worlds", "open", "[J", true), ("KeptAnswers$Worlds", "agreeing", "[[J", true), ("KeptAnswers$Worlds", "giving", "[[J", true), ("KeptAnswers$Worlds", "left", "[J", true)],
  [("KeptAnswersModel", "tables", "[I", true), ("KeptAnswersModel", "keys", "[Z", true), ("KeptAnswersModel", "changes", "[I", true), ("KeptAnswersModel", "changed", "I", false), ("KeptAnswersModel", "book", "[I", true), ("KeptAnswersModel", "bookMany", "I", false), ("KeptAnswersModel", "text", "[I", true), ("KeptAnswersModel", "textMany", "I", false), ("KeptAnswersModel", "asks", "I", false), ("KeptAnswersModel", "views", "I", false), ("KeptAnswersModel", "rowMany", "[I", true), ("KeptAnswersModel", "rowTable", "[I", true), ("KeptAnswersModel", "rowA", "[I", true), ("KeptAnswersModel", "rowB", "[I", true), ("KeptAnswersModel", "headMany", "[I", true), ("KeptAnswersModel", "head", "[I", true), ("KeptAnswersModel", "kept", "[I", true), ("KeptAnswersModel", "weights", "[I", true), ("KeptAnswersModel", "sizes", "[I", true), ("KeptAnswersModel", "mends", "[I", true), ("KeptAnswersModel", "from", "[I", true), ("KeptAnswersModel", "to", "[I", true), ("KeptAnswersModel", "isGiven", "[Z", true), ("KeptAnswersModel", "room", "I", false), ("KeptAnswersModel", "away", "I", false), ("KeptAnswersModel", "refused", "[I", true), ("KeptAnswersModel", "at", "I", false), ("KeptAnswersModel", "end", "I", false), ("KeptAnswersModel", "isBad", "Z", false), ("KeptAnswersModel", "eMany", "I", false), ("KeptAnswersModel", "eTable", "[I", true), ("KeptAnswersModel", "eA", "[I", true), ("KeptAnswersModel", "eB", "[I", true), ("KeptAnswersModel", "eHeadMany", "I", false), ("KeptAnswersModel", "eHead", "[I", true), ("KeptAnswersModel", "isNothing", "Z", false), ("KeptAnswersModel", "stepMany", "I", false), ("KeptAnswersModel", "pick", "[I", true), ("KeptAnswersModel", "goes", "[I", true), ("KeptAnswersModel", "showMany", "I", false), ("KeptAnswersModel", "isSpent", "Z", false), ("KeptAnswersModel", "showView", "[I", true), ("KeptAnswersModel", "showTerms", "[I", true), ("KeptAnswersModel", "aMany", "I", false), ("KeptAnswersModel", "aTable", "[I", true), ("KeptAnswersModel", "aA", "[I", true), ("KeptAnswersModel", "aB", "[I", true), ("KeptAnswersModel", "aHeadMany", "I", false), ("KeptAnswersModel", "aHead", "[I", true), ("KeptAnswersModel", "isAskNothing", "Z", false), ("KeptAnswersModel", "found", "[Z", true), ("KeptAnswersModel", "named", "[I", true), ("KeptAnswersModel", "coverMany", "I", false), ("KeptAnswersModel", "coverSet", "[I", true), ("KeptAnswersModel", "all", "I", false), ("KeptAnswersModel", "some", "I", false), ("KeptAnswersModel", "worldMany", "I", false), ("KeptAnswersModel", "isOne", "[Z", true), ("KeptAnswersModel", "answers", "[I", true), ("KeptAnswersModel", "differs", "[Z", true), ("KeptAnswersModel", "covered", "[Z", true), ("KeptAnswersModel", "hasImage", "Z", false), ("KeptAnswersModel", "imaged", "[I", true), ("KeptAnswersModel", "imageAt", "I", false), ("KeptAnswersModel", "isTaking", "Z", false)]]
def xTf (c : Nat) : u_T := fun k => (xTab.getD c []).getD k ("", "", "", false)
def xTyL : List (List FieldType) := [[.object "KeptAnswers$Holding", .object "KeptAnswers$Holding", .boolean, .object "KeptAnswers$Text", .object "KeptAnswers$Book", .object "KeptAnswers$Changes", .array (.object "KeptAnswers$Sight"), .object "KeptAnswers$Picture", .object "KeptAnswers$Worlds", .array .int],
  [.array .int, .int],
  [.array .int, .int],
  [.int, .int, .int, .int, .int, .int, .int, .int, .array (.object "KeptAnswers$Picture"), .array (.object "KeptAnswers$Picture"), .array .int, .array .int, .array .int, .array .int, .array .int, .array .int],
  [],
  [.int, .array .int, .array .int, .array .int, .int, .array .int, .int, .boolean],
  [.object "KeptAnswers$Picture", .array .int, .int, .boolean, .array .long, .long, .int, .int, .boolean, .boolean],
  [.array .int, .int],
  [.array .long, .array (.array .long), .array (.array .long), .array .long],
  [.array .int, .array .boolean, .array .int, .int, .array .int, .int, .array .int, .int, .int, .int, .array .int, .array .int, .array .int, .array .int, .array .int, .array .int, .array .int, .array .int, .array .int, .array .int, .array .int, .array .int, .array .boolean, .int, .int, .array .int, .int, .int, .boolean, .int, .array .int, .array .int, .array .int, .int, .array .int, .boolean, .int, .array .int, .array .int, .int, .boolean, .array .int, .array .int, .int, .array .int, .array .int, .array .int, .int, .array .int, .boolean, .array .boolean, .array .int, .int, .array .int, .int, .int, .int, .array .boolean, .array .int, .array .boolean, .array .boolean, .boolean, .array .int, .int, .boolean]]
def xTy (c k : Nat) : FieldType := (xTyL.getD c []).getD k .int
/-- each method: its name, code, frame places, answer, class, arguments (its object among them) -/
abbrev xMT : Type := MethodName × ByteArray × Nat × Option FieldType × Nat × Nat
def xMt0 : List xMT := [(⟨"KeptAnswers", "<init>", "()V"⟩, prog_1_method_1_code, 2, none, 0, 1),
  (⟨"KeptAnswers", "in", "(III)I"⟩, prog_1_method_2_code, 6, some .int, 0, 4),
  (⟨"KeptAnswers", "out", "(III)I"⟩, prog_1_method_3_code, 6, some .int, 0, 4),
  (⟨"KeptAnswers", "undo", "()I"⟩, prog_1_method_4_code, 2, some .int, 0, 1),
  (⟨"KeptAnswers", "key", "(IZ)I"⟩, prog_1_method_5_code, 3, some .int, 0, 3),
  (⟨"KeptAnswers", "rows", "(I)I"⟩, prog_1_method_6_code, 2, some .int, 0, 2),
  (⟨"KeptAnswers", "put", "(I)I"⟩, prog_1_method_7_code, 2, some .int, 0, 2),
  (⟨"KeptAnswers", "read", "()I"⟩, prog_1_method_8_code, 4, some .int, 0, 1),
  (⟨"KeptAnswers", "feed", "(IJ)I"⟩, prog_1_method_9_code, 4, some .int, 0, 3),
  (⟨"KeptAnswers", "ask", "()I"⟩, prog_1_method_10_code, 2, some .int, 0, 1),
  (⟨"KeptAnswers", "view", "()I"⟩, prog_1_method_11_code, 2, some .int, 0, 1),
  (⟨"KeptAnswers", "answer", "(IZ)I"⟩, prog_1_method_12_code, 4, some .int, 0, 3),
  (⟨"KeptAnswers", "steps", "(II)I"⟩, prog_1_method_13_code, 4, some .int, 0, 3),
  (⟨"KeptAnswers", "end", "(II)I"⟩, prog_1_method_14_code, 4, some .int, 0, 3),
  (⟨"KeptAnswers", "within", "(II)I"⟩, prog_1_method_15_code, 3, some .int, 0, 3),
  (⟨"KeptAnswers", "same", "(II)I"⟩, prog_1_method_16_code, 3, some .int, 0, 3),
  (⟨"KeptAnswers", "shows", "(I)I"⟩, prog_1_method_17_code, 3, some .int, 0, 2),
  (⟨"KeptAnswers", "show", "(II)I"⟩, prog_1_method_18_code, 9, some .int, 0, 3),
  (⟨"KeptAnswers", "cover", "(II)I"⟩, prog_1_method_19_code, 4, some .int, 0, 3),
  (⟨"KeptAnswers", "covers", "(II)I"⟩, prog_1_method_20_code, 4, some .int, 0, 3),
  (⟨"KeptAnswers", "may", "(II)I"⟩, prog_1_method_21_code, 4, some .int, 0, 3),
  (⟨"KeptAnswers", "keep", "(IZ)I"⟩, prog_1_method_22_code, 3, some .int, 0, 3),
  (⟨"KeptAnswers", "worlds", "()I"⟩, prog_1_method_23_code, 1, some .int, 0, 1),
  (⟨"KeptAnswers", "sure", "(II)I"⟩, prog_1_method_24_code, 3, some .int, 0, 3),
  (⟨"KeptAnswers", "besides", "(I)I"⟩, prog_1_method_25_code, 2, some .int, 0, 2),
  (⟨"KeptAnswers", "weight", "(II)I"⟩, prog_1_method_26_code, 4, some .int, 0, 3),
  (⟨"KeptAnswers", "size", "(III)I"⟩, prog_1_method_27_code, 4, some .int, 0, 4),
  (⟨"KeptAnswers", "set", "(II)I"⟩, prog_1_method_28_code, 4, some .int, 0, 3),
  (⟨"KeptAnswers", "cost", "(I)I"⟩, prog_1_method_29_code, 2, some .int, 0, 2),
  (⟨"KeptAnswers", "which", "(I)I"⟩, prog_1_method_30_code, 3, some .int, 0, 2),
  (⟨"KeptAnswers", "hours", "(III)I"⟩, prog_1_method_31_code, 4, some .int, 0, 4),
  (⟨"KeptAnswers", "latest", "(I)I"⟩, prog_1_method_32_code, 6, some .int, 0, 2),
  (⟨"KeptAnswers", "given", "(IZ)I"⟩, prog_1_method_33_code, 3, some .int, 0, 3),
  (⟨"KeptAnswers", "plan", "(I)I"⟩, prog_1_method_34_code, 3, some .int, 0, 2),
  (⟨"KeptAnswers", "image", "()I"⟩, prog_1_method_35_code, 1, some .int, 0, 1),
  (⟨"KeptAnswers", "restore", "()I"⟩, prog_1_method_36_code, 1, some .int, 0, 1),
  (⟨"KeptAnswers", "count", "(I)I"⟩, prog_1_method_37_code, 2, some .int, 0, 2),
  (⟨"KeptAnswers", "refuse", "(I)I"⟩, prog_1_method_38_code, 2, some .int, 0, 2),
  (⟨"KeptAnswers", "isTable", "(I)Z"⟩, prog_1_method_39_code, 1, some .boolean, 0, 1),
  (⟨"KeptAnswers", "isAsk", "(I)Z"⟩, prog_1_method_40_code, 2, some .boolean, 0, 2)]
def xMt1 : List xMT := [(⟨"KeptAnswers", "isView", "(I)Z"⟩, prog_1_method_41_code, 2, some .boolean, 0, 2),
  (⟨"KeptAnswers", "areViews", "(I)Z"⟩, prog_1_method_42_code, 2, some .boolean, 0, 2),
  (⟨"KeptAnswers", "rowRefusal", "(III)I"⟩, prog_1_method_43_code, 3, some .int, 0, 3),
  (⟨"KeptAnswers", "showsRefusal", "(I)I"⟩, prog_1_method_44_code, 2, some .int, 0, 2),
  (⟨"KeptAnswers", "rowBit", "(III)I"⟩, prog_1_method_45_code, 3, some .int, 0, 3),
  (⟨"KeptAnswers", "bringIn", "(I)V"⟩, prog_1_method_46_code, 2, none, 0, 2),
  (⟨"KeptAnswers", "forgetSights", "()V"⟩, prog_1_method_47_code, 2, none, 0, 1),
  (⟨"KeptAnswers", "seen", "(I)LKeptAnswers$Sight;"⟩, prog_1_method_48_code, 2, some (.object "KeptAnswers$Sight"), 0, 2),
  (⟨"KeptAnswers", "seenThrough", "(I)LKeptAnswers$Sight;"⟩, prog_1_method_49_code, 2, some (.object "KeptAnswers$Sight"), 0, 2),
  (⟨"KeptAnswers", "liesWithin", "(II)Z"⟩, prog_1_method_50_code, 3, some .boolean, 0, 3),
  (⟨"KeptAnswers", "knowsAllCovers", "()Z"⟩, prog_1_method_51_code, 2, some .boolean, 0, 1),
  (⟨"KeptAnswers", "costOf", "(I)I"⟩, prog_1_method_52_code, 4, some .int, 0, 2),
  (⟨"KeptAnswers", "cheapestViews", "()I"⟩, prog_1_method_53_code, 6, some .int, 0, 1),
  (⟨"KeptAnswers$Book", "<init>", "()V"⟩, prog_2_method_1_code, 1, none, 1, 1),
  (⟨"KeptAnswers$Book", "isFull", "()Z"⟩, prog_2_method_2_code, 1, some .boolean, 1, 1),
  (⟨"KeptAnswers$Book", "write", "(I)V"⟩, prog_2_method_3_code, 2, none, 1, 2),
  (⟨"KeptAnswers$Book", "rowAt", "(I)I"⟩, prog_2_method_4_code, 5, some .int, 1, 2),
  (⟨"KeptAnswers$Changes", "<init>", "()V"⟩, prog_3_method_1_code, 1, none, 2, 1),
  (⟨"KeptAnswers$Changes", "note", "(I)V"⟩, prog_3_method_2_code, 2, none, 2, 2),
  (⟨"KeptAnswers$Changes", "latestRow", "()I"⟩, prog_3_method_3_code, 1, some .int, 2, 1),
  (⟨"KeptAnswers$Changes", "dropLatest", "()V"⟩, prog_3_method_4_code, 1, none, 2, 1),
  (⟨"KeptAnswers$Holding", "<init>", "()V"⟩, prog_4_method_1_code, 2, none, 3, 1),
  (⟨"KeptAnswers$Holding", "copyFrom", "(LKeptAnswers$Holding;)V"⟩, prog_4_method_2_code, 3, none, 3, 2),
  (⟨"KeptAnswers$Holding", "hasRow", "(I)Z"⟩, prog_4_method_3_code, 2, some .boolean, 3, 2),
  (⟨"KeptAnswers$Holding", "turnRow", "(I)V"⟩, prog_4_method_4_code, 2, none, 3, 2),
  (⟨"KeptAnswers$Holding", "rowsOf", "(I)I"⟩, prog_4_method_5_code, 2, some .int, 3, 2),
  (⟨"KeptAnswers$Holding", "hasKey", "(I)Z"⟩, prog_4_method_6_code, 2, some .boolean, 3, 2),
  (⟨"KeptAnswers$Holding", "hasDoubleX", "(I)Z"⟩, prog_4_method_7_code, 3, some .boolean, 3, 2),
  (⟨"KeptAnswers$Holding", "breaksKey", "(I)Z"⟩, prog_4_method_8_code, 2, some .boolean, 3, 2),
  (⟨"KeptAnswers$Holding", "sumOver", "([II)I"⟩, prog_4_method_9_code, 5, some .int, 3, 3),
  (⟨"KeptAnswers$Holding", "latestHour", "(I)I"⟩, prog_4_method_10_code, 5, some .int, 3, 2),
  (⟨"KeptAnswers$Leading", "isWithin", "(LKeptAnswers$Picture;LKeptAnswers$Picture;)Z"⟩, prog_5_method_2_code, 5, some .boolean, 4, 2),
  (⟨"KeptAnswers$Leading", "findShows", "(LKeptAnswers$Picture;ILKeptAnswers$Sight;)V"⟩, prog_5_method_3_code, 3, none, 4, 3),
  (⟨"KeptAnswers$Leading", "targetOf", "(JI)I"⟩, prog_5_method_4_code, 3, some .int, 4, 2),
  (⟨"KeptAnswers$Leading", "lead", "(JII)J"⟩, prog_5_method_5_code, 5, some .long, 4, 3),
  (⟨"KeptAnswers$Leading", "leadRows", "(LKeptAnswers$Picture;LKeptAnswers$Picture;JILKeptAnswers$Sight;I)Z"⟩, prog_5_method_6_code, 10, some .boolean, 4, 6),
  (⟨"KeptAnswers$Picture", "<init>", "(I)V"⟩, prog_6_method_1_code, 3, none, 5, 2),
  (⟨"KeptAnswers$Picture", "clear", "()V"⟩, prog_6_method_2_code, 1, none, 5, 1),
  (⟨"KeptAnswers$Picture", "addRow", "(III)V"⟩, prog_6_method_3_code, 4, none, 5, 4),
  (⟨"KeptAnswers$Picture", "addToHead", "(I)V"⟩, prog_6_method_4_code, 2, none, 5, 2)]
def xMt2 : List xMT := [(⟨"KeptAnswers$Picture", "copyFrom", "(LKeptAnswers$Picture;)V"⟩, prog_6_method_5_code, 3, none, 5, 2),
  (⟨"KeptAnswers$Picture", "copyHead", "(LKeptAnswers$Picture;)V"⟩, prog_6_method_6_code, 3, none, 5, 2),
  (⟨"KeptAnswers$Picture", "names", "()I"⟩, prog_6_method_7_code, 3, some .int, 5, 1),
  (⟨"KeptAnswers$Picture", "headNames", "()I"⟩, prog_6_method_8_code, 3, some .int, 5, 1),
  (⟨"KeptAnswers$Picture", "placeInHead", "(I)I"⟩, prog_6_method_9_code, 3, some .int, 5, 2),
  (⟨"KeptAnswers$Picture", "answerBy", "(I)I"⟩, prog_6_method_10_code, 5, some .int, 5, 2),
  (⟨"KeptAnswers$Picture", "fits", "(II)Z"⟩, prog_6_method_11_code, 2, some .boolean, 5, 2),
  (⟨"KeptAnswers$Picture", "rowsBy", "(I)I"⟩, prog_6_method_12_code, 4, some .int, 5, 2),
  (⟨"KeptAnswers$Picture", "headBy", "(I)I"⟩, prog_6_method_13_code, 4, some .int, 5, 2),
  (⟨"KeptAnswers$Picture", "valueOf", "(II)I"⟩, prog_6_method_14_code, 2, some .int, 5, 2),
  (⟨"KeptAnswers$Picture", "becomeEnd", "(I)V"⟩, prog_6_method_15_code, 5, none, 5, 2),
  (⟨"KeptAnswers$Picture", "firstClashing", "(I)I"⟩, prog_6_method_16_code, 3, some .int, 5, 2),
  (⟨"KeptAnswers$Picture", "clashOf", "(II)I"⟩, prog_6_method_17_code, 4, some .int, 5, 3),
  (⟨"KeptAnswers$Picture", "makeOne", "(II)V"⟩, prog_6_method_18_code, 4, none, 5, 3),
  (⟨"KeptAnswers$Picture", "dropDoubles", "()V"⟩, prog_6_method_19_code, 3, none, 5, 1),
  (⟨"KeptAnswers$Picture", "hasRow", "(III)Z"⟩, prog_6_method_20_code, 5, some .boolean, 5, 4),
  (⟨"KeptAnswers$Sight", "<init>", "()V"⟩, prog_7_method_1_code, 1, none, 6, 1),
  (⟨"KeptAnswers$Sight", "forget", "()V"⟩, prog_7_method_2_code, 1, none, 6, 1),
  (⟨"KeptAnswers$Sight", "look", "(LKeptAnswers$Picture;LKeptAnswers$Holding;)V"⟩, prog_7_method_3_code, 4, none, 6, 3),
  (⟨"KeptAnswers$Sight", "takeShow", "(ILKeptAnswers$Picture;J)Z"⟩, prog_7_method_4_code, 8, some .boolean, 6, 4),
  (⟨"KeptAnswers$Sight", "viewOf", "(I)I"⟩, prog_7_method_5_code, 2, some .int, 6, 2),
  (⟨"KeptAnswers$Sight", "termOf", "(II)I"⟩, prog_7_method_6_code, 3, some .int, 6, 3),
  (⟨"KeptAnswers$Sight", "lookThrough", "(LKeptAnswers$Picture;LKeptAnswers$Holding;LKeptAnswers$Picture;)V"⟩, prog_7_method_7_code, 7, none, 6, 4),
  (⟨"KeptAnswers$Sight", "noteCover", "(I)V"⟩, prog_7_method_8_code, 2, none, 6, 2),
  (⟨"KeptAnswers$Sight", "isCover", "(I)Z"⟩, prog_7_method_9_code, 2, some .boolean, 6, 2),
  (⟨"KeptAnswers$Sight", "isCoveredBy", "(I)Z"⟩, prog_7_method_10_code, 2, some .boolean, 6, 2),
  (⟨"KeptAnswers$Sight", "hasCoverIn", "(I)Z"⟩, prog_7_method_11_code, 3, some .boolean, 6, 2),
  (⟨"KeptAnswers$Sight", "viewsOf", "(I)I"⟩, prog_7_method_12_code, 4, some .int, 6, 2),
  (⟨"KeptAnswers$Sight", "termsOf", "(I)I"⟩, prog_7_method_13_code, 4, some .int, 6, 2),
  (⟨"KeptAnswers$Sight", "openSet", "(LKeptAnswers$Picture;ILKeptAnswers$Holding;)Z"⟩, prog_7_method_14_code, 7, some .boolean, 6, 4),
  (⟨"KeptAnswers$Sight", "openShow", "(LKeptAnswers$Picture;LKeptAnswers$Picture;II)V"⟩, prog_7_method_15_code, 8, none, 6, 5),
  (⟨"KeptAnswers$Sight", "openTerm", "(LKeptAnswers$Picture;III)I"⟩, prog_7_method_16_code, 6, some .int, 6, 5),
  (⟨"KeptAnswers$Sight", "bestPlan", "(I)I"⟩, prog_7_method_17_code, 5, some .int, 6, 2),
  (⟨"KeptAnswers$Sight", "orderOf", "(II)I"⟩, prog_7_method_18_code, 9, some .int, 6, 3),
  (⟨"KeptAnswers$Sight", "nextToAsk", "(III)I"⟩, prog_7_method_19_code, 6, some .int, 6, 4),
  (⟨"KeptAnswers$Text", "<init>", "()V"⟩, prog_8_method_1_code, 1, none, 7, 1),
  (⟨"KeptAnswers$Text", "hasRoom", "(I)Z"⟩, prog_8_method_2_code, 2, some .boolean, 7, 2),
  (⟨"KeptAnswers$Text", "append", "(IJ)V"⟩, prog_8_method_3_code, 5, none, 7, 3),
  (⟨"KeptAnswers$Text", "parseInto", "(LKeptAnswers$Picture;)I"⟩, prog_8_method_4_code, 5, some .int, 7, 2),
  (⟨"KeptAnswers$Text", "parseRow", "(LKeptAnswers$Picture;I)I"⟩, prog_8_method_5_code, 6, some .int, 7, 3)]
def xMt3 : List xMT := [(⟨"KeptAnswers$Text", "parseHead", "(LKeptAnswers$Picture;I)I"⟩, prog_8_method_6_code, 6, some .int, 7, 3),
  (⟨"KeptAnswers$Text", "termAt", "(I)I"⟩, prog_8_method_7_code, 3, some .int, 7, 2),
  (⟨"KeptAnswers$Worlds", "<init>", "()V"⟩, prog_9_method_1_code, 1, none, 8, 1),
  (⟨"KeptAnswers$Worlds", "howMany", "(LKeptAnswers$Holding;)I"⟩, prog_9_method_2_code, 4, some .int, 8, 2),
  (⟨"KeptAnswers$Worlds", "answerOf", "(LKeptAnswers$Holding;LKeptAnswers$Picture;Z)I"⟩, prog_9_method_3_code, 6, some .int, 8, 4),
  (⟨"KeptAnswers$Worlds", "fewestBesides", "(LKeptAnswers$Holding;LKeptAnswers$Picture;)I"⟩, prog_9_method_4_code, 6, some .int, 8, 3),
  (⟨"KeptAnswers$Worlds", "settles", "(I)Z"⟩, prog_9_method_5_code, 3, some .boolean, 8, 2),
  (⟨"KeptAnswers$Worlds", "findOpen", "(LKeptAnswers$Holding;)V"⟩, prog_9_method_6_code, 3, none, 8, 2),
  (⟨"KeptAnswers$Worlds", "dropDoubleX", "(II)V"⟩, prog_9_method_7_code, 3, none, 8, 3),
  (⟨"KeptAnswers$Worlds", "keepAgreeing", "([JLKeptAnswers$Picture;I)V"⟩, prog_9_method_8_code, 5, none, 8, 4),
  (⟨"KeptAnswers$Worlds", "spread", "(LKeptAnswers$Picture;)V"⟩, prog_9_method_9_code, 4, none, 8, 2),
  (⟨"KeptAnswers$Worlds", "addWith", "([JI)V"⟩, prog_9_method_10_code, 6, none, 8, 2),
  (⟨"KeptAnswers$Worlds", "keepAlike", "([J[JZ)V"⟩, prog_9_method_11_code, 4, none, 8, 3),
  (⟨"KeptAnswers$Worlds", "isEmpty", "([J)Z"⟩, prog_9_method_12_code, 2, some .boolean, 8, 1),
  (⟨"KeptAnswers$Worlds", "meets", "([J[J)Z"⟩, prog_9_method_13_code, 3, some .boolean, 8, 2),
  (⟨"KeptAnswers$Worlds", "leaves", "([J[J)Z"⟩, prog_9_method_14_code, 3, some .boolean, 8, 2),
  (⟨"KeptAnswersModel", "<init>", "()V"⟩, prog_11_method_1_code, 2, none, 9, 1),
  (⟨"KeptAnswersModel", "isIn", "(JJJ)Z"⟩, prog_11_method_3_code, 6, some .boolean, 9, 3),
  (⟨"KeptAnswersModel", "refuse", "(I)I"⟩, prog_11_method_4_code, 2, some .int, 9, 2),
  (⟨"KeptAnswersModel", "isAsk", "(I)Z"⟩, prog_11_method_5_code, 2, some .boolean, 9, 2),
  (⟨"KeptAnswersModel", "isView", "(I)Z"⟩, prog_11_method_6_code, 2, some .boolean, 9, 2),
  (⟨"KeptAnswersModel", "ones", "(I)I"⟩, prog_11_method_7_code, 3, some .int, 9, 1),
  (⟨"KeptAnswersModel", "isKeyed", "(I)Z"⟩, prog_11_method_8_code, 1, some .boolean, 9, 1),
  (⟨"KeptAnswersModel", "wrongRow", "(III)I"⟩, prog_11_method_9_code, 4, some .int, 9, 4),
  (⟨"KeptAnswersModel", "remember", "(I)V"⟩, prog_11_method_10_code, 3, none, 9, 2),
  (⟨"KeptAnswersModel", "bring", "(III)I"⟩, prog_11_method_11_code, 5, some .int, 9, 4),
  (⟨"KeptAnswersModel", "in", "(III)I"⟩, prog_11_method_12_code, 6, some .int, 9, 4),
  (⟨"KeptAnswersModel", "out", "(III)I"⟩, prog_11_method_13_code, 6, some .int, 9, 4),
  (⟨"KeptAnswersModel", "undo", "()I"⟩, prog_11_method_14_code, 4, some .int, 9, 1),
  (⟨"KeptAnswersModel", "key", "(IZ)I"⟩, prog_11_method_15_code, 4, some .int, 9, 3),
  (⟨"KeptAnswersModel", "rows", "(I)I"⟩, prog_11_method_16_code, 2, some .int, 9, 2),
  (⟨"KeptAnswersModel", "put", "(I)I"⟩, prog_11_method_17_code, 2, some .int, 9, 2),
  (⟨"KeptAnswersModel", "read", "()I"⟩, prog_11_method_18_code, 5, some .int, 9, 1),
  (⟨"KeptAnswersModel", "feed", "(IJ)I"⟩, prog_11_method_19_code, 5, some .int, 9, 3),
  (⟨"KeptAnswersModel", "here", "()I"⟩, prog_11_method_20_code, 1, some .int, 9, 1),
  (⟨"KeptAnswersModel", "isName", "(I)Z"⟩, prog_11_method_21_code, 1, some .boolean, 9, 1),
  (⟨"KeptAnswersModel", "readTerm", "()I"⟩, prog_11_method_22_code, 2, some .int, 9, 1),
  (⟨"KeptAnswersModel", "readRow", "(I)V"⟩, prog_11_method_23_code, 6, none, 9, 2),
  (⟨"KeptAnswersModel", "stands", "(II)Z"⟩, prog_11_method_24_code, 5, some .boolean, 9, 3),
  (⟨"KeptAnswersModel", "readPicture", "(I)I"⟩, prog_11_method_25_code, 4, some .int, 9, 2)]
def xMt4 : List xMT := [(⟨"KeptAnswersModel", "ask", "()I"⟩, prog_11_method_26_code, 2, some .int, 9, 1),
  (⟨"KeptAnswersModel", "view", "()I"⟩, prog_11_method_27_code, 2, some .int, 9, 1),
  (⟨"KeptAnswersModel", "valueOf", "(II)I"⟩, prog_11_method_28_code, 2, some .int, 9, 2),
  (⟨"KeptAnswersModel", "answerBy", "(II)I"⟩, prog_11_method_29_code, 8, some .int, 9, 3),
  (⟨"KeptAnswersModel", "worldNow", "()I"⟩, prog_11_method_30_code, 1, some .int, 9, 1),
  (⟨"KeptAnswersModel", "answer", "(IZ)I"⟩, prog_11_method_31_code, 3, some .int, 9, 3),
  (⟨"KeptAnswersModel", "load", "(I)V"⟩, prog_11_method_32_code, 3, none, 9, 2),
  (⟨"KeptAnswersModel", "replace", "(II)V"⟩, prog_11_method_33_code, 4, none, 9, 3),
  (⟨"KeptAnswersModel", "thin", "()V"⟩, prog_11_method_34_code, 5, none, 9, 1),
  (⟨"KeptAnswersModel", "step", "()Z"⟩, prog_11_method_35_code, 5, some .boolean, 9, 1),
  (⟨"KeptAnswersModel", "goToEnd", "()V"⟩, prog_11_method_36_code, 2, none, 9, 1),
  (⟨"KeptAnswersModel", "findEnd", "(I)V"⟩, prog_11_method_37_code, 2, none, 9, 2),
  (⟨"KeptAnswersModel", "steps", "(II)I"⟩, prog_11_method_38_code, 3, some .int, 9, 3),
  (⟨"KeptAnswersModel", "end", "(II)I"⟩, prog_11_method_39_code, 3, some .int, 9, 3),
  (⟨"KeptAnswersModel", "agree", "(II)Z"⟩, prog_11_method_40_code, 6, some .boolean, 9, 3),
  (⟨"KeptAnswersModel", "nextWay", "(IZ)Z"⟩, prog_11_method_41_code, 4, some .boolean, 9, 3),
  (⟨"KeptAnswersModel", "liesWithin", "(I)Z"⟩, prog_11_method_42_code, 5, some .boolean, 9, 2),
  (⟨"KeptAnswersModel", "isWithin", "(II)Z"⟩, prog_11_method_43_code, 3, some .boolean, 9, 3),
  (⟨"KeptAnswersModel", "within", "(II)I"⟩, prog_11_method_44_code, 3, some .int, 9, 3),
  (⟨"KeptAnswersModel", "same", "(II)I"⟩, prog_11_method_45_code, 3, some .int, 9, 3),
  (⟨"KeptAnswersModel", "termsOf", "(I)I"⟩, prog_11_method_46_code, 4, some .int, 9, 2),
  (⟨"KeptAnswersModel", "termOf", "(II)I"⟩, prog_11_method_47_code, 5, some .int, 9, 3),
  (⟨"KeptAnswersModel", "findShows", "(I)Z"⟩, prog_11_method_48_code, 5, some .boolean, 9, 2),
  (⟨"KeptAnswersModel", "shows", "(I)I"⟩, prog_11_method_49_code, 2, some .int, 9, 2),
  (⟨"KeptAnswersModel", "show", "(II)I"⟩, prog_11_method_50_code, 6, some .int, 9, 3),
  (⟨"KeptAnswersModel", "open", "(II)V"⟩, prog_11_method_51_code, 5, none, 9, 3),
  (⟨"KeptAnswersModel", "isShown", "(II)Z"⟩, prog_11_method_52_code, 6, some .boolean, 9, 3),
  (⟨"KeptAnswersModel", "isCover", "(II)Z"⟩, prog_11_method_53_code, 5, some .boolean, 9, 3),
  (⟨"KeptAnswersModel", "findCovers", "(I)Z"⟩, prog_11_method_54_code, 3, some .boolean, 9, 2),
  (⟨"KeptAnswersModel", "viewsOf", "(I)I"⟩, prog_11_method_55_code, 4, some .int, 9, 2),
  (⟨"KeptAnswersModel", "isBetter", "(II)Z"⟩, prog_11_method_56_code, 2, some .boolean, 9, 2),
  (⟨"KeptAnswersModel", "cover", "(II)I"⟩, prog_11_method_57_code, 6, some .int, 9, 3),
  (⟨"KeptAnswersModel", "covers", "(II)I"⟩, prog_11_method_58_code, 3, some .int, 9, 3),
  (⟨"KeptAnswersModel", "isCovered", "(I)Z"⟩, prog_11_method_59_code, 4, some .boolean, 9, 2),
  (⟨"KeptAnswersModel", "areViews", "(I)Z"⟩, prog_11_method_60_code, 2, some .boolean, 9, 2),
  (⟨"KeptAnswersModel", "may", "(II)I"⟩, prog_11_method_61_code, 3, some .int, 9, 3),
  (⟨"KeptAnswersModel", "keep", "(IZ)I"⟩, prog_11_method_62_code, 3, some .int, 9, 3),
  (⟨"KeptAnswersModel", "isWorld", "(I)Z"⟩, prog_11_method_63_code, 4, some .boolean, 9, 2),
  (⟨"KeptAnswersModel", "worlds", "()I"⟩, prog_11_method_64_code, 3, some .int, 9, 1),
  (⟨"KeptAnswersModel", "findSure", "(I)V"⟩, prog_11_method_65_code, 4, none, 9, 2)]
def xMt5 : List xMT := [(⟨"KeptAnswersModel", "sure", "(II)I"⟩, prog_11_method_66_code, 3, some .int, 9, 3),
  (⟨"KeptAnswersModel", "besides", "(I)I"⟩, prog_11_method_67_code, 6, some .int, 9, 2),
  (⟨"KeptAnswersModel", "isSettled", "(I)Z"⟩, prog_11_method_68_code, 6, some .boolean, 9, 2),
  (⟨"KeptAnswersModel", "weight", "(II)I"⟩, prog_11_method_69_code, 4, some .int, 9, 3),
  (⟨"KeptAnswersModel", "size", "(III)I"⟩, prog_11_method_70_code, 4, some .int, 9, 4),
  (⟨"KeptAnswersModel", "set", "(II)I"⟩, prog_11_method_71_code, 4, some .int, 9, 3),
  (⟨"KeptAnswersModel", "findCovered", "()Z"⟩, prog_11_method_72_code, 3, some .boolean, 9, 1),
  (⟨"KeptAnswersModel", "costOf", "(I)I"⟩, prog_11_method_73_code, 4, some .int, 9, 2),
  (⟨"KeptAnswersModel", "cost", "(I)I"⟩, prog_11_method_74_code, 2, some .int, 9, 2),
  (⟨"KeptAnswersModel", "sizeOf", "(I)I"⟩, prog_11_method_75_code, 4, some .int, 9, 2),
  (⟨"KeptAnswersModel", "which", "(I)I"⟩, prog_11_method_76_code, 5, some .int, 9, 2),
  (⟨"KeptAnswersModel", "hours", "(III)I"⟩, prog_11_method_77_code, 4, some .int, 9, 4),
  (⟨"KeptAnswersModel", "latest", "(I)I"⟩, prog_11_method_78_code, 8, some .int, 9, 2),
  (⟨"KeptAnswersModel", "given", "(IZ)I"⟩, prog_11_method_79_code, 4, some .int, 9, 3),
  (⟨"KeptAnswersModel", "orderOf", "(I)I"⟩, prog_11_method_80_code, 9, some .int, 9, 2),
  (⟨"KeptAnswersModel", "plan", "(I)I"⟩, prog_11_method_81_code, 4, some .int, 9, 2),
  (⟨"KeptAnswersModel", "move", "(I)I"⟩, prog_11_method_82_code, 2, some .int, 9, 2),
  (⟨"KeptAnswersModel", "moveAll", "()V"⟩, prog_11_method_83_code, 2, none, 9, 1),
  (⟨"KeptAnswersModel", "image", "()I"⟩, prog_11_method_84_code, 1, some .int, 9, 1),
  (⟨"KeptAnswersModel", "restore", "()I"⟩, prog_11_method_85_code, 1, some .int, 9, 1),
  (⟨"KeptAnswersModel", "count", "(I)I"⟩, prog_11_method_86_code, 4, some .int, 9, 2),
  (⟨"java/lang/Integer", "bitCount", "(I)I"⟩, prog_12_method_49_code, 1, some .int, 11, 1),
  (⟨"java/lang/Long", "bitCount", "(J)I"⟩, prog_13_method_50_code, 2, some .int, 12, 1),
  (⟨"java/lang/Math", "max", "(II)I"⟩, prog_14_method_65_code, 2, some .int, 13, 2),
  (⟨"java/lang/Math", "min", "(II)I"⟩, prog_14_method_69_code, 2, some .int, 13, 2),
  (⟨"java/util/Arrays", "fill", "([JJ)V"⟩, prog_16_method_101_code, 5, none, 15, 2)]
def xMtL : List xMT := [(x, code, 4, ret, 10, 1)]
def xMt : List xMT := xMt0 ++ (xMt1 ++ (xMt2 ++ (xMt3 ++ (xMt4 ++ (xMt5 ++ xMtL)))))
def xMd : xMT := (⟨"", "", ""⟩, ⟨#[]⟩, 0, none, 0, 0)
def xMn (y : Nat) : MethodName := (xMt.getD y xMd).1
def xBy (y : Nat) : ByteArray := (xMt.getD y xMd).2.1
def xMl (y : Nat) : Nat := (xMt.getD y xMd).2.2.1
def xRt (y : Nat) : Option FieldType := (xMt.getD y xMd).2.2.2.1
def xOw (y : Nat) : Nat := (xMt.getD y xMd).2.2.2.2.1
def xNa (y : Nat) : Nat := (xMt.getD y xMd).2.2.2.2.2
def xFL : List (Nat × Nat × Nat) := [(5, 30, 50000), (4, 49, 50000), (0, 184, 50000), (6, 158, 50000), (5, 21, 50012), (4, 56, 50012), (0, 190, 50012), (6, 171, 50012), (5, 24, 50022), (4, 59, 50022), (0, 192, 50022), (6, 161, 50022), (5, 27, 50032), (4, 62, 50032), (0, 195, 50032), (6, 168, 50032), (4, 11, 50040), (5, 34, 50040), (6, 70, 50040), (0, 187, 50040), (5, 9, 50052), (4, 19, 50052), (6, 73, 50052), (5, 37, 50060), (0, 177, 50060), (5, 40, 50073), (4, 27, 50073), (6, 57, 50073), (0, 180, 50073), (3, 49, 30000), (8, 69, 30000), (0, 164, 30000), (3, 52, 30010), (6, 39, 30010), (0, 110, 30010), (3, 55, 30020), (0, 141, 30020), (3, 58, 30030), (6, 54, 30030), (8, 51, 30030), (0, 152, 30030), (3, 61, 30040), (8, 86, 30040), (0, 241, 30040), (3, 64, 30050), (0, 297, 30050), (3, 9, 30060), (0, 268, 30060), (3, 15, 30070), (0, 271, 30070), (3, 20, 30082), (0, 144, 30082), (3, 24, 30092), (6, 60, 30092), (8, 65, 30092), (0, 155, 30092), (3, 27, 30102), (8, 110, 30102), (0, 244, 30102), (3, 31, 30112), (0, 259, 30112), (3, 34, 30122), (0, 262, 30122), (3, 37, 30132), (0, 265, 30132), (3, 40, 30142), (0, 283, 30142), (3, 43, 30152), (0, 286, 30152), (7, 11, 70002), (7, 15, 70010), (0, 140, 70010), (1, 9, 10002), (1, 13, 10010), (0, 127, 10010), (2, 9, 20002), (2, 13, 20010), (0, 310, 20010), (8, 11, 80002), (8, 17, 80012), (8, 20, 80022), (8, 23, 80032), (6, 14, 60002), (4, 35, 60002), (0, 174, 60002), (6, 20, 60012), (6, 48, 60020), (0, 205, 60020), (6, 51, 60033), (0, 218, 60033), (6, 24, 60042), (6, 92, 60051), (6, 96, 60060), (0, 221, 60060), (6, 99, 60070), (0, 229, 60070), (6, 28, 60083), (6, 32, 60093), (0, 12, 2), (0, 16, 12), (0, 307, 23), (0, 22, 32), (0, 29, 42), (0, 36, 52), (0, 42, 62), (0, 51, 72), (0, 58, 82), (0, 62, 92), (9, 7, 90002), (9, 13, 90012), (9, 17, 90022), (9, 147, 90030), (9, 20, 90042), (9, 169, 90050), (9, 23, 90062), (9, 172, 90070), (9, 135, 90080), (9, 142, 90090), (9, 26, 90102), (9, 29, 90112), (9, 32, 90122), (9, 35, 90132), (9, 38, 90142), (9, 41, 90152), (9, 44, 90162), (9, 47, 90172), (9, 50, 90182), (9, 53, 90192), (9, 56, 90202), (9, 59, 90212), (9, 62, 90222), (9, 65, 90230), (9, 69, 90240), (9, 72, 90252), (9, 177, 90260), (9, 180, 90270), (9, 187, 90283), (9, 227, 90290), (9, 75, 90302), (9, 78, 90312), (9, 81, 90322), (9, 230, 90330), (9, 84, 90342), (9, 233, 90353), (9, 236, 90360), (9, 87, 90372), (9, 90, 90382), (9, 283, 90390), (9, 286, 90403), (9, 93, 90412), (9, 96, 90422), (9, 277, 90430), (9, 99, 90442), (9, 102, 90452), (9, 105, 90462), (9, 280, 90470), (9, 108, 90482), (9, 274, 90493), (9, 111, 90502), (9, 114, 90512), (9, 304, 90520), (9, 117, 90532), (9, 331, 90540), (9, 334, 90550), (9, 337, 90560), (9, 120, 90572), (9, 123, 90582), (9, 126, 90592), (9, 129, 90602), (9, 367, 90613), (9, 132, 90622), (9, 361, 90630), (9, 358, 90643)]
set_option maxRecDepth 100000 in
theorem xw_FL : xFL.map (fun q => Cond.fieldLink (xCn q.1) q.2.1 (xCn (q.2.2 / 10000)) (xTf (q.2.2 / 10000) (q.2.2 / 10 % 1000)).2.1 (xTf (q.2.2 / 10000) (q.2.2 / 10 % 1000)).2.2.1) = [117, 118, 119, 120, 121, 122, 123, 124, 125, 126, 127, 128, 129, 130, 131, 132, 133, 134, 135, 136, 137, 138, 139, 140, 141, 142, 143, 144, 145, 164, 165, 166, 167, 168, 169, 170, 171, 172, 173, 174, 175, 176, 177, 178, 179, 180, 181, 182, 183, 184, 185, 186, 187, 188, 189, 190, 191, 192, 193, 194, 195, 196, 197, 198, 199, 200, 201, 202, 203, 243, 244, 245, 257, 258, 259, 271, 272, 273, 291, 292, 293, 294, 312, 313, 314, 315, 316, 317, 318, 319, 320, 321, 322, 323, 324, 325, 326, 327, 349, 350, 351, 352, 353, 354, 355, 356, 357, 358, 947, 948, 949, 950, 951, 952, 953, 954, 955, 956, 957, 958, 959, 960, 961, 962, 963, 964, 965, 966, 967, 968, 969, 970, 971, 972, 973, 974, 975, 976, 977, 978, 979, 980, 981, 982, 983, 984, 985, 986, 987, 988, 989, 990, 991, 992, 993, 994, 995, 996, 997, 998, 999, 1000, 1001, 1002, 1003, 1004, 1005, 1006, 1007, 1008, 1009, 1010, 1011].filterMap (fun i => lw_tbl[i]?) := by rfl
def xML : List (Nat × Nat × Nat) := [(10, 9, 0), (0, 11, 61), (3, 46, 76), (5, 15, 223), (0, 48, 76), (6, 11, 76), (10, 13, 1), (0, 67, 42), (0, 101, 38), (0, 71, 37), (0, 75, 44), (0, 78, 63), (0, 82, 68), (3, 75, 66), (3, 79, 63), (0, 85, 45), (0, 88, 64), (0, 91, 58), (10, 18, 2), (10, 22, 3), (0, 94, 59), (0, 98, 60), (10, 27, 4), (0, 104, 66), (0, 107, 67), (3, 71, 65), (0, 114, 46), (0, 313, 97), (10, 32, 5), (0, 117, 65), (10, 37, 6), (0, 120, 54), (0, 124, 55), (10, 41, 7), (0, 130, 56), (10, 47, 8), (0, 133, 116), (0, 136, 117), (10, 52, 9), (0, 148, 118), (7, 19, 77), (7, 24, 119), (7, 35, 121), (7, 39, 78), (7, 28, 120), (7, 43, 82), (7, 47, 79), (10, 56, 10), (10, 60, 11), (0, 158, 40), (0, 161, 39), (0, 167, 85), (5, 59, 82), (5, 63, 86), (5, 67, 87), (5, 74, 89), (5, 71, 88), (10, 64, 12), (0, 170, 47), (0, 316, 98), (6, 35, 80), (5, 44, 77), (5, 47, 78), (5, 51, 81), (5, 55, 79), (6, 45, 90), (5, 81, 94), (5, 97, 95), (5, 84, 91), (5, 87, 92), (5, 90, 224), (5, 93, 93), (6, 64, 72), (4, 31, 75), (4, 52, 99), (6, 76, 73), (4, 23, 74), (4, 43, 73), (10, 69, 13), (10, 73, 14), (0, 198, 49), (0, 324, 71), (10, 77, 15), (10, 81, 16), (0, 202, 43), (10, 85, 17), (0, 208, 100), (0, 211, 101), (10, 89, 18), (0, 215, 48), (0, 320, 102), (6, 86, 225), (6, 102, 103), (6, 128, 107), (6, 134, 100), (6, 105, 221), (6, 111, 106), (6, 131, 104), (6, 115, 109), (6, 141, 77), (6, 144, 110), (6, 164, 111), (6, 178, 84), (6, 137, 101), (6, 174, 78), (6, 148, 108), (6, 151, 83), (6, 155, 81), (6, 119, 71), (0, 224, 221), (10, 93, 19), (0, 232, 104), (10, 97, 20), (0, 235, 41), (0, 238, 105), (10, 101, 21), (10, 105, 22), (0, 247, 123), (8, 26, 127), (8, 59, 225), (8, 103, 66), (8, 106, 128), (8, 118, 131), (8, 99, 132), (8, 78, 129), (8, 40, 130), (8, 122, 82), (8, 126, 86), (8, 130, 88), (8, 133, 87), (8, 30, 222), (10, 109, 23), (0, 251, 124), (8, 36, 133), (8, 44, 135), (8, 48, 134), (10, 113, 24), (0, 255, 125), (8, 72, 85), (8, 82, 221), (8, 89, 126), (10, 117, 25), (10, 121, 26), (10, 125, 27), (10, 129, 28), (0, 274, 50), (0, 277, 51), (0, 330, 69), (10, 133, 29), (0, 280, 52), (10, 137, 30), (10, 141, 31), (0, 289, 70), (3, 82, 223), (3, 88, 224), (0, 292, 223), (10, 145, 32), (10, 149, 33), (0, 300, 112), (6, 181, 113), (6, 184, 114), (10, 153, 34), (0, 303, 62), (3, 67, 80), (10, 157, 35), (10, 161, 36), (10, 12, 136), (10, 17, 146), (9, 158, 143), (9, 138, 137), (9, 162, 145), (9, 150, 142), (9, 154, 144), (9, 165, 138), (10, 21, 147), (10, 26, 148), (10, 31, 149), (10, 36, 150), (10, 40, 151), (10, 44, 152), (10, 51, 153), (10, 55, 160), (9, 208, 159), (9, 201, 157), (9, 183, 154), (9, 198, 156), (9, 191, 155), (9, 204, 158), (10, 59, 161), (10, 63, 165), (9, 215, 140), (9, 218, 139), (9, 221, 164), (9, 224, 163), (9, 211, 162), (10, 68, 172), (9, 258, 171), (9, 250, 166), (9, 253, 170), (9, 243, 168), (9, 246, 169), (9, 239, 167), (10, 72, 173), (10, 76, 178), (9, 271, 177), (9, 268, 176), (9, 264, 175), (9, 261, 174), (10, 80, 179), (10, 84, 183), (9, 292, 182), (9, 289, 180), (10, 88, 184), (9, 295, 181), (10, 92, 191), (9, 313, 188), (9, 307, 141), (9, 310, 187), (9, 298, 186), (9, 301, 185), (9, 316, 190), (10, 96, 192), (10, 100, 195), (9, 322, 194), (9, 325, 193), (9, 319, 189), (10, 104, 196), (10, 108, 198), (9, 328, 197), (10, 112, 200), (9, 340, 199), (10, 116, 201), (9, 343, 202), (10, 120, 203), (10, 124, 204), (10, 128, 205), (10, 132, 208), (9, 346, 206), (9, 349, 207), (10, 136, 210), (9, 352, 209), (10, 140, 211), (10, 144, 212), (10, 148, 213), (10, 152, 215), (9, 355, 214), (10, 156, 218), (9, 370, 217), (9, 364, 216), (10, 160, 219), (10, 164, 220)]
set_option maxRecDepth 100000 in
theorem xw_ML : xML.map (fun q => Cond.methodLink (xCn q.1) q.2.1 (xMn q.2.2)) = [95, 103, 110, 114, 282, 311, 380, 384, 387, 390, 394, 397, 401, 405, 409, 410, 414, 418, 425, 429, 433, 437, 441, 445, 446, 450, 454, 458, 462, 466, 467, 471, 475, 479, 483, 489, 493, 497, 501, 505, 509, 513, 518, 522, 526, 530, 534, 538, 542, 546, 550, 554, 558, 559, 562, 566, 570, 574, 578, 582, 586, 590, 591, 592, 596, 597, 601, 605, 609, 613, 617, 620, 624, 628, 632, 636, 641, 644, 645, 649, 653, 657, 660, 664, 668, 672, 676, 680, 684, 688, 692, 696, 699, 703, 707, 708, 714, 718, 722, 726, 727, 731, 735, 739, 740, 741, 745, 749, 750, 754, 755, 759, 760, 764, 768, 772, 776, 780, 784, 789, 790, 791, 796, 800, 803, 807, 811, 812, 813, 814, 815, 821, 825, 829, 832, 835, 838, 842, 846, 847, 848, 853, 857, 861, 865, 869, 873, 877, 881, 885, 889, 893, 897, 901, 902, 903, 904, 908, 912, 916, 920, 924, 928, 932, 933, 937, 943, 1144, 1148, 1153, 1156, 1160, 1163, 1167, 1171, 1175, 1179, 1183, 1187, 1191, 1195, 1200, 1204, 1208, 1212, 1218, 1222, 1225, 1229, 1233, 1237, 1241, 1245, 1249, 1253, 1256, 1261, 1265, 1269, 1273, 1277, 1281, 1285, 1289, 1293, 1297, 1301, 1305, 1309, 1313, 1317, 1321, 1325, 1329, 1333, 1337, 1341, 1344, 1348, 1352, 1356, 1359, 1363, 1367, 1371, 1375, 1379, 1383, 1387, 1391, 1395, 1399, 1403, 1407, 1411, 1415, 1419, 1423, 1427, 1431, 1435, 1439, 1443, 1447, 1451, 1455, 1459, 1463, 1467, 1471, 1475].filterMap (fun i => lw_tbl[i]?) := by rfl
def xOI : List (Nat × Nat) := [(0, 3), (3, 3), (5, 3), (7, 3), (1, 1), (2, 1), (8, 3), (6, 3), (9, 1)]
set_option maxRecDepth 100000 in
theorem xw_OI : xOI.map (fun q => Cond.methodLink (xCn q.1) q.2 Lib.objectInit) = [98, 106, 113, 242, 256, 270, 288, 309, 946].filterMap (fun i => lw_tbl[i]?) := by rfl
def xAC : List (Nat × Nat) := [(2, 17), (6, 80), (8, 93)]
set_option maxRecDepth 100000 in
theorem xw_AC : xAC.map (fun q => Cond.methodLink (xCn q.1) q.2 arraycopyName) = [422, 640, 852].filterMap (fun i => lw_tbl[i]?) := by rfl
def xNL : List (Nat × Nat × Nat) := [(0, 21, 115), (0, 28, 53), (0, 35, 57), (0, 57, 122), (0, 66, 96), (1, 17, 42), (1, 23, 44), (7, 31, 38), (5, 77, 44), (8, 114, 44)]
def xNLw : List Cond := xNL.map (fun q => Cond.methodLinkNest (xCn q.1) q.2.1 (xMn q.2.2) "KeptAnswers")
set_option maxRecDepth 100000 in
theorem xw_NL : xNLw = [239, 253, 267, 285, 306, 487, 488, 517, 569, 795].filterMap (fun i => lw_tbl[i]?) := by rfl
def xHL : List (Nat × Nat) := [(6, 123), (8, 136)]
def xHLw : List Cond := xHL.map (fun q => Cond.fieldLinkNest (xCn q.1) q.2 "KeptAnswers" "HOLDING" "[J" "KeptAnswers")
set_option maxRecDepth 100000 in
theorem xw_HL : xHLw = [751, 799].filterMap (fun i => lw_tbl[i]?) := by rfl
def xKI : List (Nat × Nat × Int) := [(11, 265, 1431655765), (11, 266, 858993459), (11, 267, 252645135)]
set_option maxRecDepth 100000 in
theorem xw_KI : xKI.map (fun q => Cond.constant (xCn q.1) q.2.1 (xc q.2.2)) = [711, 712, 713].filterMap (fun i => lw_tbl[i]?) := by rfl
def xKL : List (Nat × Nat × Nat) := [(4, 17, 34359737376), (4, 47, 18446744073709551615), (4, 41, 31), (6, 126, 18446744073709551615), (8, 57, 18446744073709551615), (12, 314, 6148914691236517205), (12, 316, 3689348814741910323), (12, 318, 1085102592571150095), (9, 145, 2), (9, 175, 255), (9, 194, 48), (9, 196, 50), (9, 256, 3), (9, 373, 11), (9, 375, 16), (10, 45, 4294967295)]
set_option maxRecDepth 100000 in
theorem xw_KL : xKL.map (fun q => Cond.constantLong (xCn q.1) q.2.1 (Int64.ofNat q.2.2)) = [627, 631, 639, 753, 788, 818, 819, 820, 1152, 1199, 1216, 1217, 1260, 1479, 1480, 1481].filterMap (fun i => lw_tbl[i]?) := by rfl
def xCLk : List (Nat × Nat × Nat) := [(10, 7, 0), (0, 9, 3), (3, 18, 5), (0, 19, 7), (0, 26, 1), (0, 33, 2), (0, 40, 6), (0, 46, 5), (0, 55, 8), (6, 9, 5), (10, 10, 9)]
set_option maxRecDepth 100000 in
theorem xw_CL : xCLk.map (fun q => Cond.classLink (xCn q.1) q.2.1 (xCn q.2.2)) = [93, 101, 107, 237, 251, 265, 279, 281, 283, 310, 941].filterMap (fun i => lw_tbl[i]?) := by rfl
def xVM : List (Nat) := [1, 2, 3, 4, 5, 6, 7, 8, 9, 10, 11, 12, 13, 14, 15, 16, 17, 18, 19, 20, 21, 22, 23, 24, 25, 26, 27, 28, 29, 30, 31, 32, 33, 34, 35, 36, 37, 39, 40, 41, 43, 45, 46, 47, 48, 49, 50, 51, 52, 54, 55, 56, 58, 59, 60, 62, 63, 64, 65, 66, 67, 68, 69, 70, 77, 78, 79, 80, 81, 82, 83, 84, 85, 87, 88, 90, 91, 92, 93, 94, 95, 97, 98, 99, 100, 101, 102, 103, 104, 105, 106, 107, 108, 109, 110, 111, 112, 113, 114, 116, 117, 118, 119, 120, 121, 123, 124, 125, 126, 127, 128, 129, 130, 138, 139, 140, 143, 144, 145, 146, 147, 148, 149, 150, 151, 152, 153, 154, 156, 157, 158, 159, 160, 161, 163, 164, 165, 166, 167, 168, 169, 170, 171, 172, 173, 174, 175, 176, 177, 178, 179, 180, 181, 182, 183, 184, 185, 186, 187, 188, 189, 191, 192, 193, 194, 195, 196, 197, 198, 199, 200, 201, 202, 203, 204, 205, 206, 207, 208, 209, 210, 211, 212, 213, 214, 215, 216, 217, 218, 219, 220]
set_option maxRecDepth 100000 in
theorem xw_VM : xVM.map (fun y => Cond.selects (xCn (xOw y)) (xMn y) (xMn y)) = [382, 427, 431, 443, 464, 469, 481, 491, 503, 540, 544, 576, 647, 651, 662, 666, 674, 686, 757, 762, 774, 778, 823, 840, 855, 859, 863, 867, 883, 891, 895, 906, 910, 926, 935, 939, 0, 7, 6, 24, 15, 1, 2, 8, 16, 14, 30, 31, 32, 473, 477, 485, 420, 435, 439, 930, 399, 416, 452, 407, 448, 403, 879, 899, 511, 524, 536, 588, 594, 532, 747, 737, 556, 564, 572, 599, 11, 12, 13, 9, 10, 460, 584, 634, 678, 682, 694, 17, 720, 770, 19, 18, 23, 20, 21, 22, 914, 33, 34, 495, 499, 507, 3, 5, 4, 782, 827, 844, 29, 25, 26, 27, 28, 38, 45, 44, 35, 37, 36, 1146, 1173, 1177, 1181, 1185, 1189, 1193, 1197, 41, 42, 40, 43, 39, 1202, 1231, 47, 46, 1235, 49, 53, 51, 52, 50, 48, 1258, 1287, 57, 56, 55, 54, 1291, 1311, 59, 60, 58, 1315, 1327, 64, 63, 62, 61, 67, 1335, 1361, 66, 65, 1365, 1381, 68, 1385, 69, 1393, 1401, 70, 1409, 1413, 1417, 71, 72, 1421, 73, 1433, 1441, 1445, 1449, 74, 1453, 76, 75, 1461, 1473, 1477].filterMap (fun i => lw_tbl[i]?) := by rfl
set_option maxRecDepth 100000 in
theorem xw_VM2 : xVM.map (fun y => Cond.instanceMethod (xMn y)) = [381, 426, 430, 442, 463, 468, 480, 490, 502, 539, 543, 575, 646, 650, 661, 665, 673, 685, 756, 761, 773, 777, 822, 839, 854, 858, 862, 866, 882, 890, 894, 905, 909, 925, 934, 938, 392, 552, 548, 766, 670, 412, 456, 580, 690, 655, 871, 875, 887, 472, 476, 484, 419, 434, 438, 929, 398, 415, 451, 406, 447, 402, 878, 898, 510, 523, 535, 587, 593, 531, 746, 736, 555, 563, 571, 598, 611, 615, 622, 603, 607, 459, 583, 633, 677, 681, 693, 701, 719, 769, 716, 705, 743, 724, 729, 733, 913, 918, 922, 494, 498, 506, 515, 528, 520, 781, 826, 843, 850, 786, 793, 805, 809, 1169, 1243, 1239, 1150, 1165, 1158, 1145, 1172, 1176, 1180, 1184, 1188, 1192, 1196, 1214, 1220, 1210, 1227, 1206, 1201, 1230, 1251, 1247, 1234, 1267, 1283, 1275, 1279, 1271, 1263, 1257, 1286, 1307, 1303, 1299, 1295, 1290, 1310, 1323, 1331, 1319, 1314, 1326, 1354, 1350, 1346, 1339, 1377, 1334, 1360, 1373, 1369, 1364, 1380, 1389, 1384, 1397, 1392, 1400, 1405, 1408, 1412, 1416, 1425, 1429, 1420, 1437, 1432, 1440, 1444, 1448, 1457, 1452, 1469, 1465, 1460, 1472, 1476].filterMap (fun i => lw_tbl[i]?) := by rfl
def xSM : List (Nat) := [38, 42, 44, 71, 72, 73, 74, 75, 86, 89, 131, 132, 133, 134, 135, 137, 141, 142, 155, 162, 190, 221, 222, 223, 224, 225]
set_option maxRecDepth 100000 in
theorem xw_SM : xSM.map (fun y => Cond.static (xMn y)) = [388, 385, 395, 658, 625, 637, 642, 629, 560, 567, 797, 801, 830, 836, 833, 1154, 1342, 1161, 1223, 1254, 1357, 709, 816, 115, 618, 697].filterMap (fun i => lw_tbl[i]?) := by rfl
def xIM : List (Nat) := [0, 53, 57, 61, 76, 96, 115, 122, 136]
set_option maxRecDepth 100000 in
theorem xw_IM : xIM.map (fun y => Cond.instanceMethod (xMn y)) = [96, 254, 268, 104, 111, 307, 240, 286, 944].filterMap (fun i => lw_tbl[i]?) := by rfl
set_option maxRecDepth 100000 in
theorem xw_ini : (List.range 16).map (fun c => Cond.initialized (xCn c)) = [78, 83, 84, 79, 89, 80, 86, 82, 85, 87, 77, 91, 92, 81, 88, 90].filterMap (fun i => lw_tbl[i]?) := by rfl
def xnM : Nat := 226
set_option maxRecDepth 100000 in
theorem xw_code0 : xMt0.map (fun q => Cond.code q.1 q.2.1 q.2.2.1 q.2.2.2.1) = [97, 383, 428, 432, 444, 465, 470, 482, 492, 504, 541, 545, 577, 648, 652, 663, 667, 675, 687, 758, 763, 775, 779, 824, 841, 856, 860, 864, 868, 884, 892, 896, 907, 911, 927, 936, 940, 393, 389, 553].filterMap (fun i => lw_tbl[i]?) := by rfl
set_option maxRecDepth 100000 in
theorem xw_code1 : xMt1.map (fun q => Cond.code q.1 q.2.1 q.2.2.1 q.2.2.2.1) = [549, 767, 386, 671, 396, 413, 457, 581, 691, 656, 872, 876, 888, 255, 474, 478, 486, 269, 421, 436, 440, 105, 931, 400, 417, 453, 408, 449, 404, 880, 900, 659, 626, 638, 643, 630, 112, 512, 525, 537].filterMap (fun i => lw_tbl[i]?) := by rfl
set_option maxRecDepth 100000 in
theorem xw_code2 : xMt2.map (fun q => Cond.code q.1 q.2.1 q.2.2.1 q.2.2.2.1) = [589, 595, 533, 748, 738, 557, 561, 565, 573, 568, 600, 612, 616, 623, 604, 608, 308, 461, 585, 635, 679, 683, 695, 702, 721, 771, 717, 706, 744, 725, 730, 734, 915, 919, 923, 241, 496, 500, 508, 516].filterMap (fun i => lw_tbl[i]?) := by rfl
set_option maxRecDepth 100000 in
theorem xw_code3 : xMt3.map (fun q => Cond.code q.1 q.2.1 q.2.2.1 q.2.2.2.1) = [529, 521, 287, 783, 828, 845, 851, 787, 794, 806, 810, 798, 802, 831, 837, 834, 945, 1155, 1170, 1244, 1240, 1343, 1162, 1151, 1166, 1159, 1147, 1174, 1178, 1182, 1186, 1190, 1194, 1198, 1215, 1224, 1221, 1211, 1228, 1207].filterMap (fun i => lw_tbl[i]?) := by rfl
set_option maxRecDepth 100000 in
theorem xw_code4 : xMt4.map (fun q => Cond.code q.1 q.2.1 q.2.2.1 q.2.2.2.1) = [1203, 1232, 1255, 1252, 1248, 1236, 1268, 1284, 1276, 1280, 1272, 1264, 1259, 1288, 1308, 1304, 1300, 1296, 1292, 1312, 1324, 1332, 1320, 1316, 1328, 1355, 1351, 1347, 1340, 1378, 1358, 1336, 1362, 1374, 1370, 1366, 1382, 1390, 1386, 1398].filterMap (fun i => lw_tbl[i]?) := by rfl
set_option maxRecDepth 100000 in
theorem xw_code5 : xMt5.map (fun q => Cond.code q.1 q.2.1 q.2.2.1 q.2.2.2.1) = [1394, 1402, 1406, 1410, 1414, 1418, 1426, 1430, 1422, 1438, 1434, 1442, 1446, 1450, 1458, 1454, 1470, 1466, 1462, 1474, 1478, 710, 817, 116, 619, 698].filterMap (fun i => lw_tbl[i]?) := by rfl
