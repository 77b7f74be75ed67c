section
-- ===== PART A: goes FIRST, ahead of the names: the tables' words, and 'selects' of the private methods out of them =====
/-- a private method of a class that the tables say can be made, by its rows of tables_1 -/
def lw_okq (q : MethodName × Nat) : Prop := (q.1.cls ≠ "java/lang/invoke/MethodHandle" ∧ q.1.cls ≠ "java/lang/invoke/VarHandle") ∧ Cond.instantiable q.1.cls q.2 ∈ tables_1 ∧ Cond.privateMethod q.1 ∈ tables_1 ∧ Cond.instanceMethod q.1 ∈ tables_1
theorem lw_p0 : lw_okq (⟨"java/lang/Throwable", "fillInStackTrace", "(I)Ljava/lang/Throwable;"⟩, 6) := ⟨⟨by decide +kernel, by decide +kernel⟩, List.mem_of_getElem? (i := 632) (by decide +kernel), List.mem_of_getElem? (i := 630) (by decide +kernel), List.mem_of_getElem? (i := 631) (by decide +kernel)⟩
theorem lw_p1 : lw_okq (⟨"Facingleaf", "draftWord", "(III)I"⟩, 15) := ⟨⟨by decide +kernel, by decide +kernel⟩, List.mem_of_getElem? (i := 33) (by decide +kernel), List.mem_of_getElem? (i := 677) (by decide +kernel), List.mem_of_getElem? (i := 678) (by decide +kernel)⟩
theorem lw_p2 : lw_okq (⟨"Facingleaf$Item", "addWord", "(III)V"⟩, 13) := ⟨⟨by decide +kernel, by decide +kernel⟩, List.mem_of_getElem? (i := 43) (by decide +kernel), List.mem_of_getElem? (i := 697) (by decide +kernel), List.mem_of_getElem? (i := 698) (by decide +kernel)⟩
theorem lw_p3 : lw_okq (⟨"Facingleaf", "checkChapter", "(I)V"⟩, 15) := ⟨⟨by decide +kernel, by decide +kernel⟩, List.mem_of_getElem? (i := 33) (by decide +kernel), List.mem_of_getElem? (i := 717) (by decide +kernel), List.mem_of_getElem? (i := 718) (by decide +kernel)⟩
theorem lw_p4 : lw_okq (⟨"Facingleaf", "isDraftFit", "(II)Z"⟩, 15) := ⟨⟨by decide +kernel, by decide +kernel⟩, List.mem_of_getElem? (i := 33) (by decide +kernel), List.mem_of_getElem? (i := 737) (by decide +kernel), List.mem_of_getElem? (i := 738) (by decide +kernel)⟩
theorem lw_p5 : lw_okq (⟨"Facingleaf$Chapter", "wordsBut", "(I)I"⟩, 2) := ⟨⟨by decide +kernel, by decide +kernel⟩, List.mem_of_getElem? (i := 497) (by decide +kernel), List.mem_of_getElem? (i := 741) (by decide +kernel), List.mem_of_getElem? (i := 742) (by decide +kernel)⟩
theorem lw_p6 : lw_okq (⟨"Facingleaf$Chapter", "sumBut", "(II)I"⟩, 2) := ⟨⟨by decide +kernel, by decide +kernel⟩, List.mem_of_getElem? (i := 497) (by decide +kernel), List.mem_of_getElem? (i := 745) (by decide +kernel), List.mem_of_getElem? (i := 746) (by decide +kernel)⟩
theorem lw_p7 : lw_okq (⟨"Facingleaf$Item", "sumOf", "(I)I"⟩, 13) := ⟨⟨by decide +kernel, by decide +kernel⟩, List.mem_of_getElem? (i := 43) (by decide +kernel), List.mem_of_getElem? (i := 749) (by decide +kernel), List.mem_of_getElem? (i := 750) (by decide +kernel)⟩
theorem lw_p8 : lw_okq (⟨"Facingleaf", "hasLabelTwice", "(II)Z"⟩, 15) := ⟨⟨by decide +kernel, by decide +kernel⟩, List.mem_of_getElem? (i := 33) (by decide +kernel), List.mem_of_getElem? (i := 754) (by decide +kernel), List.mem_of_getElem? (i := 755) (by decide +kernel)⟩
theorem lw_p9 : lw_okq (⟨"Facingleaf$Chapter", "labelsBut", "(I)I"⟩, 2) := ⟨⟨by decide +kernel, by decide +kernel⟩, List.mem_of_getElem? (i := 497) (by decide +kernel), List.mem_of_getElem? (i := 758) (by decide +kernel), List.mem_of_getElem? (i := 759) (by decide +kernel)⟩
theorem lw_p10 : lw_okq (⟨"Facingleaf$Item", "labels", "()I"⟩, 13) := ⟨⟨by decide +kernel, by decide +kernel⟩, List.mem_of_getElem? (i := 43) (by decide +kernel), List.mem_of_getElem? (i := 762) (by decide +kernel), List.mem_of_getElem? (i := 763) (by decide +kernel)⟩
theorem lw_p11 : lw_okq (⟨"Facingleaf", "addItem", "(LFacingleaf$Chapter;)LFacingleaf$Item;"⟩, 15) := ⟨⟨by decide +kernel, by decide +kernel⟩, List.mem_of_getElem? (i := 33) (by decide +kernel), List.mem_of_getElem? (i := 767) (by decide +kernel), List.mem_of_getElem? (i := 768) (by decide +kernel)⟩
theorem lw_p12 : lw_okq (⟨"Facingleaf$Item", "takeWords", "(LFacingleaf$Item;)V"⟩, 13) := ⟨⟨by decide +kernel, by decide +kernel⟩, List.mem_of_getElem? (i := 43) (by decide +kernel), List.mem_of_getElem? (i := 771) (by decide +kernel), List.mem_of_getElem? (i := 772) (by decide +kernel)⟩
theorem lw_p13 : lw_okq (⟨"Facingleaf$Item", "takeHead", "(I)V"⟩, 13) := ⟨⟨by decide +kernel, by decide +kernel⟩, List.mem_of_getElem? (i := 43) (by decide +kernel), List.mem_of_getElem? (i := 786) (by decide +kernel), List.mem_of_getElem? (i := 787) (by decide +kernel)⟩
theorem lw_p14 : lw_okq (⟨"Facingleaf", "checkedItem", "(II)LFacingleaf$Item;"⟩, 15) := ⟨⟨by decide +kernel, by decide +kernel⟩, List.mem_of_getElem? (i := 33) (by decide +kernel), List.mem_of_getElem? (i := 797) (by decide +kernel), List.mem_of_getElem? (i := 798) (by decide +kernel)⟩
theorem lw_p15 : lw_okq (⟨"Facingleaf", "checkTerm", "(I)V"⟩, 15) := ⟨⟨by decide +kernel, by decide +kernel⟩, List.mem_of_getElem? (i := 33) (by decide +kernel), List.mem_of_getElem? (i := 810) (by decide +kernel), List.mem_of_getElem? (i := 811) (by decide +kernel)⟩
def lw_privs_1 : List (MethodName × Nat) := [(⟨"java/lang/Throwable", "fillInStackTrace", "(I)Ljava/lang/Throwable;"⟩, 6), (⟨"Facingleaf", "draftWord", "(III)I"⟩, 15), (⟨"Facingleaf$Item", "addWord", "(III)V"⟩, 13), (⟨"Facingleaf", "checkChapter", "(I)V"⟩, 15), (⟨"Facingleaf", "isDraftFit", "(II)Z"⟩, 15), (⟨"Facingleaf$Chapter", "wordsBut", "(I)I"⟩, 2), (⟨"Facingleaf$Chapter", "sumBut", "(II)I"⟩, 2), (⟨"Facingleaf$Item", "sumOf", "(I)I"⟩, 13), (⟨"Facingleaf", "hasLabelTwice", "(II)Z"⟩, 15), (⟨"Facingleaf$Chapter", "labelsBut", "(I)I"⟩, 2), (⟨"Facingleaf$Item", "labels", "()I"⟩, 13), (⟨"Facingleaf", "addItem", "(LFacingleaf$Chapter;)LFacingleaf$Item;"⟩, 15), (⟨"Facingleaf$Item", "takeWords", "(LFacingleaf$Item;)V"⟩, 13), (⟨"Facingleaf$Item", "takeHead", "(I)V"⟩, 13), (⟨"Facingleaf", "checkedItem", "(II)LFacingleaf$Item;"⟩, 15), (⟨"Facingleaf", "checkTerm", "(I)V"⟩, 15)]
theorem lw_r1 : ∀ q ∈ lw_privs_1, lw_okq q := List.forall_mem_cons.mpr ⟨lw_p0, List.forall_mem_cons.mpr ⟨lw_p1, List.forall_mem_cons.mpr ⟨lw_p2, List.forall_mem_cons.mpr ⟨lw_p3, List.forall_mem_cons.mpr ⟨lw_p4, List.forall_mem_cons.mpr ⟨lw_p5, List.forall_mem_cons.mpr ⟨lw_p6, List.forall_mem_cons.mpr ⟨lw_p7, List.forall_mem_cons.mpr ⟨lw_p8, List.forall_mem_cons.mpr ⟨lw_p9, List.forall_mem_cons.mpr ⟨lw_p10, List.forall_mem_cons.mpr ⟨lw_p11, List.forall_mem_cons.mpr ⟨lw_p12, List.forall_mem_cons.mpr ⟨lw_p13, List.forall_mem_cons.mpr ⟨lw_p14, List.forall_mem_cons.mpr ⟨lw_p15, fun _ h => absurd h List.not_mem_nil⟩⟩⟩⟩⟩⟩⟩⟩⟩⟩⟩⟩⟩⟩⟩⟩
theorem lw_p16 : lw_okq (⟨"Facingleaf$Edition", "begin", "([LFacingleaf$Chapter;IIZ)V"⟩, 12) := ⟨⟨by decide +kernel, by decide +kernel⟩, List.mem_of_getElem? (i := 375) (by decide +kernel), List.mem_of_getElem? (i := 824) (by decide +kernel), List.mem_of_getElem? (i := 825) (by decide +kernel)⟩
theorem lw_p17 : lw_okq (⟨"Facingleaf$Chapter", "heads", "()I"⟩, 2) := ⟨⟨by decide +kernel, by decide +kernel⟩, List.mem_of_getElem? (i := 497) (by decide +kernel), List.mem_of_getElem? (i := 828) (by decide +kernel), List.mem_of_getElem? (i := 829) (by decide +kernel)⟩
theorem lw_p18 : lw_okq (⟨"Facingleaf$Composer", "makeRounds", "([LFacingleaf$Chapter;LFacingleaf$Edition;LFacingleaf$Edition;)I"⟩, 11) := ⟨⟨by decide +kernel, by decide +kernel⟩, List.mem_of_getElem? (i := 123) (by decide +kernel), List.mem_of_getElem? (i := 832) (by decide +kernel), List.mem_of_getElem? (i := 833) (by decide +kernel)⟩
theorem lw_p19 : lw_okq (⟨"Facingleaf$Composer", "listChanging", "()V"⟩, 11) := ⟨⟨by decide +kernel, by decide +kernel⟩, List.mem_of_getElem? (i := 123) (by decide +kernel), List.mem_of_getElem? (i := 836) (by decide +kernel), List.mem_of_getElem? (i := 837) (by decide +kernel)⟩
theorem lw_p20 : lw_okq (⟨"Facingleaf$Composer", "listWord", "(II)V"⟩, 11) := ⟨⟨by decide +kernel, by decide +kernel⟩, List.mem_of_getElem? (i := 123) (by decide +kernel), List.mem_of_getElem? (i := 846) (by decide +kernel), List.mem_of_getElem? (i := 847) (by decide +kernel)⟩
theorem lw_p21 : lw_okq (⟨"Facingleaf$Composer", "hasMadeRound", "(I)Z"⟩, 11) := ⟨⟨by decide +kernel, by decide +kernel⟩, List.mem_of_getElem? (i := 123) (by decide +kernel), List.mem_of_getElem? (i := 854) (by decide +kernel), List.mem_of_getElem? (i := 855) (by decide +kernel)⟩
theorem lw_p22 : lw_okq (⟨"Facingleaf$Composer", "itemOf", "(I)LFacingleaf$Item;"⟩, 11) := ⟨⟨by decide +kernel, by decide +kernel⟩, List.mem_of_getElem? (i := 123) (by decide +kernel), List.mem_of_getElem? (i := 858) (by decide +kernel), List.mem_of_getElem? (i := 859) (by decide +kernel)⟩
theorem lw_p23 : lw_okq (⟨"Facingleaf$Composer", "breakParagraphs", "()I"⟩, 11) := ⟨⟨by decide +kernel, by decide +kernel⟩, List.mem_of_getElem? (i := 123) (by decide +kernel), List.mem_of_getElem? (i := 862) (by decide +kernel), List.mem_of_getElem? (i := 863) (by decide +kernel)⟩
theorem lw_p24 : lw_okq (⟨"Facingleaf$Breaker", "renew", "(LFacingleaf$Item;I)Z"⟩, 3) := ⟨⟨by decide +kernel, by decide +kernel⟩, List.mem_of_getElem? (i := 129) (by decide +kernel), List.mem_of_getElem? (i := 866) (by decide +kernel), List.mem_of_getElem? (i := 867) (by decide +kernel)⟩
theorem lw_p25 : lw_okq (⟨"Facingleaf$Item", "isBroken", "(I)Z"⟩, 13) := ⟨⟨by decide +kernel, by decide +kernel⟩, List.mem_of_getElem? (i := 43) (by decide +kernel), List.mem_of_getElem? (i := 870) (by decide +kernel), List.mem_of_getElem? (i := 871) (by decide +kernel)⟩
theorem lw_p26 : lw_okq (⟨"Facingleaf$Item", "widthAt", "(I)I"⟩, 13) := ⟨⟨by decide +kernel, by decide +kernel⟩, List.mem_of_getElem? (i := 43) (by decide +kernel), List.mem_of_getElem? (i := 874) (by decide +kernel), List.mem_of_getElem? (i := 875) (by decide +kernel)⟩
theorem lw_p27 : lw_okq (⟨"Facingleaf$Breaker", "chooseLine", "(LFacingleaf$Item;II)V"⟩, 3) := ⟨⟨by decide +kernel, by decide +kernel⟩, List.mem_of_getElem? (i := 129) (by decide +kernel), List.mem_of_getElem? (i := 878) (by decide +kernel), List.mem_of_getElem? (i := 879) (by decide +kernel)⟩
theorem lw_p28 : lw_okq (⟨"Facingleaf$Breaker", "writeLines", "(LFacingleaf$Item;)V"⟩, 3) := ⟨⟨by decide +kernel, by decide +kernel⟩, List.mem_of_getElem? (i := 129) (by decide +kernel), List.mem_of_getElem? (i := 887) (by decide +kernel), List.mem_of_getElem? (i := 888) (by decide +kernel)⟩
theorem lw_p29 : lw_okq (⟨"Facingleaf$Composer", "beginChapter", "(II)V"⟩, 11) := ⟨⟨by decide +kernel, by decide +kernel⟩, List.mem_of_getElem? (i := 123) (by decide +kernel), List.mem_of_getElem? (i := 891) (by decide +kernel), List.mem_of_getElem? (i := 892) (by decide +kernel)⟩
theorem lw_p30 : lw_okq (⟨"Facingleaf$Rows", "collect", "(LFacingleaf$Chapter;)V"⟩, 18) := ⟨⟨by decide +kernel, by decide +kernel⟩, List.mem_of_getElem? (i := 151) (by decide +kernel), List.mem_of_getElem? (i := 895) (by decide +kernel), List.mem_of_getElem? (i := 896) (by decide +kernel)⟩
theorem lw_p31 : lw_okq (⟨"Facingleaf$Rows", "addRow", "(LFacingleaf$Item;II)V"⟩, 18) := ⟨⟨by decide +kernel, by decide +kernel⟩, List.mem_of_getElem? (i := 151) (by decide +kernel), List.mem_of_getElem? (i := 899) (by decide +kernel), List.mem_of_getElem? (i := 900) (by decide +kernel)⟩
def lw_privs_2 : List (MethodName × Nat) := [(⟨"Facingleaf$Edition", "begin", "([LFacingleaf$Chapter;IIZ)V"⟩, 12), (⟨"Facingleaf$Chapter", "heads", "()I"⟩, 2), (⟨"Facingleaf$Composer", "makeRounds", "([LFacingleaf$Chapter;LFacingleaf$Edition;LFacingleaf$Edition;)I"⟩, 11), (⟨"Facingleaf$Composer", "listChanging", "()V"⟩, 11), (⟨"Facingleaf$Composer", "listWord", "(II)V"⟩, 11), (⟨"Facingleaf$Composer", "hasMadeRound", "(I)Z"⟩, 11), (⟨"Facingleaf$Composer", "itemOf", "(I)LFacingleaf$Item;"⟩, 11), (⟨"Facingleaf$Composer", "breakParagraphs", "()I"⟩, 11), (⟨"Facingleaf$Breaker", "renew", "(LFacingleaf$Item;I)Z"⟩, 3), (⟨"Facingleaf$Item", "isBroken", "(I)Z"⟩, 13), (⟨"Facingleaf$Item", "widthAt", "(I)I"⟩, 13), (⟨"Facingleaf$Breaker", "chooseLine", "(LFacingleaf$Item;II)V"⟩, 3), (⟨"Facingleaf$Breaker", "writeLines", "(LFacingleaf$Item;)V"⟩, 3), (⟨"Facingleaf$Composer", "beginChapter", "(II)V"⟩, 11), (⟨"Facingleaf$Rows", "collect", "(LFacingleaf$Chapter;)V"⟩, 18), (⟨"Facingleaf$Rows", "addRow", "(LFacingleaf$Item;II)V"⟩, 18)]
theorem lw_r2 : ∀ q ∈ lw_privs_2, lw_okq q := List.forall_mem_cons.mpr ⟨lw_p16, List.forall_mem_cons.mpr ⟨lw_p17, List.forall_mem_cons.mpr ⟨lw_p18, List.forall_mem_cons.mpr ⟨lw_p19, List.forall_mem_cons.mpr ⟨lw_p20, List.forall_mem_cons.mpr ⟨lw_p21, List.forall_mem_cons.mpr ⟨lw_p22, List.forall_mem_cons.mpr ⟨lw_p23, List.forall_mem_cons.mpr ⟨lw_p24, List.forall_mem_cons.mpr ⟨lw_p25, List.forall_mem_cons.mpr ⟨lw_p26, List.forall_mem_cons.mpr ⟨lw_p27, List.forall_mem_cons.mpr ⟨lw_p28, List.forall_mem_cons.mpr ⟨lw_p29, List.forall_mem_cons.mpr ⟨lw_p30, List.forall_mem_cons.mpr ⟨lw_p31, fun _ h => absurd h List.not_mem_nil⟩⟩⟩⟩⟩⟩⟩⟩⟩⟩⟩⟩⟩⟩⟩⟩
theorem lw_p32 : lw_okq (⟨"Facingleaf$Rows", "addWord", "(LFacingleaf$Item;II)V"⟩, 18) := ⟨⟨by decide +kernel, by decide +kernel⟩, List.mem_of_getElem? (i := 151) (by decide +kernel), List.mem_of_getElem? (i := 903) (by decide +kernel), List.mem_of_getElem? (i := 904) (by decide +kernel)⟩
theorem lw_p33 : lw_okq (⟨"Facingleaf$Rows", "lateHeadBy", "(I)I"⟩, 18) := ⟨⟨by decide +kernel, by decide +kernel⟩, List.mem_of_getElem? (i := 151) (by decide +kernel), List.mem_of_getElem? (i := 907) (by decide +kernel), List.mem_of_getElem? (i := 908) (by decide +kernel)⟩
theorem lw_p34 : lw_okq (⟨"Facingleaf$Pages", "begin", "(I)V"⟩, 9) := ⟨⟨by decide +kernel, by decide +kernel⟩, List.mem_of_getElem? (i := 385) (by decide +kernel), List.mem_of_getElem? (i := 911) (by decide +kernel), List.mem_of_getElem? (i := 912) (by decide +kernel)⟩
theorem lw_p35 : lw_okq (⟨"Facingleaf$PageMaker", "begin", "(LFacingleaf$Rows;I)V"⟩, 13) := ⟨⟨by decide +kernel, by decide +kernel⟩, List.mem_of_getElem? (i := 145) (by decide +kernel), List.mem_of_getElem? (i := 915) (by decide +kernel), List.mem_of_getElem? (i := 916) (by decide +kernel)⟩
theorem lw_p36 : lw_okq (⟨"Facingleaf$Composer", "keepPages", "(I)V"⟩, 11) := ⟨⟨by decide +kernel, by decide +kernel⟩, List.mem_of_getElem? (i := 123) (by decide +kernel), List.mem_of_getElem? (i := 919) (by decide +kernel), List.mem_of_getElem? (i := 920) (by decide +kernel)⟩
theorem lw_p37 : lw_okq (⟨"Facingleaf$Edition", "hasSameRow", "(LFacingleaf$Edition;III)Z"⟩, 12) := ⟨⟨by decide +kernel, by decide +kernel⟩, List.mem_of_getElem? (i := 375) (by decide +kernel), List.mem_of_getElem? (i := 923) (by decide +kernel), List.mem_of_getElem? (i := 924) (by decide +kernel)⟩
theorem lw_p38 : lw_okq (⟨"Facingleaf$Edition", "hasSameItem", "(LFacingleaf$Edition;II)Z"⟩, 12) := ⟨⟨by decide +kernel, by decide +kernel⟩, List.mem_of_getElem? (i := 375) (by decide +kernel), List.mem_of_getElem? (i := 927) (by decide +kernel), List.mem_of_getElem? (i := 928) (by decide +kernel)⟩
theorem lw_p39 : lw_okq (⟨"Facingleaf$Pages", "tell", "(II)I"⟩, 9) := ⟨⟨by decide +kernel, by decide +kernel⟩, List.mem_of_getElem? (i := 385) (by decide +kernel), List.mem_of_getElem? (i := 931) (by decide +kernel), List.mem_of_getElem? (i := 932) (by decide +kernel)⟩
theorem lw_p40 : lw_okq (⟨"Facingleaf$Pages", "rowsBefore", "(I)I"⟩, 9) := ⟨⟨by decide +kernel, by decide +kernel⟩, List.mem_of_getElem? (i := 385) (by decide +kernel), List.mem_of_getElem? (i := 935) (by decide +kernel), List.mem_of_getElem? (i := 936) (by decide +kernel)⟩
theorem lw_p41 : lw_okq (⟨"Facingleaf$Pages", "floatsBefore", "(I)I"⟩, 9) := ⟨⟨by decide +kernel, by decide +kernel⟩, List.mem_of_getElem? (i := 385) (by decide +kernel), List.mem_of_getElem? (i := 939) (by decide +kernel), List.mem_of_getElem? (i := 940) (by decide +kernel)⟩
theorem lw_p42 : lw_okq (⟨"Facingleaf$Pages", "notesBefore", "(I)I"⟩, 9) := ⟨⟨by decide +kernel, by decide +kernel⟩, List.mem_of_getElem? (i := 385) (by decide +kernel), List.mem_of_getElem? (i := 943) (by decide +kernel), List.mem_of_getElem? (i := 944) (by decide +kernel)⟩
theorem lw_p43 : lw_okq (⟨"Facingleaf$PageMaker", "hasAdded", "(LFacingleaf$Pages;II)Z"⟩, 13) := ⟨⟨by decide +kernel, by decide +kernel⟩, List.mem_of_getElem? (i := 145) (by decide +kernel), List.mem_of_getElem? (i := 947) (by decide +kernel), List.mem_of_getElem? (i := 948) (by decide +kernel)⟩
theorem lw_p44 : lw_okq (⟨"Facingleaf$PageMaker", "mostFloats", "(II)I"⟩, 13) := ⟨⟨by decide +kernel, by decide +kernel⟩, List.mem_of_getElem? (i := 145) (by decide +kernel), List.mem_of_getElem? (i := 954) (by decide +kernel), List.mem_of_getElem? (i := 955) (by decide +kernel)⟩
theorem lw_p45 : lw_okq (⟨"Facingleaf$PageMaker", "isPage", "(IIIII)Z"⟩, 13) := ⟨⟨by decide +kernel, by decide +kernel⟩, List.mem_of_getElem? (i := 145) (by decide +kernel), List.mem_of_getElem? (i := 958) (by decide +kernel), List.mem_of_getElem? (i := 959) (by decide +kernel)⟩
theorem lw_p46 : lw_okq (⟨"Facingleaf$PageMaker", "costBehind", "(I)I"⟩, 13) := ⟨⟨by decide +kernel, by decide +kernel⟩, List.mem_of_getElem? (i := 145) (by decide +kernel), List.mem_of_getElem? (i := 965) (by decide +kernel), List.mem_of_getElem? (i := 966) (by decide +kernel)⟩
theorem lw_p47 : lw_okq (⟨"Facingleaf$Pages", "addPage", "(IIIII)V"⟩, 9) := ⟨⟨by decide +kernel, by decide +kernel⟩, List.mem_of_getElem? (i := 385) (by decide +kernel), List.mem_of_getElem? (i := 969) (by decide +kernel), List.mem_of_getElem? (i := 970) (by decide +kernel)⟩
def lw_privs_3 : List (MethodName × Nat) := [(⟨"Facingleaf$Rows", "addWord", "(LFacingleaf$Item;II)V"⟩, 18), (⟨"Facingleaf$Rows", "lateHeadBy", "(I)I"⟩, 18), (⟨"Facingleaf$Pages", "begin", "(I)V"⟩, 9), (⟨"Facingleaf$PageMaker", "begin", "(LFacingleaf$Rows;I)V"⟩, 13), (⟨"Facingleaf$Composer", "keepPages", "(I)V"⟩, 11), (⟨"Facingleaf$Edition", "hasSameRow", "(LFacingleaf$Edition;III)Z"⟩, 12), (⟨"Facingleaf$Edition", "hasSameItem", "(LFacingleaf$Edition;II)Z"⟩, 12), (⟨"Facingleaf$Pages", "tell", "(II)I"⟩, 9), (⟨"Facingleaf$Pages", "rowsBefore", "(I)I"⟩, 9), (⟨"Facingleaf$Pages", "floatsBefore", "(I)I"⟩, 9), (⟨"Facingleaf$Pages", "notesBefore", "(I)I"⟩, 9), (⟨"Facingleaf$PageMaker", "hasAdded", "(LFacingleaf$Pages;II)Z"⟩, 13), (⟨"Facingleaf$PageMaker", "mostFloats", "(II)I"⟩, 13), (⟨"Facingleaf$PageMaker", "isPage", "(IIIII)Z"⟩, 13), (⟨"Facingleaf$PageMaker", "costBehind", "(I)I"⟩, 13), (⟨"Facingleaf$Pages", "addPage", "(IIIII)V"⟩, 9)]
theorem lw_r3 : ∀ q ∈ lw_privs_3, lw_okq q := List.forall_mem_cons.mpr ⟨lw_p32, List.forall_mem_cons.mpr ⟨lw_p33, List.forall_mem_cons.mpr ⟨lw_p34, List.forall_mem_cons.mpr ⟨lw_p35, List.forall_mem_cons.mpr ⟨lw_p36, List.forall_mem_cons.mpr ⟨lw_p37, List.forall_mem_cons.mpr ⟨lw_p38, List.forall_mem_cons.mpr ⟨lw_p39, List.forall_mem_cons.mpr ⟨lw_p40, List.forall_mem_cons.mpr ⟨lw_p41, List.forall_mem_cons.mpr ⟨lw_p42, List.forall_mem_cons.mpr ⟨lw_p43, List.forall_mem_cons.mpr ⟨lw_p44, List.forall_mem_cons.mpr ⟨lw_p45, List.forall_mem_cons.mpr ⟨lw_p46, List.forall_mem_cons.mpr ⟨lw_p47, fun _ h => absurd h List.not_mem_nil⟩⟩⟩⟩⟩⟩⟩⟩⟩⟩⟩⟩⟩⟩⟩⟩
theorem lw_p48 : lw_okq (⟨"Facingleaf$PageMaker", "hasMadeRest", "(LFacingleaf$Pages;)Z"⟩, 13) := ⟨⟨by decide +kernel, by decide +kernel⟩, List.mem_of_getElem? (i := 145) (by decide +kernel), List.mem_of_getElem? (i := 973) (by decide +kernel), List.mem_of_getElem? (i := 974) (by decide +kernel)⟩
theorem lw_p49 : lw_okq (⟨"Facingleaf$PageMaker", "placeAt", "(III)I"⟩, 13) := ⟨⟨by decide +kernel, by decide +kernel⟩, List.mem_of_getElem? (i := 145) (by decide +kernel), List.mem_of_getElem? (i := 977) (by decide +kernel), List.mem_of_getElem? (i := 978) (by decide +kernel)⟩
theorem lw_p50 : lw_okq (⟨"Facingleaf$PageMaker", "reachBehind", "(I)V"⟩, 13) := ⟨⟨by decide +kernel, by decide +kernel⟩, List.mem_of_getElem? (i := 145) (by decide +kernel), List.mem_of_getElem? (i := 982) (by decide +kernel), List.mem_of_getElem? (i := 983) (by decide +kernel)⟩
theorem lw_p51 : lw_okq (⟨"Facingleaf$PageMaker", "floatsAt", "(I)I"⟩, 13) := ⟨⟨by decide +kernel, by decide +kernel⟩, List.mem_of_getElem? (i := 145) (by decide +kernel), List.mem_of_getElem? (i := 986) (by decide +kernel), List.mem_of_getElem? (i := 987) (by decide +kernel)⟩
theorem lw_p52 : lw_okq (⟨"Facingleaf$PageMaker", "notesAt", "(I)I"⟩, 13) := ⟨⟨by decide +kernel, by decide +kernel⟩, List.mem_of_getElem? (i := 145) (by decide +kernel), List.mem_of_getElem? (i := 990) (by decide +kernel), List.mem_of_getElem? (i := 991) (by decide +kernel)⟩
theorem lw_p53 : lw_okq (⟨"Facingleaf$PageMaker", "weighEnds", "()V"⟩, 13) := ⟨⟨by decide +kernel, by decide +kernel⟩, List.mem_of_getElem? (i := 145) (by decide +kernel), List.mem_of_getElem? (i := 994) (by decide +kernel), List.mem_of_getElem? (i := 995) (by decide +kernel)⟩
theorem lw_p54 : lw_okq (⟨"Facingleaf$PageMaker", "barePages", "(II)I"⟩, 13) := ⟨⟨by decide +kernel, by decide +kernel⟩, List.mem_of_getElem? (i := 145) (by decide +kernel), List.mem_of_getElem? (i := 998) (by decide +kernel), List.mem_of_getElem? (i := 999) (by decide +kernel)⟩
theorem lw_p55 : lw_okq (⟨"Facingleaf$PageMaker", "fillBare", "(II)V"⟩, 13) := ⟨⟨by decide +kernel, by decide +kernel⟩, List.mem_of_getElem? (i := 145) (by decide +kernel), List.mem_of_getElem? (i := 1002) (by decide +kernel), List.mem_of_getElem? (i := 1003) (by decide +kernel)⟩
theorem lw_p56 : lw_okq (⟨"Facingleaf$PageMaker", "weigh", "(I)V"⟩, 13) := ⟨⟨by decide +kernel, by decide +kernel⟩, List.mem_of_getElem? (i := 145) (by decide +kernel), List.mem_of_getElem? (i := 1277) (by decide +kernel), List.mem_of_getElem? (i := 1278) (by decide +kernel)⟩
theorem lw_p57 : lw_okq (⟨"Facingleaf$PageMaker", "weighPage", "(III)V"⟩, 13) := ⟨⟨by decide +kernel, by decide +kernel⟩, List.mem_of_getElem? (i := 145) (by decide +kernel), List.mem_of_getElem? (i := 1282) (by decide +kernel), List.mem_of_getElem? (i := 1283) (by decide +kernel)⟩
theorem lw_p58 : lw_okq (⟨"Facingleaf$PageMaker", "weighWay", "(III)V"⟩, 13) := ⟨⟨by decide +kernel, by decide +kernel⟩, List.mem_of_getElem? (i := 145) (by decide +kernel), List.mem_of_getElem? (i := 1286) (by decide +kernel), List.mem_of_getElem? (i := 1287) (by decide +kernel)⟩
theorem lw_p59 : lw_okq (⟨"Facingleaf$PageMaker", "addChosen", "(LFacingleaf$Pages;)V"⟩, 13) := ⟨⟨by decide +kernel, by decide +kernel⟩, List.mem_of_getElem? (i := 145) (by decide +kernel), List.mem_of_getElem? (i := 1290) (by decide +kernel), List.mem_of_getElem? (i := 1291) (by decide +kernel)⟩
theorem lw_p60 : lw_okq (⟨"Facingleaf$PageMaker", "addBare", "(LFacingleaf$Pages;)V"⟩, 13) := ⟨⟨by decide +kernel, by decide +kernel⟩, List.mem_of_getElem? (i := 145) (by decide +kernel), List.mem_of_getElem? (i := 1295) (by decide +kernel), List.mem_of_getElem? (i := 1296) (by decide +kernel)⟩
theorem lw_p61 : lw_okq (⟨"Facingleaf$Composer", "readPages", "()V"⟩, 11) := ⟨⟨by decide +kernel, by decide +kernel⟩, List.mem_of_getElem? (i := 123) (by decide +kernel), List.mem_of_getElem? (i := 1299) (by decide +kernel), List.mem_of_getElem? (i := 1300) (by decide +kernel)⟩
theorem lw_p62 : lw_okq (⟨"Facingleaf$Composer", "readPage", "(III)I"⟩, 11) := ⟨⟨by decide +kernel, by decide +kernel⟩, List.mem_of_getElem? (i := 123) (by decide +kernel), List.mem_of_getElem? (i := 1304) (by decide +kernel), List.mem_of_getElem? (i := 1305) (by decide +kernel)⟩
theorem lw_p63 : lw_okq (⟨"Facingleaf$Composer", "findWidths", "([I)V"⟩, 11) := ⟨⟨by decide +kernel, by decide +kernel⟩, List.mem_of_getElem? (i := 123) (by decide +kernel), List.mem_of_getElem? (i := 1312) (by decide +kernel), List.mem_of_getElem? (i := 1313) (by decide +kernel)⟩
def lw_privs_4 : List (MethodName × Nat) := [(⟨"Facingleaf$PageMaker", "hasMadeRest", "(LFacingleaf$Pages;)Z"⟩, 13), (⟨"Facingleaf$PageMaker", "placeAt", "(III)I"⟩, 13), (⟨"Facingleaf$PageMaker", "reachBehind", "(I)V"⟩, 13), (⟨"Facingleaf$PageMaker", "floatsAt", "(I)I"⟩, 13), (⟨"Facingleaf$PageMaker", "notesAt", "(I)I"⟩, 13), (⟨"Facingleaf$PageMaker", "weighEnds", "()V"⟩, 13), (⟨"Facingleaf$PageMaker", "barePages", "(II)I"⟩, 13), (⟨"Facingleaf$PageMaker", "fillBare", "(II)V"⟩, 13), (⟨"Facingleaf$PageMaker", "weigh", "(I)V"⟩, 13), (⟨"Facingleaf$PageMaker", "weighPage", "(III)V"⟩, 13), (⟨"Facingleaf$PageMaker", "weighWay", "(III)V"⟩, 13), (⟨"Facingleaf$PageMaker", "addChosen", "(LFacingleaf$Pages;)V"⟩, 13), (⟨"Facingleaf$PageMaker", "addBare", "(LFacingleaf$Pages;)V"⟩, 13), (⟨"Facingleaf$Composer", "readPages", "()V"⟩, 11), (⟨"Facingleaf$Composer", "readPage", "(III)I"⟩, 11), (⟨"Facingleaf$Composer", "findWidths", "([I)V"⟩, 11)]
theorem lw_r4 : ∀ q ∈ lw_privs_4, lw_okq q := List.forall_mem_cons.mpr ⟨lw_p48, List.forall_mem_cons.mpr ⟨lw_p49, List.forall_mem_cons.mpr ⟨lw_p50, List.forall_mem_cons.mpr ⟨lw_p51, List.forall_mem_cons.mpr ⟨lw_p52, List.forall_mem_cons.mpr ⟨lw_p53, List.forall_mem_cons.mpr ⟨lw_p54, List.forall_mem_cons.mpr ⟨lw_p55, List.forall_mem_cons.mpr ⟨lw_p56, List.forall_mem_cons.mpr ⟨lw_p57, List.forall_mem_cons.mpr ⟨lw_p58, List.forall_mem_cons.mpr ⟨lw_p59, List.forall_mem_cons.mpr ⟨lw_p60, List.forall_mem_cons.mpr ⟨lw_p61, List.forall_mem_cons.mpr ⟨lw_p62, List.forall_mem_cons.mpr ⟨lw_p63, fun _ h => absurd h List.not_mem_nil⟩⟩⟩⟩⟩⟩⟩⟩⟩⟩⟩⟩⟩⟩⟩⟩
theorem lw_p64 : lw_okq (⟨"Facingleaf$Composer", "roundThatTook", "([II)I"⟩, 11) := ⟨⟨by decide +kernel, by decide +kernel⟩, List.mem_of_getElem? (i := 123) (by decide +kernel), List.mem_of_getElem? (i := 1316) (by decide +kernel), List.mem_of_getElem? (i := 1317) (by decide +kernel)⟩
theorem lw_p65 : lw_okq (⟨"Facingleaf$Composer", "takeWidest", "(II)V"⟩, 11) := ⟨⟨by decide +kernel, by decide +kernel⟩, List.mem_of_getElem? (i := 123) (by decide +kernel), List.mem_of_getElem? (i := 1320) (by decide +kernel), List.mem_of_getElem? (i := 1321) (by decide +kernel)⟩
theorem lw_p66 : lw_okq (⟨"Facingleaf$Margins", "putAll", "([LFacingleaf$Chapter;LFacingleaf$Edition;)V"⟩, 6) := ⟨⟨by decide +kernel, by decide +kernel⟩, List.mem_of_getElem? (i := 318) (by decide +kernel), List.mem_of_getElem? (i := 1325) (by decide +kernel), List.mem_of_getElem? (i := 1326) (by decide +kernel)⟩
theorem lw_p67 : lw_okq (⟨"Facingleaf$Margins", "putOver", "(LFacingleaf$Chapter;)V"⟩, 6) := ⟨⟨by decide +kernel, by decide +kernel⟩, List.mem_of_getElem? (i := 318) (by decide +kernel), List.mem_of_getElem? (i := 1330) (by decide +kernel), List.mem_of_getElem? (i := 1331) (by decide +kernel)⟩
theorem lw_p68 : lw_okq (⟨"Facingleaf$Margins", "putOne", "(III)V"⟩, 6) := ⟨⟨by decide +kernel, by decide +kernel⟩, List.mem_of_getElem? (i := 318) (by decide +kernel), List.mem_of_getElem? (i := 1334) (by decide +kernel), List.mem_of_getElem? (i := 1335) (by decide +kernel)⟩
theorem lw_p69 : lw_okq (⟨"Facingleaf$Margins", "putPage", "(LFacingleaf$Chapter;ILFacingleaf$Rows;LFacingleaf$Pages;I)V"⟩, 6) := ⟨⟨by decide +kernel, by decide +kernel⟩, List.mem_of_getElem? (i := 318) (by decide +kernel), List.mem_of_getElem? (i := 1340) (by decide +kernel), List.mem_of_getElem? (i := 1341) (by decide +kernel)⟩
theorem lw_p70 : lw_okq (⟨"Facingleaf$Rows", "floatHigh", "(I)I"⟩, 18) := ⟨⟨by decide +kernel, by decide +kernel⟩, List.mem_of_getElem? (i := 151) (by decide +kernel), List.mem_of_getElem? (i := 1346) (by decide +kernel), List.mem_of_getElem? (i := 1347) (by decide +kernel)⟩
theorem lw_p71 : lw_okq (⟨"Facingleaf$Rows", "hasBlankAhead", "(I)Z"⟩, 18) := ⟨⟨by decide +kernel, by decide +kernel⟩, List.mem_of_getElem? (i := 151) (by decide +kernel), List.mem_of_getElem? (i := 1350) (by decide +kernel), List.mem_of_getElem? (i := 1351) (by decide +kernel)⟩
theorem lw_p72 : lw_okq (⟨"Facingleaf$Index", "collect", "([LFacingleaf$Chapter;LFacingleaf$Edition;)V"⟩, 6) := ⟨⟨by decide +kernel, by decide +kernel⟩, List.mem_of_getElem? (i := 344) (by decide +kernel), List.mem_of_getElem? (i := 1355) (by decide +kernel), List.mem_of_getElem? (i := 1356) (by decide +kernel)⟩
theorem lw_p73 : lw_okq (⟨"Facingleaf$Index", "addEntry", "(II)V"⟩, 6) := ⟨⟨by decide +kernel, by decide +kernel⟩, List.mem_of_getElem? (i := 344) (by decide +kernel), List.mem_of_getElem? (i := 1361) (by decide +kernel), List.mem_of_getElem? (i := 1362) (by decide +kernel)⟩
theorem lw_p74 : lw_okq (⟨"Facingleaf$Index", "setLines", "([II)V"⟩, 6) := ⟨⟨by decide +kernel, by decide +kernel⟩, List.mem_of_getElem? (i := 344) (by decide +kernel), List.mem_of_getElem? (i := 1365) (by decide +kernel), List.mem_of_getElem? (i := 1366) (by decide +kernel)⟩
theorem lw_p75 : lw_okq (⟨"Facingleaf", "checkMade", "()V"⟩, 15) := ⟨⟨by decide +kernel, by decide +kernel⟩, List.mem_of_getElem? (i := 33) (by decide +kernel), List.mem_of_getElem? (i := 1376) (by decide +kernel), List.mem_of_getElem? (i := 1377) (by decide +kernel)⟩
theorem lw_p76 : lw_okq (⟨"Facingleaf", "checkWord", "(III)V"⟩, 15) := ⟨⟨by decide +kernel, by decide +kernel⟩, List.mem_of_getElem? (i := 33) (by decide +kernel), List.mem_of_getElem? (i := 1402) (by decide +kernel), List.mem_of_getElem? (i := 1403) (by decide +kernel)⟩
theorem lw_p77 : lw_okq (⟨"Facingleaf", "checkPage", "(I)V"⟩, 15) := ⟨⟨by decide +kernel, by decide +kernel⟩, List.mem_of_getElem? (i := 33) (by decide +kernel), List.mem_of_getElem? (i := 1457) (by decide +kernel), List.mem_of_getElem? (i := 1458) (by decide +kernel)⟩
theorem lw_p78 : lw_okq (⟨"Facingleaf$Edition", "kindAt", "(I)I"⟩, 12) := ⟨⟨by decide +kernel, by decide +kernel⟩, List.mem_of_getElem? (i := 375) (by decide +kernel), List.mem_of_getElem? (i := 1462) (by decide +kernel), List.mem_of_getElem? (i := 1463) (by decide +kernel)⟩
theorem lw_p79 : lw_okq (⟨"Facingleaf$Pages", "pageWith", "(I)I"⟩, 9) := ⟨⟨by decide +kernel, by decide +kernel⟩, List.mem_of_getElem? (i := 385) (by decide +kernel), List.mem_of_getElem? (i := 1481) (by decide +kernel), List.mem_of_getElem? (i := 1482) (by decide +kernel)⟩
def lw_privs_5 : List (MethodName × Nat) := [(⟨"Facingleaf$Composer", "roundThatTook", "([II)I"⟩, 11), (⟨"Facingleaf$Composer", "takeWidest", "(II)V"⟩, 11), (⟨"Facingleaf$Margins", "putAll", "([LFacingleaf$Chapter;LFacingleaf$Edition;)V"⟩, 6), (⟨"Facingleaf$Margins", "putOver", "(LFacingleaf$Chapter;)V"⟩, 6), (⟨"Facingleaf$Margins", "putOne", "(III)V"⟩, 6), (⟨"Facingleaf$Margins", "putPage", "(LFacingleaf$Chapter;ILFacingleaf$Rows;LFacingleaf$Pages;I)V"⟩, 6), (⟨"Facingleaf$Rows", "floatHigh", "(I)I"⟩, 18), (⟨"Facingleaf$Rows", "hasBlankAhead", "(I)Z"⟩, 18), (⟨"Facingleaf$Index", "collect", "([LFacingleaf$Chapter;LFacingleaf$Edition;)V"⟩, 6), (⟨"Facingleaf$Index", "addEntry", "(II)V"⟩, 6), (⟨"Facingleaf$Index", "setLines", "([II)V"⟩, 6), (⟨"Facingleaf", "checkMade", "()V"⟩, 15), (⟨"Facingleaf", "checkWord", "(III)V"⟩, 15), (⟨"Facingleaf", "checkPage", "(I)V"⟩, 15), (⟨"Facingleaf$Edition", "kindAt", "(I)I"⟩, 12), (⟨"Facingleaf$Pages", "pageWith", "(I)I"⟩, 9)]
theorem lw_r5 : ∀ q ∈ lw_privs_5, lw_okq q := List.forall_mem_cons.mpr ⟨lw_p64, List.forall_mem_cons.mpr ⟨lw_p65, List.forall_mem_cons.mpr ⟨lw_p66, List.forall_mem_cons.mpr ⟨lw_p67, List.forall_mem_cons.mpr ⟨lw_p68, List.forall_mem_cons.mpr ⟨lw_p69, List.forall_mem_cons.mpr ⟨lw_p70, List.forall_mem_cons.mpr ⟨lw_p71, List.forall_mem_cons.mpr ⟨lw_p72, List.forall_mem_cons.mpr ⟨lw_p73, List.forall_mem_cons.mpr ⟨lw_p74, List.forall_mem_cons.mpr ⟨lw_p75, List.forall_mem_cons.mpr ⟨lw_p76, List.forall_mem_cons.mpr ⟨lw_p77, List.forall_mem_cons.mpr ⟨lw_p78, List.forall_mem_cons.mpr ⟨lw_p79, fun _ h => absurd h List.not_mem_nil⟩⟩⟩⟩⟩⟩⟩⟩⟩⟩⟩⟩⟩⟩⟩⟩
theorem lw_p80 : lw_okq (⟨"Facingleaf$PageMaker", "leastByAll", "(LFacingleaf$Rows;I)I"⟩, 13) := ⟨⟨by decide +kernel, by decide +kernel⟩, List.mem_of_getElem? (i := 145) (by decide +kernel), List.mem_of_getElem? (i := 1509) (by decide +kernel), List.mem_of_getElem? (i := 1510) (by decide +kernel)⟩
theorem lw_p81 : lw_okq (⟨"Facingleaf$PageMaker", "aheadOfNext", "(I)I"⟩, 13) := ⟨⟨by decide +kernel, by decide +kernel⟩, List.mem_of_getElem? (i := 145) (by decide +kernel), List.mem_of_getElem? (i := 1517) (by decide +kernel), List.mem_of_getElem? (i := 1518) (by decide +kernel)⟩
theorem lw_p82 : lw_okq (⟨"Facingleaf$Edition", "runningHead", "(IIZ)I"⟩, 12) := ⟨⟨by decide +kernel, by decide +kernel⟩, List.mem_of_getElem? (i := 375) (by decide +kernel), List.mem_of_getElem? (i := 1550) (by decide +kernel), List.mem_of_getElem? (i := 1551) (by decide +kernel)⟩
theorem lw_p83 : lw_okq (⟨"Facingleaf$Index", "pageWith", "(I)I"⟩, 6) := ⟨⟨by decide +kernel, by decide +kernel⟩, List.mem_of_getElem? (i := 344) (by decide +kernel), List.mem_of_getElem? (i := 1591) (by decide +kernel), List.mem_of_getElem? (i := 1592) (by decide +kernel)⟩
theorem lw_p84 : lw_okq (⟨"Facingleaf$Index", "columnOf", "(I)I"⟩, 6) := ⟨⟨by decide +kernel, by decide +kernel⟩, List.mem_of_getElem? (i := 344) (by decide +kernel), List.mem_of_getElem? (i := 1595) (by decide +kernel), List.mem_of_getElem? (i := 1596) (by decide +kernel)⟩
theorem lw_p85 : lw_okq (⟨"Facingleaf", "isUntouched", "(I)Z"⟩, 15) := ⟨⟨by decide +kernel, by decide +kernel⟩, List.mem_of_getElem? (i := 33) (by decide +kernel), List.mem_of_getElem? (i := 1618) (by decide +kernel), List.mem_of_getElem? (i := 1619) (by decide +kernel)⟩
theorem lw_p86 : lw_okq (⟨"Facingleaf$Edition", "hasSamePage", "(LFacingleaf$Edition;I)Z"⟩, 12) := ⟨⟨by decide +kernel, by decide +kernel⟩, List.mem_of_getElem? (i := 375) (by decide +kernel), List.mem_of_getElem? (i := 1622) (by decide +kernel), List.mem_of_getElem? (i := 1623) (by decide +kernel)⟩
theorem lw_p87 : lw_okq (⟨"Facingleaf$Edition", "hasSameRows", "(LFacingleaf$Edition;III)Z"⟩, 12) := ⟨⟨by decide +kernel, by decide +kernel⟩, List.mem_of_getElem? (i := 375) (by decide +kernel), List.mem_of_getElem? (i := 1627) (by decide +kernel), List.mem_of_getElem? (i := 1628) (by decide +kernel)⟩
theorem lw_p88 : lw_okq (⟨"Facingleaf$Edition", "hasSameTexts", "(LFacingleaf$Edition;II)Z"⟩, 12) := ⟨⟨by decide +kernel, by decide +kernel⟩, List.mem_of_getElem? (i := 375) (by decide +kernel), List.mem_of_getElem? (i := 1632) (by decide +kernel), List.mem_of_getElem? (i := 1633) (by decide +kernel)⟩
theorem lw_p89 : lw_okq (⟨"Facingleaf$Edition", "hasSameFloats", "(LFacingleaf$Edition;III)Z"⟩, 12) := ⟨⟨by decide +kernel, by decide +kernel⟩, List.mem_of_getElem? (i := 375) (by decide +kernel), List.mem_of_getElem? (i := 1637) (by decide +kernel), List.mem_of_getElem? (i := 1638) (by decide +kernel)⟩
theorem lw_p90 : lw_okq (⟨"Facingleaf$Edition", "hasSamePiece", "(LFacingleaf$Edition;III)Z"⟩, 12) := ⟨⟨by decide +kernel, by decide +kernel⟩, List.mem_of_getElem? (i := 375) (by decide +kernel), List.mem_of_getElem? (i := 1642) (by decide +kernel), List.mem_of_getElem? (i := 1643) (by decide +kernel)⟩
theorem lw_p91 : lw_okq (⟨"Facingleaf$Edition", "hasSameNotes", "(LFacingleaf$Edition;III)Z"⟩, 12) := ⟨⟨by decide +kernel, by decide +kernel⟩, List.mem_of_getElem? (i := 375) (by decide +kernel), List.mem_of_getElem? (i := 1646) (by decide +kernel), List.mem_of_getElem? (i := 1647) (by decide +kernel)⟩
theorem lw_p92 : lw_okq (⟨"FacingleafModel", "drafts", "(III)I"⟩, 102) := ⟨⟨by decide +kernel, by decide +kernel⟩, List.mem_of_getElem? (i := 1651) (by decide +kernel), List.mem_of_getElem? (i := 1985) (by decide +kernel), List.mem_of_getElem? (i := 1986) (by decide +kernel)⟩
theorem lw_p93 : lw_okq (⟨"FacingleafModel", "canTake", "(II)Z"⟩, 102) := ⟨⟨by decide +kernel, by decide +kernel⟩, List.mem_of_getElem? (i := 1651) (by decide +kernel), List.mem_of_getElem? (i := 2004) (by decide +kernel), List.mem_of_getElem? (i := 2005) (by decide +kernel)⟩
theorem lw_p94 : lw_okq (⟨"FacingleafModel", "sumOf", "(IIIZ)I"⟩, 102) := ⟨⟨by decide +kernel, by decide +kernel⟩, List.mem_of_getElem? (i := 1651) (by decide +kernel), List.mem_of_getElem? (i := 2008) (by decide +kernel), List.mem_of_getElem? (i := 2009) (by decide +kernel)⟩
theorem lw_p95 : lw_okq (⟨"FacingleafModel", "sumOfDraft", "(IZ)I"⟩, 102) := ⟨⟨by decide +kernel, by decide +kernel⟩, List.mem_of_getElem? (i := 1651) (by decide +kernel), List.mem_of_getElem? (i := 2015) (by decide +kernel), List.mem_of_getElem? (i := 2016) (by decide +kernel)⟩
def lw_privs_6 : List (MethodName × Nat) := [(⟨"Facingleaf$PageMaker", "leastByAll", "(LFacingleaf$Rows;I)I"⟩, 13), (⟨"Facingleaf$PageMaker", "aheadOfNext", "(I)I"⟩, 13), (⟨"Facingleaf$Edition", "runningHead", "(IIZ)I"⟩, 12), (⟨"Facingleaf$Index", "pageWith", "(I)I"⟩, 6), (⟨"Facingleaf$Index", "columnOf", "(I)I"⟩, 6), (⟨"Facingleaf", "isUntouched", "(I)Z"⟩, 15), (⟨"Facingleaf$Edition", "hasSamePage", "(LFacingleaf$Edition;I)Z"⟩, 12), (⟨"Facingleaf$Edition", "hasSameRows", "(LFacingleaf$Edition;III)Z"⟩, 12), (⟨"Facingleaf$Edition", "hasSameTexts", "(LFacingleaf$Edition;II)Z"⟩, 12), (⟨"Facingleaf$Edition", "hasSameFloats", "(LFacingleaf$Edition;III)Z"⟩, 12), (⟨"Facingleaf$Edition", "hasSamePiece", "(LFacingleaf$Edition;III)Z"⟩, 12), (⟨"Facingleaf$Edition", "hasSameNotes", "(LFacingleaf$Edition;III)Z"⟩, 12), (⟨"FacingleafModel", "drafts", "(III)I"⟩, 102), (⟨"FacingleafModel", "canTake", "(II)Z"⟩, 102), (⟨"FacingleafModel", "sumOf", "(IIIZ)I"⟩, 102), (⟨"FacingleafModel", "sumOfDraft", "(IZ)I"⟩, 102)]
theorem lw_r6 : ∀ q ∈ lw_privs_6, lw_okq q := List.forall_mem_cons.mpr ⟨lw_p80, List.forall_mem_cons.mpr ⟨lw_p81, List.forall_mem_cons.mpr ⟨lw_p82, List.forall_mem_cons.mpr ⟨lw_p83, List.forall_mem_cons.mpr ⟨lw_p84, List.forall_mem_cons.mpr ⟨lw_p85, List.forall_mem_cons.mpr ⟨lw_p86, List.forall_mem_cons.mpr ⟨lw_p87, List.forall_mem_cons.mpr ⟨lw_p88, List.forall_mem_cons.mpr ⟨lw_p89, List.forall_mem_cons.mpr ⟨lw_p90, List.forall_mem_cons.mpr ⟨lw_p91, List.forall_mem_cons.mpr ⟨lw_p92, List.forall_mem_cons.mpr ⟨lw_p93, List.forall_mem_cons.mpr ⟨lw_p94, List.forall_mem_cons.mpr ⟨lw_p95, fun _ h => absurd h List.not_mem_nil⟩⟩⟩⟩⟩⟩⟩⟩⟩⟩⟩⟩⟩⟩⟩⟩
theorem lw_p96 : lw_okq (⟨"FacingleafModel", "isLabelTaken", "(I)Z"⟩, 102) := ⟨⟨by decide +kernel, by decide +kernel⟩, List.mem_of_getElem? (i := 1651) (by decide +kernel), List.mem_of_getElem? (i := 2019) (by decide +kernel), List.mem_of_getElem? (i := 2020) (by decide +kernel)⟩
theorem lw_p97 : lw_okq (⟨"FacingleafModel", "lays", "(I)V"⟩, 102) := ⟨⟨by decide +kernel, by decide +kernel⟩, List.mem_of_getElem? (i := 1651) (by decide +kernel), List.mem_of_getElem? (i := 2023) (by decide +kernel), List.mem_of_getElem? (i := 2024) (by decide +kernel)⟩
theorem lw_p98 : lw_okq (⟨"FacingleafModel", "isItem", "(II)Z"⟩, 102) := ⟨⟨by decide +kernel, by decide +kernel⟩, List.mem_of_getElem? (i := 1651) (by decide +kernel), List.mem_of_getElem? (i := 2035) (by decide +kernel), List.mem_of_getElem? (i := 2036) (by decide +kernel)⟩
theorem lw_p99 : lw_okq (⟨"FacingleafModel", "composes", "(Z)Z"⟩, 102) := ⟨⟨by decide +kernel, by decide +kernel⟩, List.mem_of_getElem? (i := 1651) (by decide +kernel), List.mem_of_getElem? (i := 2047) (by decide +kernel), List.mem_of_getElem? (i := 2048) (by decide +kernel)⟩
theorem lw_p100 : lw_okq (⟨"FacingleafModel", "begin", "()V"⟩, 102) := ⟨⟨by decide +kernel, by decide +kernel⟩, List.mem_of_getElem? (i := 1651) (by decide +kernel), List.mem_of_getElem? (i := 2051) (by decide +kernel), List.mem_of_getElem? (i := 2052) (by decide +kernel)⟩
theorem lw_p101 : lw_okq (⟨"FacingleafModel", "isThere", "(I)Z"⟩, 102) := ⟨⟨by decide +kernel, by decide +kernel⟩, List.mem_of_getElem? (i := 1651) (by decide +kernel), List.mem_of_getElem? (i := 2055) (by decide +kernel), List.mem_of_getElem? (i := 2056) (by decide +kernel)⟩
theorem lw_p102 : lw_okq (⟨"FacingleafModel", "numberAt", "(IZ)I"⟩, 102) := ⟨⟨by decide +kernel, by decide +kernel⟩, List.mem_of_getElem? (i := 1651) (by decide +kernel), List.mem_of_getElem? (i := 2059) (by decide +kernel), List.mem_of_getElem? (i := 2060) (by decide +kernel)⟩
theorem lw_p103 : lw_okq (⟨"FacingleafModel", "pageOfWord", "(I)I"⟩, 102) := ⟨⟨by decide +kernel, by decide +kernel⟩, List.mem_of_getElem? (i := 1651) (by decide +kernel), List.mem_of_getElem? (i := 2063) (by decide +kernel), List.mem_of_getElem? (i := 2064) (by decide +kernel)⟩
theorem lw_p104 : lw_okq (⟨"FacingleafModel", "makesRound", "(Z)Z"⟩, 102) := ⟨⟨by decide +kernel, by decide +kernel⟩, List.mem_of_getElem? (i := 1651) (by decide +kernel), List.mem_of_getElem? (i := 2070) (by decide +kernel), List.mem_of_getElem? (i := 2071) (by decide +kernel)⟩
theorem lw_p105 : lw_okq (⟨"FacingleafModel", "heads", "()I"⟩, 102) := ⟨⟨by decide +kernel, by decide +kernel⟩, List.mem_of_getElem? (i := 1651) (by decide +kernel), List.mem_of_getElem? (i := 2074) (by decide +kernel), List.mem_of_getElem? (i := 2075) (by decide +kernel)⟩
theorem lw_p106 : lw_okq (⟨"FacingleafModel", "addsBare", "(I)V"⟩, 102) := ⟨⟨by decide +kernel, by decide +kernel⟩, List.mem_of_getElem? (i := 1651) (by decide +kernel), List.mem_of_getElem? (i := 2078) (by decide +kernel), List.mem_of_getElem? (i := 2079) (by decide +kernel)⟩
theorem lw_p107 : lw_okq (⟨"FacingleafModel", "addsPage", "(IIIIIIIII)V"⟩, 102) := ⟨⟨by decide +kernel, by decide +kernel⟩, List.mem_of_getElem? (i := 1651) (by decide +kernel), List.mem_of_getElem? (i := 2082) (by decide +kernel), List.mem_of_getElem? (i := 2083) (by decide +kernel)⟩
theorem lw_p108 : lw_okq (⟨"FacingleafModel", "isBrokenSo", "(I)Z"⟩, 102) := ⟨⟨by decide +kernel, by decide +kernel⟩, List.mem_of_getElem? (i := 1651) (by decide +kernel), List.mem_of_getElem? (i := 2086) (by decide +kernel), List.mem_of_getElem? (i := 2087) (by decide +kernel)⟩
theorem lw_p109 : lw_okq (⟨"FacingleafModel", "wide", "(I)I"⟩, 102) := ⟨⟨by decide +kernel, by decide +kernel⟩, List.mem_of_getElem? (i := 1651) (by decide +kernel), List.mem_of_getElem? (i := 2090) (by decide +kernel), List.mem_of_getElem? (i := 2091) (by decide +kernel)⟩
theorem lw_p110 : lw_okq (⟨"FacingleafModel", "breaks", "(I)V"⟩, 102) := ⟨⟨by decide +kernel, by decide +kernel⟩, List.mem_of_getElem? (i := 1651) (by decide +kernel), List.mem_of_getElem? (i := 2094) (by decide +kernel), List.mem_of_getElem? (i := 2095) (by decide +kernel)⟩
theorem lw_p111 : lw_okq (⟨"FacingleafModel", "costOfLine", "(IIZ)I"⟩, 102) := ⟨⟨by decide +kernel, by decide +kernel⟩, List.mem_of_getElem? (i := 1651) (by decide +kernel), List.mem_of_getElem? (i := 2099) (by decide +kernel), List.mem_of_getElem? (i := 2100) (by decide +kernel)⟩
def lw_privs_7 : List (MethodName × Nat) := [(⟨"FacingleafModel", "isLabelTaken", "(I)Z"⟩, 102), (⟨"FacingleafModel", "lays", "(I)V"⟩, 102), (⟨"FacingleafModel", "isItem", "(II)Z"⟩, 102), (⟨"FacingleafModel", "composes", "(Z)Z"⟩, 102), (⟨"FacingleafModel", "begin", "()V"⟩, 102), (⟨"FacingleafModel", "isThere", "(I)Z"⟩, 102), (⟨"FacingleafModel", "numberAt", "(IZ)I"⟩, 102), (⟨"FacingleafModel", "pageOfWord", "(I)I"⟩, 102), (⟨"FacingleafModel", "makesRound", "(Z)Z"⟩, 102), (⟨"FacingleafModel", "heads", "()I"⟩, 102), (⟨"FacingleafModel", "addsBare", "(I)V"⟩, 102), (⟨"FacingleafModel", "addsPage", "(IIIIIIIII)V"⟩, 102), (⟨"FacingleafModel", "isBrokenSo", "(I)Z"⟩, 102), (⟨"FacingleafModel", "wide", "(I)I"⟩, 102), (⟨"FacingleafModel", "breaks", "(I)V"⟩, 102), (⟨"FacingleafModel", "costOfLine", "(IIZ)I"⟩, 102)]
theorem lw_r7 : ∀ q ∈ lw_privs_7, lw_okq q := List.forall_mem_cons.mpr ⟨lw_p96, List.forall_mem_cons.mpr ⟨lw_p97, List.forall_mem_cons.mpr ⟨lw_p98, List.forall_mem_cons.mpr ⟨lw_p99, List.forall_mem_cons.mpr ⟨lw_p100, List.forall_mem_cons.mpr ⟨lw_p101, List.forall_mem_cons.mpr ⟨lw_p102, List.forall_mem_cons.mpr ⟨lw_p103, List.forall_mem_cons.mpr ⟨lw_p104, List.forall_mem_cons.mpr ⟨lw_p105, List.forall_mem_cons.mpr ⟨lw_p106, List.forall_mem_cons.mpr ⟨lw_p107, List.forall_mem_cons.mpr ⟨lw_p108, List.forall_mem_cons.mpr ⟨lw_p109, List.forall_mem_cons.mpr ⟨lw_p110, List.forall_mem_cons.mpr ⟨lw_p111, fun _ h => absurd h List.not_mem_nil⟩⟩⟩⟩⟩⟩⟩⟩⟩⟩⟩⟩⟩⟩⟩⟩
theorem lw_p112 : lw_okq (⟨"FacingleafModel", "laysRows", "(I)V"⟩, 102) := ⟨⟨by decide +kernel, by decide +kernel⟩, List.mem_of_getElem? (i := 1651) (by decide +kernel), List.mem_of_getElem? (i := 2103) (by decide +kernel), List.mem_of_getElem? (i := 2104) (by decide +kernel)⟩
theorem lw_p113 : lw_okq (⟨"FacingleafModel", "addsRow", "(IIIII)V"⟩, 102) := ⟨⟨by decide +kernel, by decide +kernel⟩, List.mem_of_getElem? (i := 1651) (by decide +kernel), List.mem_of_getElem? (i := 2107) (by decide +kernel), List.mem_of_getElem? (i := 2108) (by decide +kernel)⟩
theorem lw_p114 : lw_okq (⟨"FacingleafModel", "makes", "(IZ)Z"⟩, 102) := ⟨⟨by decide +kernel, by decide +kernel⟩, List.mem_of_getElem? (i := 1651) (by decide +kernel), List.mem_of_getElem? (i := 2111) (by decide +kernel), List.mem_of_getElem? (i := 2112) (by decide +kernel)⟩
theorem lw_p115 : lw_okq (⟨"FacingleafModel", "laysSums", "(I)V"⟩, 102) := ⟨⟨by decide +kernel, by decide +kernel⟩, List.mem_of_getElem? (i := 1651) (by decide +kernel), List.mem_of_getElem? (i := 2115) (by decide +kernel), List.mem_of_getElem? (i := 2116) (by decide +kernel)⟩
theorem lw_p116 : lw_okq (⟨"FacingleafModel", "addsKept", "(II)I"⟩, 102) := ⟨⟨by decide +kernel, by decide +kernel⟩, List.mem_of_getElem? (i := 1651) (by decide +kernel), List.mem_of_getElem? (i := 2119) (by decide +kernel), List.mem_of_getElem? (i := 2120) (by decide +kernel)⟩
theorem lw_p117 : lw_okq (⟨"FacingleafModel", "isRowSame", "(II)Z"⟩, 102) := ⟨⟨by decide +kernel, by decide +kernel⟩, List.mem_of_getElem? (i := 1651) (by decide +kernel), List.mem_of_getElem? (i := 2123) (by decide +kernel), List.mem_of_getElem? (i := 2124) (by decide +kernel)⟩
theorem lw_p118 : lw_okq (⟨"FacingleafModel", "triesAt", "(IIII)Z"⟩, 102) := ⟨⟨by decide +kernel, by decide +kernel⟩, List.mem_of_getElem? (i := 1651) (by decide +kernel), List.mem_of_getElem? (i := 2127) (by decide +kernel), List.mem_of_getElem? (i := 2128) (by decide +kernel)⟩
theorem lw_p119 : lw_okq (⟨"FacingleafModel", "shownAt", "(I)I"⟩, 102) := ⟨⟨by decide +kernel, by decide +kernel⟩, List.mem_of_getElem? (i := 1651) (by decide +kernel), List.mem_of_getElem? (i := 2134) (by decide +kernel), List.mem_of_getElem? (i := 2135) (by decide +kernel)⟩
theorem lw_p120 : lw_okq (⟨"FacingleafModel", "tries", "(IIIIIII)Z"⟩, 102) := ⟨⟨by decide +kernel, by decide +kernel⟩, List.mem_of_getElem? (i := 1651) (by decide +kernel), List.mem_of_getElem? (i := 2138) (by decide +kernel), List.mem_of_getElem? (i := 2139) (by decide +kernel)⟩
theorem lw_p121 : lw_okq (⟨"FacingleafModel", "heightOf", "(III)I"⟩, 102) := ⟨⟨by decide +kernel, by decide +kernel⟩, List.mem_of_getElem? (i := 1651) (by decide +kernel), List.mem_of_getElem? (i := 2142) (by decide +kernel), List.mem_of_getElem? (i := 2143) (by decide +kernel)⟩
theorem lw_p122 : lw_okq (⟨"FacingleafModel", "haveRoomBelow", "(III)Z"⟩, 102) := ⟨⟨by decide +kernel, by decide +kernel⟩, List.mem_of_getElem? (i := 1651) (by decide +kernel), List.mem_of_getElem? (i := 2146) (by decide +kernel), List.mem_of_getElem? (i := 2147) (by decide +kernel)⟩
theorem lw_p123 : lw_okq (⟨"FacingleafModel", "costOfEnds", "(III)I"⟩, 102) := ⟨⟨by decide +kernel, by decide +kernel⟩, List.mem_of_getElem? (i := 1651) (by decide +kernel), List.mem_of_getElem? (i := 2153) (by decide +kernel), List.mem_of_getElem? (i := 2154) (by decide +kernel)⟩
theorem lw_p124 : lw_okq (⟨"FacingleafModel", "addsTried", "(III)I"⟩, 102) := ⟨⟨by decide +kernel, by decide +kernel⟩, List.mem_of_getElem? (i := 1651) (by decide +kernel), List.mem_of_getElem? (i := 2157) (by decide +kernel), List.mem_of_getElem? (i := 2158) (by decide +kernel)⟩
theorem lw_p125 : lw_okq (⟨"FacingleafModel", "behind", "(II)I"⟩, 102) := ⟨⟨by decide +kernel, by decide +kernel⟩, List.mem_of_getElem? (i := 1651) (by decide +kernel), List.mem_of_getElem? (i := 2161) (by decide +kernel), List.mem_of_getElem? (i := 2162) (by decide +kernel)⟩
theorem lw_p126 : lw_okq (⟨"FacingleafModel", "stateOf", "(IIIZI)I"⟩, 102) := ⟨⟨by decide +kernel, by decide +kernel⟩, List.mem_of_getElem? (i := 1651) (by decide +kernel), List.mem_of_getElem? (i := 2168) (by decide +kernel), List.mem_of_getElem? (i := 2169) (by decide +kernel)⟩
theorem lw_p127 : lw_okq (⟨"FacingleafModel", "leastFrom", "(II)I"⟩, 102) := ⟨⟨by decide +kernel, by decide +kernel⟩, List.mem_of_getElem? (i := 1651) (by decide +kernel), List.mem_of_getElem? (i := 2172) (by decide +kernel), List.mem_of_getElem? (i := 2173) (by decide +kernel)⟩
def lw_privs_8 : List (MethodName × Nat) := [(⟨"FacingleafModel", "laysRows", "(I)V"⟩, 102), (⟨"FacingleafModel", "addsRow", "(IIIII)V"⟩, 102), (⟨"FacingleafModel", "makes", "(IZ)Z"⟩, 102), (⟨"FacingleafModel", "laysSums", "(I)V"⟩, 102), (⟨"FacingleafModel", "addsKept", "(II)I"⟩, 102), (⟨"FacingleafModel", "isRowSame", "(II)Z"⟩, 102), (⟨"FacingleafModel", "triesAt", "(IIII)Z"⟩, 102), (⟨"FacingleafModel", "shownAt", "(I)I"⟩, 102), (⟨"FacingleafModel", "tries", "(IIIIIII)Z"⟩, 102), (⟨"FacingleafModel", "heightOf", "(III)I"⟩, 102), (⟨"FacingleafModel", "haveRoomBelow", "(III)Z"⟩, 102), (⟨"FacingleafModel", "costOfEnds", "(III)I"⟩, 102), (⟨"FacingleafModel", "addsTried", "(III)I"⟩, 102), (⟨"FacingleafModel", "behind", "(II)I"⟩, 102), (⟨"FacingleafModel", "stateOf", "(IIIZI)I"⟩, 102), (⟨"FacingleafModel", "leastFrom", "(II)I"⟩, 102)]
theorem lw_r8 : ∀ q ∈ lw_privs_8, lw_okq q := List.forall_mem_cons.mpr ⟨lw_p112, List.forall_mem_cons.mpr ⟨lw_p113, List.forall_mem_cons.mpr ⟨lw_p114, List.forall_mem_cons.mpr ⟨lw_p115, List.forall_mem_cons.mpr ⟨lw_p116, List.forall_mem_cons.mpr ⟨lw_p117, List.forall_mem_cons.mpr ⟨lw_p118, List.forall_mem_cons.mpr ⟨lw_p119, List.forall_mem_cons.mpr ⟨lw_p120, List.forall_mem_cons.mpr ⟨lw_p121, List.forall_mem_cons.mpr ⟨lw_p122, List.forall_mem_cons.mpr ⟨lw_p123, List.forall_mem_cons.mpr ⟨lw_p124, List.forall_mem_cons.mpr ⟨lw_p125, List.forall_mem_cons.mpr ⟨lw_p126, List.forall_mem_cons.mpr ⟨lw_p127, fun _ h => absurd h List.not_mem_nil⟩⟩⟩⟩⟩⟩⟩⟩⟩⟩⟩⟩⟩⟩⟩⟩
theorem lw_p128 : lw_okq (⟨"FacingleafModel", "goesThrough", "(IIZ)V"⟩, 102) := ⟨⟨by decide +kernel, by decide +kernel⟩, List.mem_of_getElem? (i := 1651) (by decide +kernel), List.mem_of_getElem? (i := 2176) (by decide +kernel), List.mem_of_getElem? (i := 2177) (by decide +kernel)⟩
theorem lw_p129 : lw_okq (⟨"FacingleafModel", "mostFloats", "(II)I"⟩, 102) := ⟨⟨by decide +kernel, by decide +kernel⟩, List.mem_of_getElem? (i := 1651) (by decide +kernel), List.mem_of_getElem? (i := 2180) (by decide +kernel), List.mem_of_getElem? (i := 2181) (by decide +kernel)⟩
theorem lw_p130 : lw_okq (⟨"FacingleafModel", "manyBare", "(IIIZ)I"⟩, 102) := ⟨⟨by decide +kernel, by decide +kernel⟩, List.mem_of_getElem? (i := 1651) (by decide +kernel), List.mem_of_getElem? (i := 2184) (by decide +kernel), List.mem_of_getElem? (i := 2185) (by decide +kernel)⟩
theorem lw_p131 : lw_okq (⟨"FacingleafModel", "addsBest", "(II)I"⟩, 102) := ⟨⟨by decide +kernel, by decide +kernel⟩, List.mem_of_getElem? (i := 1651) (by decide +kernel), List.mem_of_getElem? (i := 2188) (by decide +kernel), List.mem_of_getElem? (i := 2189) (by decide +kernel)⟩
theorem lw_p132 : lw_okq (⟨"FacingleafModel", "finds", "()V"⟩, 102) := ⟨⟨by decide +kernel, by decide +kernel⟩, List.mem_of_getElem? (i := 1651) (by decide +kernel), List.mem_of_getElem? (i := 2192) (by decide +kernel), List.mem_of_getElem? (i := 2193) (by decide +kernel)⟩
theorem lw_p133 : lw_okq (⟨"FacingleafModel", "textAt", "(I)I"⟩, 102) := ⟨⟨by decide +kernel, by decide +kernel⟩, List.mem_of_getElem? (i := 1651) (by decide +kernel), List.mem_of_getElem? (i := 2196) (by decide +kernel), List.mem_of_getElem? (i := 2197) (by decide +kernel)⟩
theorem lw_p134 : lw_okq (⟨"FacingleafModel", "wordWith", "(I)I"⟩, 102) := ⟨⟨by decide +kernel, by decide +kernel⟩, List.mem_of_getElem? (i := 1651) (by decide +kernel), List.mem_of_getElem? (i := 2200) (by decide +kernel), List.mem_of_getElem? (i := 2201) (by decide +kernel)⟩
theorem lw_p135 : lw_okq (⟨"FacingleafModel", "roundThatTook", "()I"⟩, 102) := ⟨⟨by decide +kernel, by decide +kernel⟩, List.mem_of_getElem? (i := 1651) (by decide +kernel), List.mem_of_getElem? (i := 2207) (by decide +kernel), List.mem_of_getElem? (i := 2208) (by decide +kernel)⟩
theorem lw_p136 : lw_okq (⟨"FacingleafModel", "takesWidest", "(I)V"⟩, 102) := ⟨⟨by decide +kernel, by decide +kernel⟩, List.mem_of_getElem? (i := 1651) (by decide +kernel), List.mem_of_getElem? (i := 2211) (by decide +kernel), List.mem_of_getElem? (i := 2212) (by decide +kernel)⟩
theorem lw_p137 : lw_okq (⟨"FacingleafModel", "manyIndexLines", "()I"⟩, 102) := ⟨⟨by decide +kernel, by decide +kernel⟩, List.mem_of_getElem? (i := 1651) (by decide +kernel), List.mem_of_getElem? (i := 2215) (by decide +kernel), List.mem_of_getElem? (i := 2216) (by decide +kernel)⟩
theorem lw_p138 : lw_okq (⟨"FacingleafModel", "manyRanges", "(I)I"⟩, 102) := ⟨⟨by decide +kernel, by decide +kernel⟩, List.mem_of_getElem? (i := 1651) (by decide +kernel), List.mem_of_getElem? (i := 2219) (by decide +kernel), List.mem_of_getElem? (i := 2220) (by decide +kernel)⟩
theorem lw_p139 : lw_okq (⟨"FacingleafModel", "laysTerm", "(I)V"⟩, 102) := ⟨⟨by decide +kernel, by decide +kernel⟩, List.mem_of_getElem? (i := 1651) (by decide +kernel), List.mem_of_getElem? (i := 2223) (by decide +kernel), List.mem_of_getElem? (i := 2224) (by decide +kernel)⟩
theorem lw_p140 : lw_okq (⟨"FacingleafModel", "printsWords", "()V"⟩, 102) := ⟨⟨by decide +kernel, by decide +kernel⟩, List.mem_of_getElem? (i := 1651) (by decide +kernel), List.mem_of_getElem? (i := 2231) (by decide +kernel), List.mem_of_getElem? (i := 2232) (by decide +kernel)⟩
theorem lw_p141 : lw_okq (⟨"FacingleafModel", "toldOf", "(I)I"⟩, 102) := ⟨⟨by decide +kernel, by decide +kernel⟩, List.mem_of_getElem? (i := 1651) (by decide +kernel), List.mem_of_getElem? (i := 2235) (by decide +kernel), List.mem_of_getElem? (i := 2236) (by decide +kernel)⟩
theorem lw_p142 : lw_okq (⟨"FacingleafModel", "printsPages", "()V"⟩, 102) := ⟨⟨by decide +kernel, by decide +kernel⟩, List.mem_of_getElem? (i := 1651) (by decide +kernel), List.mem_of_getElem? (i := 2239) (by decide +kernel), List.mem_of_getElem? (i := 2240) (by decide +kernel)⟩
theorem lw_p143 : lw_okq (⟨"FacingleafModel", "asksWord", "(III)Z"⟩, 102) := ⟨⟨by decide +kernel, by decide +kernel⟩, List.mem_of_getElem? (i := 1651) (by decide +kernel), List.mem_of_getElem? (i := 2259) (by decide +kernel), List.mem_of_getElem? (i := 2260) (by decide +kernel)⟩
def lw_privs_9 : List (MethodName × Nat) := [(⟨"FacingleafModel", "goesThrough", "(IIZ)V"⟩, 102), (⟨"FacingleafModel", "mostFloats", "(II)I"⟩, 102), (⟨"FacingleafModel", "manyBare", "(IIIZ)I"⟩, 102), (⟨"FacingleafModel", "addsBest", "(II)I"⟩, 102), (⟨"FacingleafModel", "finds", "()V"⟩, 102), (⟨"FacingleafModel", "textAt", "(I)I"⟩, 102), (⟨"FacingleafModel", "wordWith", "(I)I"⟩, 102), (⟨"FacingleafModel", "roundThatTook", "()I"⟩, 102), (⟨"FacingleafModel", "takesWidest", "(I)V"⟩, 102), (⟨"FacingleafModel", "manyIndexLines", "()I"⟩, 102), (⟨"FacingleafModel", "manyRanges", "(I)I"⟩, 102), (⟨"FacingleafModel", "laysTerm", "(I)V"⟩, 102), (⟨"FacingleafModel", "printsWords", "()V"⟩, 102), (⟨"FacingleafModel", "toldOf", "(I)I"⟩, 102), (⟨"FacingleafModel", "printsPages", "()V"⟩, 102), (⟨"FacingleafModel", "asksWord", "(III)Z"⟩, 102)]
theorem lw_r9 : ∀ q ∈ lw_privs_9, lw_okq q := List.forall_mem_cons.mpr ⟨lw_p128, List.forall_mem_cons.mpr ⟨lw_p129, List.forall_mem_cons.mpr ⟨lw_p130, List.forall_mem_cons.mpr ⟨lw_p131, List.forall_mem_cons.mpr ⟨lw_p132, List.forall_mem_cons.mpr ⟨lw_p133, List.forall_mem_cons.mpr ⟨lw_p134, List.forall_mem_cons.mpr ⟨lw_p135, List.forall_mem_cons.mpr ⟨lw_p136, List.forall_mem_cons.mpr ⟨lw_p137, List.forall_mem_cons.mpr ⟨lw_p138, List.forall_mem_cons.mpr ⟨lw_p139, List.forall_mem_cons.mpr ⟨lw_p140, List.forall_mem_cons.mpr ⟨lw_p141, List.forall_mem_cons.mpr ⟨lw_p142, List.forall_mem_cons.mpr ⟨lw_p143, fun _ h => absurd h List.not_mem_nil⟩⟩⟩⟩⟩⟩⟩⟩⟩⟩⟩⟩⟩⟩⟩⟩
theorem lw_p144 : lw_okq (⟨"FacingleafModel", "isWord", "(III)Z"⟩, 102) := ⟨⟨by decide +kernel, by decide +kernel⟩, List.mem_of_getElem? (i := 1651) (by decide +kernel), List.mem_of_getElem? (i := 2263) (by decide +kernel), List.mem_of_getElem? (i := 2264) (by decide +kernel)⟩
theorem lw_p145 : lw_okq (⟨"FacingleafModel", "asksItem", "(II)Z"⟩, 102) := ⟨⟨by decide +kernel, by decide +kernel⟩, List.mem_of_getElem? (i := 1651) (by decide +kernel), List.mem_of_getElem? (i := 2271) (by decide +kernel), List.mem_of_getElem? (i := 2272) (by decide +kernel)⟩
theorem lw_p146 : lw_okq (⟨"FacingleafModel", "linesOf", "(I)I"⟩, 102) := ⟨⟨by decide +kernel, by decide +kernel⟩, List.mem_of_getElem? (i := 1651) (by decide +kernel), List.mem_of_getElem? (i := 2275) (by decide +kernel), List.mem_of_getElem? (i := 2276) (by decide +kernel)⟩
theorem lw_p147 : lw_okq (⟨"FacingleafModel", "asksChapter", "(I)Z"⟩, 102) := ⟨⟨by decide +kernel, by decide +kernel⟩, List.mem_of_getElem? (i := 1651) (by decide +kernel), List.mem_of_getElem? (i := 2291) (by decide +kernel), List.mem_of_getElem? (i := 2292) (by decide +kernel)⟩
theorem lw_p148 : lw_okq (⟨"FacingleafModel", "asks", "()Z"⟩, 102) := ⟨⟨by decide +kernel, by decide +kernel⟩, List.mem_of_getElem? (i := 1651) (by decide +kernel), List.mem_of_getElem? (i := 2299) (by decide +kernel), List.mem_of_getElem? (i := 2300) (by decide +kernel)⟩
theorem lw_p149 : lw_okq (⟨"FacingleafModel", "asksPage", "(I)Z"⟩, 102) := ⟨⟨by decide +kernel, by decide +kernel⟩, List.mem_of_getElem? (i := 1651) (by decide +kernel), List.mem_of_getElem? (i := 2311) (by decide +kernel), List.mem_of_getElem? (i := 2312) (by decide +kernel)⟩
theorem lw_p150 : lw_okq (⟨"FacingleafModel", "putsAll", "(I)V"⟩, 102) := ⟨⟨by decide +kernel, by decide +kernel⟩, List.mem_of_getElem? (i := 1651) (by decide +kernel), List.mem_of_getElem? (i := 2355) (by decide +kernel), List.mem_of_getElem? (i := 2356) (by decide +kernel)⟩
theorem lw_p151 : lw_okq (⟨"FacingleafModel", "puts", "(III)V"⟩, 102) := ⟨⟨by decide +kernel, by decide +kernel⟩, List.mem_of_getElem? (i := 1651) (by decide +kernel), List.mem_of_getElem? (i := 2359) (by decide +kernel), List.mem_of_getElem? (i := 2360) (by decide +kernel)⟩
theorem lw_p152 : lw_okq (⟨"FacingleafModel", "placeOf", "(II)I"⟩, 102) := ⟨⟨by decide +kernel, by decide +kernel⟩, List.mem_of_getElem? (i := 1651) (by decide +kernel), List.mem_of_getElem? (i := 2363) (by decide +kernel), List.mem_of_getElem? (i := 2364) (by decide +kernel)⟩
theorem lw_p153 : lw_okq (⟨"FacingleafModel", "isPageSame", "(I)Z"⟩, 102) := ⟨⟨by decide +kernel, by decide +kernel⟩, List.mem_of_getElem? (i := 1651) (by decide +kernel), List.mem_of_getElem? (i := 2391) (by decide +kernel), List.mem_of_getElem? (i := 2392) (by decide +kernel)⟩
theorem lw_p154 : lw_okq (⟨"FacingleafModel", "areRowsSame", "(I)Z"⟩, 102) := ⟨⟨by decide +kernel, by decide +kernel⟩, List.mem_of_getElem? (i := 1651) (by decide +kernel), List.mem_of_getElem? (i := 2395) (by decide +kernel), List.mem_of_getElem? (i := 2396) (by decide +kernel)⟩
theorem lw_p155 : lw_okq (⟨"FacingleafModel", "isWordSame", "(I)Z"⟩, 102) := ⟨⟨by decide +kernel, by decide +kernel⟩, List.mem_of_getElem? (i := 1651) (by decide +kernel), List.mem_of_getElem? (i := 2399) (by decide +kernel), List.mem_of_getElem? (i := 2400) (by decide +kernel)⟩
theorem lw_p156 : lw_okq (⟨"FacingleafModel", "areFloatsSame", "(I)Z"⟩, 102) := ⟨⟨by decide +kernel, by decide +kernel⟩, List.mem_of_getElem? (i := 1651) (by decide +kernel), List.mem_of_getElem? (i := 2403) (by decide +kernel), List.mem_of_getElem? (i := 2404) (by decide +kernel)⟩
def lw_privs_10 : List (MethodName × Nat) := [(⟨"FacingleafModel", "isWord", "(III)Z"⟩, 102), (⟨"FacingleafModel", "asksItem", "(II)Z"⟩, 102), (⟨"FacingleafModel", "linesOf", "(I)I"⟩, 102), (⟨"FacingleafModel", "asksChapter", "(I)Z"⟩, 102), (⟨"FacingleafModel", "asks", "()Z"⟩, 102), (⟨"FacingleafModel", "asksPage", "(I)Z"⟩, 102), (⟨"FacingleafModel", "putsAll", "(I)V"⟩, 102), (⟨"FacingleafModel", "puts", "(III)V"⟩, 102), (⟨"FacingleafModel", "placeOf", "(II)I"⟩, 102), (⟨"FacingleafModel", "isPageSame", "(I)Z"⟩, 102), (⟨"FacingleafModel", "areRowsSame", "(I)Z"⟩, 102), (⟨"FacingleafModel", "isWordSame", "(I)Z"⟩, 102), (⟨"FacingleafModel", "areFloatsSame", "(I)Z"⟩, 102)]
theorem lw_r10 : ∀ q ∈ lw_privs_10, lw_okq q := List.forall_mem_cons.mpr ⟨lw_p144, List.forall_mem_cons.mpr ⟨lw_p145, List.forall_mem_cons.mpr ⟨lw_p146, List.forall_mem_cons.mpr ⟨lw_p147, List.forall_mem_cons.mpr ⟨lw_p148, List.forall_mem_cons.mpr ⟨lw_p149, List.forall_mem_cons.mpr ⟨lw_p150, List.forall_mem_cons.mpr ⟨lw_p151, List.forall_mem_cons.mpr ⟨lw_p152, List.forall_mem_cons.mpr ⟨lw_p153, List.forall_mem_cons.mpr ⟨lw_p154, List.forall_mem_cons.mpr ⟨lw_p155, List.forall_mem_cons.mpr ⟨lw_p156, fun _ h => absurd h List.not_mem_nil⟩⟩⟩⟩⟩⟩⟩⟩⟩⟩⟩⟩⟩
def lw_privs : List (MethodName × Nat) := lw_privs_1 ++ (lw_privs_2 ++ (lw_privs_3 ++ (lw_privs_4 ++ (lw_privs_5 ++ (lw_privs_6 ++ (lw_privs_7 ++ (lw_privs_8 ++ (lw_privs_9 ++ (lw_privs_10)))))))))
def lw_tbl : List Cond := k2_sels lw_privs ++ tables_1
theorem lw_privs_ok : ∀ q ∈ lw_privs, lw_okq q := by
  show ∀ q ∈ lw_privs_1 ++ (lw_privs_2 ++ (lw_privs_3 ++ (lw_privs_4 ++ (lw_privs_5 ++ (lw_privs_6 ++ (lw_privs_7 ++ (lw_privs_8 ++ (lw_privs_9 ++ (lw_privs_10))))))))), lw_okq q
  exact List.forall_mem_append.mpr ⟨lw_r1, List.forall_mem_append.mpr ⟨lw_r2, List.forall_mem_append.mpr ⟨lw_r3, List.forall_mem_append.mpr ⟨lw_r4, List.forall_mem_append.mpr ⟨lw_r5, List.forall_mem_append.mpr ⟨lw_r6, List.forall_mem_append.mpr ⟨lw_r7, List.forall_mem_append.mpr ⟨lw_r8, List.forall_mem_append.mpr ⟨lw_r9, lw_r10⟩⟩⟩⟩⟩⟩⟩⟩⟩
end
section
/-! ===== BEGIN words of one list among another's, by their places ===== -/
theorem goodIn_r {big : List Cond} (ws : List Cond) (ps : List Nat) (hp : ws = ps.filterMap (fun i => big[i]?)) (h : ws.all goodWord = true) : GoodIn big ws := by
  intro w hw
  have h1 := List.all_eq_true.mp h w hw
  rw [hp] at hw
  obtain ⟨i, -, hi⟩ := List.mem_filterMap.mp hw
  have hm : w ∈ big := by first | exact List.mem_of_getElem? hi | exact List.getElem?_mem hi
  exact ⟨hm, good_of_word h1⟩
theorem goodIn_app {big a b : List Cond} (ha : GoodIn big a) (hb : GoodIn big b) : GoodIn big (a ++ b) := fun w h => (List.mem_append.mp h).elim (ha w) (hb w)
theorem goodIn_ca {big a b : List Cond} {c : Cond} (ha : GoodIn big (c :: a)) (hb : GoodIn big b) : GoodIn big (c :: (a ++ b)) := fun w h => (List.mem_cons.mp h).elim (fun e => ha w (List.mem_cons.mpr (Or.inl e))) (fun h => (List.mem_append.mp h).elim (fun h => ha w (List.mem_cons.mpr (Or.inr h))) (hb w))
theorem goodIn_sub {big ws : List Cond} (hm : ∀ w ∈ ws, w ∈ big) (h : ws.all goodWord = true) : GoodIn big ws := fun w hw => ⟨hm w hw, good_of_word (List.all_eq_true.mp h w hw)⟩
/-! ===== END ===== -/
/-! ===== BEGIN exceptions that leave a method, and their catching by the caller (launches without stack traces) ===== -/
section VXA
/-! The laws vx_back, vx_callV, vx_callS, vx_callSW, vx_throw0, vx_throwS follow proofs of the library, with one case more: JvmDerived/Free/Laws.lean (Back.of_free), Shelf42/LK1.lean (callV, callS), Shelf/KitTraced.lean (throwNew0V, throwNewS). -/
/-- where a method has thrown q: the class by its name, the cell, what was written, the world -/
def vx_T (XC : String → State → State → Prop) (st : State) (q : Addr) (t : State) (mc ms : Nat) (free : Addr → Prop) : Prop :=
  ∃ (E : String) (ce : Cell) (L : List Loc), XC E st t ∧ t.heap[q]? = some ce ∧ ce.vm = .none ∧ st.vm.findClass E = some ce.cls ∧ st.WarmedH t.vm ∧ st.sameButNew ({ t with vm := st.vm } : State) L mc ms ∧ ∀ z ∈ L, free z.base
def vx_Q (Qc : Array Value → State → Outcome → State → Prop) (XC : String → State → State → Prop) (mc ms : Nat) (free : Addr → Prop) : Array Value → State → Outcome → State → Prop := fun a st o t =>
  (Qc a st o t ∧ ∃ L, FrameEnd st o t L mc ms ∧ ∀ q ∈ L, free q.base) ∨ ∃ q, o = .threw q ∧ vx_T XC st q t mc ms free
/-- a callee that returns or throws -/
def vx_Met (l : Launch) (y : MethodName) (ws : List Cond) (rm : Room) (Pc : Array Value → State → Prop) (Qc : Array Value → State → Outcome → State → Prop) (XC : String → State → State → Prop) (mc ms : Nat) (free : Addr → Prop) : Prop :=
  MetFree l y (headSpec ws rm) Pc (fun _ _ _ _ _ => True) (vx_Q Qc XC mc ms free)
def vx_Post (XC : String → State → State → Prop) (mc ms : Nat) (free : Addr → Prop) : Pt → Array Value → Addr → Pt → Prop := fun A a q B =>
  ∃ (g : JFrame) (mk : MethodId) (t : State) (L : List Loc) (E : String) (ce : Cell), B.U.heap = t.heap ∧ B.U.vm = t.vm ∧ XC E (A.U.calling g mk a) t ∧ t.heap[q]? = some ce ∧ ce.vm = .none ∧ A.U.vm.findClass E = some ce.cls ∧ B.locs = A.locs ++ L ∧ (∀ z ∈ L, free z.base) ∧ B.cells = A.cells + mc ∧ B.slots = A.slots + ms
def vx_Back (l : Launch) (R : Room) (p : Program) (e : Env) (below : List Frame) (s : State) (sargs : Array Value) (y : MethodName) (len W9 : Nat)
    (Pre : Pt → Array Value → Prop) (Post : Pt → Array Value → Option Value → Pt → Prop) (PostX : Pt → Array Value → Addr → Pt → Prop) : Prop :=
  ∀ (m : MethodId) (meth : Method) (c : Code) (A : Pt) (g : JFrame) (ig : Instr) (mk : MethodId) (a : Array Value),
    Stand p l e R s m sargs below meth c A.U A.locs A.cells A.slots → g.method = m → g.locals.size = c.maxLocals → decode c.code g.pc = .ok (ig, len) →
    2 * g.monitorRoom + (g.stack.map fun v => v.category).sum ≤ W9 → A.U.methodNamed? y = some mk → Pre A a →
    (∃ (v : Option Value) (B : Pt), Stand p l e R s m sargs below meth c B.U B.locs B.cells B.slots ∧ Post A a v B ∧
      Steps p.tables e below (doInvoke e (A.U.setTop g) [] mk a).1 (B.U.setTop { g with pc := g.pc + len, stack := v.toList ++ g.stack })) ∨
    (∃ (q : Addr) (B : Pt), Stand p l e R s m sargs below meth c B.U B.locs B.cells B.slots ∧ PostX A a q B ∧
      Steps p.tables e below (doInvoke e (A.U.setTop g) [] mk a).1 ((B.U.setTop g).pushFrame (.throwing q)))
section Payer
variable {l : Launch} {R : Room} {p : Program} {e : Env} {below : List Frame} {s : State} {sargs : Array Value} {y : MethodName} {len W9 : Nat}
theorem vx_back {ws : List Cond} {rm : Room} {Pc : Array Value → State → Prop} {Qc : Array Value → State → Outcome → State → Prop} {XC : String → State → State → Prop} {mc ms : Nat} {free : Addr → Prop} {bytes : ByteArray} {maxL : Nat} {ret : Option FieldType}
    (hM : vx_Met l y ws rm Pc Qc XC mc ms free) (hblind : FrameBlind Pc) (hrc : rm.cells = mc) (hrs : rm.slots = ms)
    (hframes : rm.frames + 1 ≤ R.frames) (hlocals : W9 + (maxL + 11) + rm.locals ≤ R.locals)
    (hws : ∀ w ∈ ws, ∀ a' U, s.WarmedH U.vm → w.before a' U = true) (hcode : Cond.code y bytes maxL ret ∈ ws) (hinit : ∀ a' U, s.WarmedH U.vm → (Cond.initialized y.cls).before a' U = true) :
    vx_Back l R p e below s sargs y len W9 (PreOf R mc ms Pc) (PostOf Qc mc ms free) (vx_Post XC mc ms free) := by
  intro m meth c A g ig mk a X hg hsize hdg hW hn hp
  have h1 : (headSpec ws rm).pre.before a A.U = true := atoms_intro fun w hw => hws w hw _ _ X.warmed
  have h2 : (Cond.code y bytes maxL ret).before a A.U = true := hws _ hcode _ _ X.warmed
  have h3 : (Cond.initialized y.cls).before a A.U = true := hinit _ _ X.warmed
  have h4 : A.cells + (headSpec ws rm).room.cells ≤ R.cells := by rw [show (headSpec ws rm).room.cells = mc from hrc]; exact hp.1
  have h5 : A.slots + (headSpec ws rm).room.slots ≤ R.slots := by rw [show (headSpec ws rm).room.slots = ms from hrs]; exact hp.2.1
  have hPc : Pc a (A.U.calling g mk a) := hblind _ _ _ _ hp.2.2
  obtain ⟨U, Ls, c0, s0⟩ := A
  dsimp only [Pt.U, Pt.locs, Pt.cells, Pt.slots] at h1 h2 h3 h4 h5 X hn hPc ⊢
  obtain ⟨methY, cY, hmY, hcY, -, hlY, -, -, -, -⟩ := Cond.code_spec hn h2
  obtain ⟨kY, hkY, -⟩ := className_of_methodNamed hn
  have hinitY : kY.init = .initialized := Cond.initialized_spec (findClass_of_methodNamed hn) hkY h3
  have h : At U g.method c below := by rw [hg]; exact X.here
  have hlocals9 : W9 + (maxL + 11) + (headSpec ws rm).room.locals ≤ R.locals := hlocals
  have happ : (headSpec ws rm).appliesLoose y e.platform (U.calling g mk a) = true :=
    Spec.appliesLoose_calling (g := g) h hdg hn hkY hinitY
      (X.room_calling (g := g) (R' := (headSpec ws rm).room) hsize hmY hcY hframes (by rw [hlY]; omega) h4 h5) h1
  obtain ⟨mid, hmid⟩ := h.above
  have hfr : (U.setTop g).frames = (.java g :: mid) ++ below := by rw [State.frames_setTop' g h.top, hmid]; rfl
  obtain ⟨o, s₂, hsteps, -, hend, hq⟩ := Steps.callFree hM p X.admits X.cas X.clock (acts := []) hfr happ hPc trivial
  have hq' : vx_Q Qc XC mc ms free a (U.calling g mk a) o s₂ := hq
  rw [State.frames_setTop' g h.top] at hend
  obtain ⟨g₀, hg0⟩ := Option.isSome_iff_exists.mp h.top
  obtain ⟨r, hr⟩ := State.topJava?_eq_some.mp hg0
  have hr' : (({ U with heap := s₂.heap, slotsUsed := s₂.slotsUsed } : State).setVm s₂.vm).frames = .java g₀ :: r := hr
  rcases hq' with ⟨hqc, L, hfe, hL⟩ | ⟨q, rfl, E, ce, L, hx, hce, hcv, hcl, hW₂, hsm, hL⟩
  · obtain ⟨⟨v, rfl⟩, hW₂, e2, q2, q3, q4, q5, q6⟩ := id hfe
    have e3 : s₂ = ({ (U.calling g mk a).setFrames s₂.frames with heap := s₂.heap, slotsUsed := s₂.slotsUsed } : State).setVm s₂.vm := by
      have : s₂ = ({ s₂ with vm := (U.calling g mk a).vm } : State).setVm s₂.vm := rfl
      rw [e2] at this
      exact this
    obtain ⟨c₂, i₂, len₂, hc₂, hd₂, hf₂⟩ := hend
    have hW' : U.WarmedH s₂.vm := hW₂
    have hcc : c₂ = c := by
      have h1 : s₂.code? g.method = U.code? g.method := by
        rw [State.code?_eq, State.code?_eq, hW'.alike.method?]
      exact Option.some.inj (hc₂.symm.trans (h1.trans h.code))
    subst hcc
    have hlen : len₂ = len := by rw [hdg] at hd₂; cases hd₂; rfl
    subst hlen
    have hs₂ : s₂ = (({ U with heap := s₂.heap, slotsUsed := s₂.slotsUsed } : State).setVm s₂.vm).setTop { g with pc := g.pc + len₂, stack := v.toList ++ g.stack } := by
      refine e3.trans ?_
      rw [hf₂, State.calling_eq h.top, State.setFrames_setFrames, State.setTop_of_frames _ hr', hr]
      rfl
    have hsame : U.sameButNew ({ U with heap := s₂.heap, slotsUsed := s₂.slotsUsed } : State) L mc ms := by
      refine ⟨?_, q2, q3, q4, q5, q6⟩
      obtain ⟨t, ht, -⟩ := State.frames_cons hr
      show ({ U with heap := s₂.heap, slotsUsed := s₂.slotsUsed } : State) = { U.setFrames U.frames with heap := s₂.heap, slotsUsed := s₂.slotsUsed }
      rw [State.setFrames_self ht]
    subst hg
    refine Or.inl ⟨v, ⟨(({ U with heap := s₂.heap, slotsUsed := s₂.slotsUsed } : State).setVm s₂.vm), Ls ++ L, c0 + mc, s0 + ms⟩,
      ⟨X.admits, X.cas, X.clock, X.frames, X.room, X.hears, X.method, X.code, (X.here.setHeapUsed s₂.heap s₂.slotsUsed).setVm hW'.alike, X.tail, State.WarmedH.trans X.warmed hW', X.limits, X.bytes, X.same.trans (hsame.setVm s.vm)⟩,
      ⟨g, mk, s₂, L, rfl, rfl, hqc, rfl, hL, rfl, rfl⟩, ?_⟩
    show Steps p.tables e below _ ((({ U with heap := s₂.heap, slotsUsed := s₂.slotsUsed } : State).setVm s₂.vm).setTop { g with pc := g.pc + len₂, stack := v.toList ++ g.stack })
    rw [← hs₂]
    exact hsteps
  · obtain ⟨e2, q2, q3, q4, q5, q6⟩ := id hsm
    have e3 : s₂ = ({ (U.calling g mk a).setFrames s₂.frames with heap := s₂.heap, slotsUsed := s₂.slotsUsed } : State).setVm s₂.vm := by
      have : s₂ = ({ s₂ with vm := (U.calling g mk a).vm } : State).setVm s₂.vm := rfl
      rw [e2] at this
      exact this
    have hf₂ : s₂.frames = .throwing q :: .java g :: U.frames.tail := hend
    have hW' : U.WarmedH s₂.vm := hW₂
    have hs₂ : s₂ = ((({ U with heap := s₂.heap, slotsUsed := s₂.slotsUsed } : State).setVm s₂.vm).setTop g).pushFrame (.throwing q) := by
      refine e3.trans ?_
      rw [hf₂, State.calling_eq h.top, State.setFrames_setFrames, State.pushFrame, State.frames_setTop _ hr', State.setTop_of_frames _ hr', State.setFrames_setFrames, hr]
      rfl
    have hsame : U.sameButNew ({ U with heap := s₂.heap, slotsUsed := s₂.slotsUsed } : State) L mc ms := by
      refine ⟨?_, q2, q3, q4, q5, q6⟩
      obtain ⟨t, ht, -⟩ := State.frames_cons hr
      show ({ U with heap := s₂.heap, slotsUsed := s₂.slotsUsed } : State) = { U.setFrames U.frames with heap := s₂.heap, slotsUsed := s₂.slotsUsed }
      rw [State.setFrames_self ht]
    subst hg
    refine Or.inr ⟨q, ⟨(({ U with heap := s₂.heap, slotsUsed := s₂.slotsUsed } : State).setVm s₂.vm), Ls ++ L, c0 + mc, s0 + ms⟩,
      ⟨X.admits, X.cas, X.clock, X.frames, X.room, X.hears, X.method, X.code, (X.here.setHeapUsed s₂.heap s₂.slotsUsed).setVm hW'.alike, X.tail, State.WarmedH.trans X.warmed hW', X.limits, X.bytes, X.same.trans (hsame.setVm s.vm)⟩,
      ⟨g, mk, s₂, L, E, ce, rfl, rfl, hx, hce, hcv, hcl, rfl, hL, rfl, rfl⟩, ?_⟩
    show Steps p.tables e below _ (((({ U with heap := s₂.heap, slotsUsed := s₂.slotsUsed } : State).setVm s₂.vm).setTop g).pushFrame (.throwing q))
    rw [← hs₂]
    exact hsteps
end Payer
section Calls
variable {p : Program} {l : Launch} {e : Env} {R : Room} {s : State} {m : MethodId} {args : Array Value} {below : List Frame} {meth : Method} {c : Code} {T : State} {locs : List Loc} {cells slots : Nat}
theorem vx_callV (X : Stand p l e R s m args below meth c T locs cells slots) (hexec : p.tables.exec = Jvm.exec) {own C : String} {index : Nat} {y : MethodName} {bytes : ByteArray} {maxL : Nat} {ret : Option FieldType}
    (hown : s.vm.findClass own = some m.cls) (hlink : (Cond.methodLink own index y).before args s = true) (hinst : (Cond.instanceMethod y).before args s = true) (hsel : (Cond.selects C y y).before args s = true)
    (hcode : (Cond.code y bytes maxL ret).before args s = true) (hy : y.cls ≠ "java/lang/invoke/MethodHandle" ∧ y.cls ≠ "java/lang/invoke/VarHandle")
    {W9 : Nat} {Pre : Pt → Array Value → Prop} {Post : Pt → Array Value → Option Value → Pt → Prop} {PostX : Pt → Array Value → Addr → Pt → Prop} (hK : vx_Back l R p e below s args y 3 W9 Pre Post PostX)
    {b : Addr} {cellB : Cell} (hcell : T.heap[b]? = some cellB) (hobj : cellB.vm.isStatics = false) (hcls : s.vm.findClass C = some cellB.cls)
    {g : JFrame} (hg : g.method = m) (hsize : g.locals.size = c.maxLocals) {argsL rest : List Value} (hlen : ∀ sig, parseMethodDescriptor y.desc = some sig → argsL.length = sig.parameters.length)
    (hstack : g.stack = argsL.reverse ++ .ref b :: rest) (hW : 2 * g.monitorRoom + (rest.map fun v => v.category).sum ≤ W9) (hdg : decode c.code g.pc = .ok (.invokevirtual index, 3))
    (hpre : ∀ vm₁, s.WarmedH vm₁ → Pre ⟨T.setVm vm₁, locs, cells, slots⟩ (Value.ref b :: argsL).toArray) :
    (∃ (v : Option Value) (vm₁ : Vm) (B : Pt), s.WarmedH vm₁ ∧ Stand p l e R s m args below meth c B.U B.locs B.cells B.slots ∧ Post ⟨T.setVm vm₁, locs, cells, slots⟩ (Value.ref b :: argsL).toArray v B ∧
      ∀ target, Steps p.tables e below (B.U.setTop { g with pc := g.pc + 3, stack := v.toList ++ rest }) target → Steps p.tables e below (T.setTop g) target) ∨
    (∃ (q : Addr) (vm₁ : Vm) (B : Pt), s.WarmedH vm₁ ∧ Stand p l e R s m args below meth c B.U B.locs B.cells B.slots ∧ PostX ⟨T.setVm vm₁, locs, cells, slots⟩ (Value.ref b :: argsL).toArray q B ∧
      Steps p.tables e below (T.setTop g) ((B.U.setTop { g with stack := rest }).pushFrame (.throwing q))) := by
  obtain ⟨mk, methM, hnamed, hmethM, hstM, habM⟩ := Cond.instanceMethod_spec hinst
  obtain ⟨methM', cM, hmethM', -, -, -, -, -, -, hsigM⟩ := Cond.code_spec hnamed hcode
  cases hmethM.symm.trans hmethM'
  obtain ⟨c2, r2, m2, q1, q2, q3, q4, kP, hkP, hkPi⟩ := Cond.selects_spec hsel
  cases hcls.symm.trans q1
  cases (State.methodFound?_of_named hnamed hy).symm.trans q2
  cases hnamed.symm.trans q3
  have hselP : selectMethod e.platform s.vm cellB.cls mk = .method mk := by rw [Launch.admits_selectMethod X.admits]; exact q4
  obtain ⟨vm₁, X₁, hstep₁⟩ := X.invokevirtual hexec hown hlink hnamed hmethM hstM hkP hkPi hy (a := b) (cell := cellB) hcell
    (fun z h => by rw [h] at hobj; cases hobj) hselP hmethM habM hkP hkPi (g := g) hg (argsL := argsL) (rest := rest) (hlen _ hsigM) hstack hdg
  rcases hK m meth c ⟨T.setVm vm₁, locs, cells, slots⟩ { g with stack := rest } (.invokevirtual index) mk (Value.ref b :: argsL).toArray X₁ hg hsize hdg hW (X₁.named hnamed) (hpre vm₁ X₁.warmed) with ⟨v, B, X', hpost, hsteps⟩ | ⟨q, B, X', hpost, hsteps⟩
  · exact Or.inl ⟨v, vm₁, B, X₁.warmed, X', hpost, fun target h => hstep₁ _ fun acts => by rw [doInvoke_state]; exact hsteps.trans h⟩
  · exact Or.inr ⟨q, vm₁, B, X₁.warmed, X', hpost, hstep₁ _ fun acts => by rw [doInvoke_state]; exact hsteps⟩
theorem vx_callS (X : Stand p l e R s m args below meth c T locs cells slots) (hexec : p.tables.exec = Jvm.exec) {own : String} {index : Nat} {y : MethodName} {bytes : ByteArray} {maxL : Nat} {ret : Option FieldType}
    (hown : s.vm.findClass own = some m.cls) (hlink : (Cond.methodLink own index y).before args s = true) (hstat : (Cond.static y).before args s = true) (hinit : (Cond.initialized y.cls).before args s = true)
    (hcode : (Cond.code y bytes maxL ret).before args s = true) (hy : y.cls ≠ "java/lang/invoke/MethodHandle" ∧ y.cls ≠ "java/lang/invoke/VarHandle")
    {W9 : Nat} {Pre : Pt → Array Value → Prop} {Post : Pt → Array Value → Option Value → Pt → Prop} {PostX : Pt → Array Value → Addr → Pt → Prop} (hK : vx_Back l R p e below s args y 3 W9 Pre Post PostX)
    {g : JFrame} (hg : g.method = m) (hsize : g.locals.size = c.maxLocals) {argsL rest : List Value} (hlen : ∀ sig, parseMethodDescriptor y.desc = some sig → argsL.length = sig.parameters.length)
    (hstack : g.stack = argsL.reverse ++ rest) (hW : 2 * g.monitorRoom + (rest.map fun v => v.category).sum ≤ W9) (hdg : decode c.code g.pc = .ok (.invokestatic index, 3))
    (hpre : ∀ vm₁, s.WarmedH vm₁ → Pre ⟨T.setVm vm₁, locs, cells, slots⟩ argsL.toArray) :
    (∃ (v : Option Value) (vm₁ : Vm) (B : Pt), s.WarmedH vm₁ ∧ Stand p l e R s m args below meth c B.U B.locs B.cells B.slots ∧ Post ⟨T.setVm vm₁, locs, cells, slots⟩ argsL.toArray v B ∧
      ∀ target, Steps p.tables e below (B.U.setTop { g with pc := g.pc + 3, stack := v.toList ++ rest }) target → Steps p.tables e below (T.setTop g) target) ∨
    (∃ (q : Addr) (vm₁ : Vm) (B : Pt), s.WarmedH vm₁ ∧ Stand p l e R s m args below meth c B.U B.locs B.cells B.slots ∧ PostX ⟨T.setVm vm₁, locs, cells, slots⟩ argsL.toArray q B ∧
      Steps p.tables e below (T.setTop g) ((B.U.setTop { g with stack := rest }).pushFrame (.throwing q))) := by
  obtain ⟨mk, hnamed⟩ := Cond.code_named hcode
  obtain ⟨methM, cM, hmethM, -, -, -, -, -, -, hsigM⟩ := Cond.code_spec hnamed hcode
  have hstatic : methM.isStatic = true := Cond.static_spec hnamed hmethM hstat
  obtain ⟨kP, hkP, -⟩ := className_of_methodNamed hnamed
  have hinitP : kP.init = .initialized := Cond.initialized_spec (findClass_of_methodNamed hnamed) hkP hinit
  obtain ⟨vm₁, X₁, hstep₁⟩ := X.invokestatic hexec hown hlink hnamed hmethM hstatic hkP hinitP hy (g := g) hg (argsL := argsL) (rest := rest) (hlen _ hsigM) hstack hdg
  rcases hK m meth c ⟨T.setVm vm₁, locs, cells, slots⟩ { g with stack := rest } (.invokestatic index) mk argsL.toArray X₁ hg hsize hdg hW (X₁.named hnamed) (hpre vm₁ X₁.warmed) with ⟨v, B, X', hpost, hsteps⟩ | ⟨q, B, X', hpost, hsteps⟩
  · exact Or.inl ⟨v, vm₁, B, X₁.warmed, X', hpost, fun target h => hstep₁ _ fun acts => by rw [doInvoke_state]; exact hsteps.trans h⟩
  · exact Or.inr ⟨q, vm₁, B, X₁.warmed, X', hpost, hstep₁ _ fun acts => by rw [doInvoke_state]; exact hsteps⟩
end Calls
theorem vx_cls {s : State} {T : State} {vm₁ : Vm} {E : String} {k : ClassId} (hW : s.WarmedH vm₁) (h : (T.setVm vm₁).vm.findClass E = some k) : s.vm.findClass E = some k := by
  have h1 : vm₁.findClass E = some k := h
  rw [hW.alike.findClass] at h1
  exact h1
/-- the method's frame g, with q thrown over it -/
def vx_W (p : Program) (l : Launch) (e : Env) (R : Room) (s : State) (m : MethodId) (args : Array Value) (below : List Frame) (meth : Method) (c : Code) (H : Heap) (locs : List Loc) (cells slots : Nat) (Q : State → Prop) (g : JFrame) (q : Addr) : Prop :=
  ∀ T : State, T.heap = H → Stand p l e R s m args below meth c T locs cells slots → ∃ t, Steps p.tables e below ((T.setTop g).pushFrame (.throwing q)) t ∧ Q t
def vx_Run (p : Program) (l : Launch) (e : Env) (R : Room) (s : State) (m : MethodId) (args : Array Value) (below : List Frame) (meth : Method) (c : Code) (H : Heap) (locs : List Loc) (cells slots mc ms : Nat) (g : JFrame) (rest : List Value) (Qa : State → Outcome → State → Prop) (XC : String → State → State → Prop) (free : Addr → Prop) : Prop :=
  ∀ T : State, T.heap = H → Stand p l e R s m args below meth c T locs cells slots →
    (∃ (v : Option Value) (st₀ t T' : State) (L : List Loc), st₀.heap = H ∧ Stand p l e R s m args below meth c T' (locs ++ L) (cells + mc) (slots + ms) ∧ (∀ q ∈ L, free q.base) ∧ T'.heap = t.heap ∧ T'.vm = t.vm ∧ Qa st₀ (.returned v) t ∧
      Goes p e below T g T' { g with pc := g.pc + 3, stack := v.toList ++ rest }) ∨
    (∃ (q : Addr) (st₀ t T' : State) (L : List Loc) (E : String) (ce : Cell), st₀.heap = H ∧ Stand p l e R s m args below meth c T' (locs ++ L) (cells + mc) (slots + ms) ∧ (∀ z ∈ L, free z.base) ∧ T'.heap = t.heap ∧ T'.vm = t.vm ∧ XC E st₀ t ∧ t.heap[q]? = some ce ∧ ce.vm = .none ∧ s.vm.findClass E = some ce.cls ∧
      Steps p.tables e below (T.setTop g) ((T'.setTop { g with stack := rest }).pushFrame (.throwing q)))
def vx_X {S : Type} (px : S → Prop) (B : String → S → State → Prop) (A : Nat → Prop) : String → State → State → Prop := fun E st t => ∃ u : S, px u ∧ B E u t ∧ va_F A st t
section Runs
variable {p : Program} {l : Launch} {e : Env} {R : Room} {s : State} {m : MethodId} {args : Array Value} {below : List Frame} {meth : Method} {c : Code} {H : Heap} {locs : List Loc} {cells slots : Nat}
variable {y : MethodName} {bytes cc : ByteArray} {maxL nL mc ms n index : Nat} {ret : Option FieldType} {ws : List Cond} {rm : Room} {Pc : Array Value → State → Prop} {Qc : Array Value → State → Outcome → State → Prop} {XC : String → State → State → Prop} {free : Addr → Prop} {Ts : List Cond} {own C : String} {b : Addr} {As rest : List Value} {g : JFrame}
theorem vx_callBack (cb : CallB R s args own index y bytes maxL ret ws rm mc ms n) (hM : vx_Met l y ws rm Pc Qc XC mc ms free) (hbl : FrameBlind Pc) : vx_Back l R p e below s args y 3 8 (PreOf R mc ms Pc) (PostOf Qc mc ms free) (vx_Post XC mc ms free) := by
  obtain ⟨hrc, hrs, hfr, hlo, hws, hcw, -, hini, -⟩ := cb
  exact vx_back (bytes := bytes) (maxL := maxL) (ret := ret) hM hbl hrc hrs hfr hlo hws hcw (fun a' U hW => word_at hW (Or.inl (by first | rfl | simp [Cond.onTables, Cond.keeps, Cond.steady])) hini)
theorem vx_runV (S : CallFix p m c cc nL s args Ts own) (hM : vx_Met l y ws rm Pc Qc XC mc ms free) (cw : CallW R s args own C index y bytes maxL ret ws rm mc ms n) (hp : PreV s H C b Pc As)
    (hg : g.method = m) (hn : As.length = n) (hsize : g.locals.size = nL) (hstack : g.stack = As.reverse ++ .ref b :: rest) (hW : 2 * g.monitorRoom + (rest.map fun v => v.category).sum ≤ 8) (hdg : decode cc g.pc = .ok (.invokevirtual index, 3)) (hf : cells + mc ≤ R.cells ∧ slots + ms ≤ R.slots) :
    vx_Run p l e R s m args below meth c H locs cells slots mc ms g rest (Qc (Value.ref b :: As).toArray) XC free := by
  have hK : vx_Back l R p e below s args y 3 8 (PreOf R mc ms Pc) (PostOf Qc mc ms free) (vx_Post XC mc ms free) := vx_callBack cw.1 hM hp.1
  obtain ⟨⟨-, -, -, -, -, -, hcode, -, hy, hlen, hl⟩, hin, hse⟩ := cw
  obtain ⟨hx, hb, hml, ho, -⟩ := S
  obtain ⟨-, ⟨cellB, hcB, hoB, hclB⟩, hPc⟩ := hp
  intro T hT X
  rcases vx_callV X hx (C := C) (bytes := bytes) (maxL := maxL) (ret := ret) ho hl hin hse hcode hy hK (by rw [hT]; exact hcB) hoB hclB hg (hsize.trans hml.symm) (argsL := As) (rest := rest) (fun sig h => hn.trans (hlen sig h)) hstack hW (by rw [hb]; exact hdg)
    (fun vm₁ hW₁ => ⟨hf.1, hf.2, hPc (T.setVm vm₁) hT hW₁⟩) with ⟨v, vm₁, ⟨U', l2, c2, s2⟩, hW₁, X', ⟨g', mk, t, L, e1, e2, hq, h1, hL, h2, h3⟩, st⟩ | ⟨q, vm₁, ⟨U', l2, c2, s2⟩, hW₁, X', ⟨g', mk, t, L, E, ce, e1, e2, hq, hce, hcv, hcl, h1, hL, h2, h3⟩, st⟩
  · dsimp only [Pt.U, Pt.locs, Pt.cells, Pt.slots] at X' e1 e2 h1 h2 h3 st
    subst h1; subst h2; subst h3
    exact Or.inl ⟨v, (T.setVm vm₁).calling g' mk (Value.ref b :: As).toArray, t, U', L, hT, X', hL, e1, e2, hq, st⟩
  · dsimp only [Pt.U, Pt.locs, Pt.cells, Pt.slots] at X' e1 e2 h1 h2 h3 st hcl
    subst h1; subst h2; subst h3
    exact Or.inr ⟨q, (T.setVm vm₁).calling g' mk (Value.ref b :: As).toArray, t, U', L, E, ce, hT, X', hL, e1, e2, hq, hce, hcv, vx_cls hW₁ hcl, st⟩
theorem vx_runS (S : CallFix p m c cc nL s args Ts own) (hM : vx_Met l y ws rm Pc Qc XC mc ms free) (cw : CallB R s args own index y bytes maxL ret ws rm mc ms n ∧ (Cond.static y).before args s = true) (hp : PreS s H Pc As)
    (hg : g.method = m) (hn : As.length = n) (hsize : g.locals.size = nL) (hstack : g.stack = As.reverse ++ rest) (hW : 2 * g.monitorRoom + (rest.map fun v => v.category).sum ≤ 8) (hdg : decode cc g.pc = .ok (.invokestatic index, 3)) (hf : cells + mc ≤ R.cells ∧ slots + ms ≤ R.slots) :
    vx_Run p l e R s m args below meth c H locs cells slots mc ms g rest (Qc As.toArray) XC free := by
  have hK : vx_Back l R p e below s args y 3 8 (PreOf R mc ms Pc) (PostOf Qc mc ms free) (vx_Post XC mc ms free) := vx_callBack cw.1 hM hp.1
  obtain ⟨⟨-, -, -, -, -, -, hcode, hini, hy, hlen, hl⟩, hstt⟩ := cw
  obtain ⟨hx, hb, hml, ho, -⟩ := S
  intro T hT X
  rcases vx_callS X hx (bytes := bytes) (maxL := maxL) (ret := ret) ho hl hstt hini hcode hy hK hg (hsize.trans hml.symm) (argsL := As) (rest := rest) (fun sig h => hn.trans (hlen sig h)) hstack hW (by rw [hb]; exact hdg)
    (fun vm₁ hW₁ => ⟨hf.1, hf.2, hp.2 (T.setVm vm₁) hT hW₁⟩) with ⟨v, vm₁, ⟨U', l2, c2, s2⟩, hW₁, X', ⟨g', mk, t, L, e1, e2, hq, h1, hL, h2, h3⟩, st⟩ | ⟨q, vm₁, ⟨U', l2, c2, s2⟩, hW₁, X', ⟨g', mk, t, L, E, ce, e1, e2, hq, hce, hcv, hcl, h1, hL, h2, h3⟩, st⟩
  · dsimp only [Pt.U, Pt.locs, Pt.cells, Pt.slots] at X' e1 e2 h1 h2 h3 st
    subst h1; subst h2; subst h3
    exact Or.inl ⟨v, (T.setVm vm₁).calling g' mk As.toArray, t, U', L, hT, X', hL, e1, e2, hq, st⟩
  · dsimp only [Pt.U, Pt.locs, Pt.cells, Pt.slots] at X' e1 e2 h1 h2 h3 st hcl
    subst h1; subst h2; subst h3
    exact Or.inr ⟨q, (T.setVm vm₁).calling g' mk As.toArray, t, U', L, E, ce, hT, X', hL, e1, e2, hq, hce, hcv, vx_cls hW₁ hcl, st⟩
end Runs
section Rows
variable {p : Program} {l : Launch} {e : Env} {R : Room} {s : State} {m : MethodId} {args : Array Value} {below : List Frame} {meth : Method} {c : Code} {H : Heap} {locs : List Loc} {cells slots : Nat} {Q : State → Prop}
variable {mc ms : Nat} {free : Addr → Prop} {A0 A1 : Nat → Prop} {H0 : Heap} {a : Array Value} {pc : Nat} {ls : Array Slot} {st0 rest : List Value}
theorem vx_keep {st₀ t T' : State} {L : List Loc} (h0 : st₀.heap = H) (e1 : T'.heap = t.heap) (hS : va_S A0 H0 H locs) (hA : ∀ q, q < H.size → A1 q → A0 q) (hf : ∀ q, free q → A0 q) (hL : ∀ q ∈ L, free q.base) (hF : va_F A1 st₀ t) :
    H.size ≤ T'.heap.size ∧ (∀ q : Nat, q < H.size → ¬ A1 q → T'.heap[q]? = H[q]?) ∧ va_S A0 H0 T'.heap (locs ++ L) := by
  obtain ⟨hz, hk⟩ := hF
  rw [h0] at hz hk
  exact ⟨by rw [e1]; exact hz, fun q h1 h2 => by rw [e1]; exact hk q h1 h2,
    ⟨Nat.le_trans hS.1 (by rw [e1]; exact hz), fun q h1 h2 => by rw [e1, hk q (Nat.lt_of_lt_of_le h1 hS.1) (fun z => h2 (hA q (Nat.lt_of_lt_of_le h1 hS.1) z))]; exact hS.2.1 q h1 h2, fun q hq => by
      rcases List.mem_append.mp hq with h | h
      · exact hS.2.2 q h
      · exact hf _ (hL q h)⟩⟩
theorem vx_calli {S SX : Type} {post : Int32 → S → Prop} {px : SX → Prop} {B : S → State → Prop} {BX : String → SX → State → Prop} {AX : Nat → Prop} (hr : vx_Run p l e R s m args below meth c H locs cells slots mc ms (F0 m pc ls st0) rest (va_Qi post B A1 a) (vx_X px BX AX) free) (hS : va_S A0 H0 H locs) (hA : ∀ q, q < H.size → A1 q → A0 q) (hf : ∀ q, free q → A0 q) (hAX : ∀ q, q < H.size → AX q → A0 q)
    (kx : ∀ (E : String) (ce : Cell) (q9 : Addr) (u : SX) (t : State) (H1 : Heap) (locs1 : List Loc), t.heap = H1 → s.vm.Alike t.vm → px u → BX E u t → H.size ≤ H1.size → (∀ q : Nat, q < H.size → ¬ AX q → H1[q]? = H[q]?) → va_S A0 H0 H1 locs1 → H1[q9]? = some ce → ce.vm = .none → s.vm.findClass E = some ce.cls → vx_W p l e R s m args below meth c H1 locs1 (cells + mc) (slots + ms) Q (F0 m pc ls rest) q9)
    (kk : ∀ (r : Int32) (u : S) (t : State) (H1 : Heap) (locs1 : List Loc), t.heap = H1 → s.vm.Alike t.vm → post r u → B u t → H.size ≤ H1.size → (∀ q : Nat, q < H.size → ¬ A1 q → H1[q]? = H[q]?) → va_S A0 H0 H1 locs1 → W p l e R s m args below meth c H1 locs1 (cells + mc) (slots + ms) Q (F0 m (pc + 3) ls (.int r :: rest))) : W p l e R s m args below meth c H locs cells slots Q (F0 m pc ls st0) := by
  intro T hT X
  rcases hr T hT X with ⟨v, st₀, t, T', L, h0, X', hL, e1, e2, ⟨⟨r, u, hv, hp, hb⟩, hF⟩, st⟩ | ⟨q, st₀, t, T', L, E, ce, h0, X', hL, e1, e2, ⟨u, hp, hb, hF⟩, hce, hcv, hcl, st⟩
  · cases hv
    obtain ⟨k1, k2, k3⟩ := vx_keep h0 e1 hS hA hf hL hF
    obtain ⟨t2, a1, b1⟩ := kk r u t T'.heap (locs ++ L) e1.symm (by rw [← e2]; exact X'.warmed.alike) hp hb k1 k2 k3 T' rfl X'
    exact ⟨t2, st t2 a1, b1⟩
  · obtain ⟨k1, k2, k3⟩ := vx_keep h0 e1 hS hAX hf hL hF
    obtain ⟨t2, a1, b1⟩ := kx E ce q u t T'.heap (locs ++ L) e1.symm (by rw [← e2]; exact X'.warmed.alike) hp hb k1 k2 k3 (by rw [e1]; exact hce) hcv hcl T' rfl X'
    exact ⟨t2, st.trans a1, b1⟩
theorem vx_calll {S SX : Type} {post : Int64 → S → Prop} {px : SX → Prop} {B : S → State → Prop} {BX : String → SX → State → Prop} {AX : Nat → Prop} (hr : vx_Run p l e R s m args below meth c H locs cells slots mc ms (F0 m pc ls st0) rest (va_Ql post B A1 a) (vx_X px BX AX) free) (hS : va_S A0 H0 H locs) (hA : ∀ q, q < H.size → A1 q → A0 q) (hf : ∀ q, free q → A0 q) (hAX : ∀ q, q < H.size → AX q → A0 q)
    (kx : ∀ (E : String) (ce : Cell) (q9 : Addr) (u : SX) (t : State) (H1 : Heap) (locs1 : List Loc), t.heap = H1 → s.vm.Alike t.vm → px u → BX E u t → H.size ≤ H1.size → (∀ q : Nat, q < H.size → ¬ AX q → H1[q]? = H[q]?) → va_S A0 H0 H1 locs1 → H1[q9]? = some ce → ce.vm = .none → s.vm.findClass E = some ce.cls → vx_W p l e R s m args below meth c H1 locs1 (cells + mc) (slots + ms) Q (F0 m pc ls rest) q9)
    (kk : ∀ (r : Int64) (u : S) (t : State) (H1 : Heap) (locs1 : List Loc), t.heap = H1 → s.vm.Alike t.vm → post r u → B u t → H.size ≤ H1.size → (∀ q : Nat, q < H.size → ¬ A1 q → H1[q]? = H[q]?) → va_S A0 H0 H1 locs1 → W p l e R s m args below meth c H1 locs1 (cells + mc) (slots + ms) Q (F0 m (pc + 3) ls (.long r :: rest))) : W p l e R s m args below meth c H locs cells slots Q (F0 m pc ls st0) := by
  intro T hT X
  rcases hr T hT X with ⟨v, st₀, t, T', L, h0, X', hL, e1, e2, ⟨⟨r, u, hv, hp, hb⟩, hF⟩, st⟩ | ⟨q, st₀, t, T', L, E, ce, h0, X', hL, e1, e2, ⟨u, hp, hb, hF⟩, hce, hcv, hcl, st⟩
  · cases hv
    obtain ⟨k1, k2, k3⟩ := vx_keep h0 e1 hS hA hf hL hF
    obtain ⟨t2, a1, b1⟩ := kk r u t T'.heap (locs ++ L) e1.symm (by rw [← e2]; exact X'.warmed.alike) hp hb k1 k2 k3 T' rfl X'
    exact ⟨t2, st t2 a1, b1⟩
  · obtain ⟨k1, k2, k3⟩ := vx_keep h0 e1 hS hAX hf hL hF
    obtain ⟨t2, a1, b1⟩ := kx E ce q u t T'.heap (locs ++ L) e1.symm (by rw [← e2]; exact X'.warmed.alike) hp hb k1 k2 k3 (by rw [e1]; exact hce) hcv hcl T' rfl X'
    exact ⟨t2, st.trans a1, b1⟩
theorem vx_callf {S SX : Type} {post : UInt32 → S → Prop} {px : SX → Prop} {B : S → State → Prop} {BX : String → SX → State → Prop} {AX : Nat → Prop} (hr : vx_Run p l e R s m args below meth c H locs cells slots mc ms (F0 m pc ls st0) rest (va_Qf post B A1 a) (vx_X px BX AX) free) (hS : va_S A0 H0 H locs) (hA : ∀ q, q < H.size → A1 q → A0 q) (hf : ∀ q, free q → A0 q) (hAX : ∀ q, q < H.size → AX q → A0 q)
    (kx : ∀ (E : String) (ce : Cell) (q9 : Addr) (u : SX) (t : State) (H1 : Heap) (locs1 : List Loc), t.heap = H1 → s.vm.Alike t.vm → px u → BX E u t → H.size ≤ H1.size → (∀ q : Nat, q < H.size → ¬ AX q → H1[q]? = H[q]?) → va_S A0 H0 H1 locs1 → H1[q9]? = some ce → ce.vm = .none → s.vm.findClass E = some ce.cls → vx_W p l e R s m args below meth c H1 locs1 (cells + mc) (slots + ms) Q (F0 m pc ls rest) q9)
    (kk : ∀ (r : UInt32) (u : S) (t : State) (H1 : Heap) (locs1 : List Loc), t.heap = H1 → s.vm.Alike t.vm → post r u → B u t → H.size ≤ H1.size → (∀ q : Nat, q < H.size → ¬ A1 q → H1[q]? = H[q]?) → va_S A0 H0 H1 locs1 → W p l e R s m args below meth c H1 locs1 (cells + mc) (slots + ms) Q (F0 m (pc + 3) ls (.float r :: rest))) : W p l e R s m args below meth c H locs cells slots Q (F0 m pc ls st0) := by
  intro T hT X
  rcases hr T hT X with ⟨v, st₀, t, T', L, h0, X', hL, e1, e2, ⟨⟨r, u, hv, hp, hb⟩, hF⟩, st⟩ | ⟨q, st₀, t, T', L, E, ce, h0, X', hL, e1, e2, ⟨u, hp, hb, hF⟩, hce, hcv, hcl, st⟩
  · cases hv
    obtain ⟨k1, k2, k3⟩ := vx_keep h0 e1 hS hA hf hL hF
    obtain ⟨t2, a1, b1⟩ := kk r u t T'.heap (locs ++ L) e1.symm (by rw [← e2]; exact X'.warmed.alike) hp hb k1 k2 k3 T' rfl X'
    exact ⟨t2, st t2 a1, b1⟩
  · obtain ⟨k1, k2, k3⟩ := vx_keep h0 e1 hS hAX hf hL hF
    obtain ⟨t2, a1, b1⟩ := kx E ce q u t T'.heap (locs ++ L) e1.symm (by rw [← e2]; exact X'.warmed.alike) hp hb k1 k2 k3 (by rw [e1]; exact hce) hcv hcl T' rfl X'
    exact ⟨t2, st.trans a1, b1⟩
theorem vx_calld {S SX : Type} {post : UInt64 → S → Prop} {px : SX → Prop} {B : S → State → Prop} {BX : String → SX → State → Prop} {AX : Nat → Prop} (hr : vx_Run p l e R s m args below meth c H locs cells slots mc ms (F0 m pc ls st0) rest (va_Qd post B A1 a) (vx_X px BX AX) free) (hS : va_S A0 H0 H locs) (hA : ∀ q, q < H.size → A1 q → A0 q) (hf : ∀ q, free q → A0 q) (hAX : ∀ q, q < H.size → AX q → A0 q)
    (kx : ∀ (E : String) (ce : Cell) (q9 : Addr) (u : SX) (t : State) (H1 : Heap) (locs1 : List Loc), t.heap = H1 → s.vm.Alike t.vm → px u → BX E u t → H.size ≤ H1.size → (∀ q : Nat, q < H.size → ¬ AX q → H1[q]? = H[q]?) → va_S A0 H0 H1 locs1 → H1[q9]? = some ce → ce.vm = .none → s.vm.findClass E = some ce.cls → vx_W p l e R s m args below meth c H1 locs1 (cells + mc) (slots + ms) Q (F0 m pc ls rest) q9)
    (kk : ∀ (r : UInt64) (u : S) (t : State) (H1 : Heap) (locs1 : List Loc), t.heap = H1 → s.vm.Alike t.vm → post r u → B u t → H.size ≤ H1.size → (∀ q : Nat, q < H.size → ¬ A1 q → H1[q]? = H[q]?) → va_S A0 H0 H1 locs1 → W p l e R s m args below meth c H1 locs1 (cells + mc) (slots + ms) Q (F0 m (pc + 3) ls (.double r :: rest))) : W p l e R s m args below meth c H locs cells slots Q (F0 m pc ls st0) := by
  intro T hT X
  rcases hr T hT X with ⟨v, st₀, t, T', L, h0, X', hL, e1, e2, ⟨⟨r, u, hv, hp, hb⟩, hF⟩, st⟩ | ⟨q, st₀, t, T', L, E, ce, h0, X', hL, e1, e2, ⟨u, hp, hb, hF⟩, hce, hcv, hcl, st⟩
  · cases hv
    obtain ⟨k1, k2, k3⟩ := vx_keep h0 e1 hS hA hf hL hF
    obtain ⟨t2, a1, b1⟩ := kk r u t T'.heap (locs ++ L) e1.symm (by rw [← e2]; exact X'.warmed.alike) hp hb k1 k2 k3 T' rfl X'
    exact ⟨t2, st t2 a1, b1⟩
  · obtain ⟨k1, k2, k3⟩ := vx_keep h0 e1 hS hAX hf hL hF
    obtain ⟨t2, a1, b1⟩ := kx E ce q u t T'.heap (locs ++ L) e1.symm (by rw [← e2]; exact X'.warmed.alike) hp hb k1 k2 k3 (by rw [e1]; exact hce) hcv hcl T' rfl X'
    exact ⟨t2, st.trans a1, b1⟩
theorem vx_callv {S SX : Type} {post : S → Prop} {px : SX → Prop} {B : S → State → Prop} {BX : String → SX → State → Prop} {AX : Nat → Prop} (hr : vx_Run p l e R s m args below meth c H locs cells slots mc ms (F0 m pc ls st0) rest (va_Qv post B A1 a) (vx_X px BX AX) free) (hS : va_S A0 H0 H locs) (hA : ∀ q, q < H.size → A1 q → A0 q) (hf : ∀ q, free q → A0 q) (hAX : ∀ q, q < H.size → AX q → A0 q)
    (kx : ∀ (E : String) (ce : Cell) (q9 : Addr) (u : SX) (t : State) (H1 : Heap) (locs1 : List Loc), t.heap = H1 → s.vm.Alike t.vm → px u → BX E u t → H.size ≤ H1.size → (∀ q : Nat, q < H.size → ¬ AX q → H1[q]? = H[q]?) → va_S A0 H0 H1 locs1 → H1[q9]? = some ce → ce.vm = .none → s.vm.findClass E = some ce.cls → vx_W p l e R s m args below meth c H1 locs1 (cells + mc) (slots + ms) Q (F0 m pc ls rest) q9)
    (kk : ∀ (u : S) (t : State) (H1 : Heap) (locs1 : List Loc), t.heap = H1 → s.vm.Alike t.vm → post u → B u t → H.size ≤ H1.size → (∀ q : Nat, q < H.size → ¬ A1 q → H1[q]? = H[q]?) → va_S A0 H0 H1 locs1 → W p l e R s m args below meth c H1 locs1 (cells + mc) (slots + ms) Q (F0 m (pc + 3) ls (rest))) : W p l e R s m args below meth c H locs cells slots Q (F0 m pc ls st0) := by
  intro T hT X
  rcases hr T hT X with ⟨v, st₀, t, T', L, h0, X', hL, e1, e2, ⟨⟨u, hv, hp, hb⟩, hF⟩, st⟩ | ⟨q, st₀, t, T', L, E, ce, h0, X', hL, e1, e2, ⟨u, hp, hb, hF⟩, hce, hcv, hcl, st⟩
  · cases hv
    obtain ⟨k1, k2, k3⟩ := vx_keep h0 e1 hS hA hf hL hF
    obtain ⟨t2, a1, b1⟩ := kk u t T'.heap (locs ++ L) e1.symm (by rw [← e2]; exact X'.warmed.alike) hp hb k1 k2 k3 T' rfl X'
    exact ⟨t2, st t2 a1, b1⟩
  · obtain ⟨k1, k2, k3⟩ := vx_keep h0 e1 hS hAX hf hL hF
    obtain ⟨t2, a1, b1⟩ := kx E ce q u t T'.heap (locs ++ L) e1.symm (by rw [← e2]; exact X'.warmed.alike) hp hb k1 k2 k3 (by rw [e1]; exact hce) hcv hcl T' rfl X'
    exact ⟨t2, st.trans a1, b1⟩
/-- caught by the row x of this method's table; the rows ahead don't take it -/
theorem vx_catch {own name : String} {E : String} {ce : Cell} {q : Addr} (hown : s.vm.findClass own = some m.cls) (pre : List ExceptionTableEntry) (x : ExceptionTableEntry) (suf : List ExceptionTableEntry) (hsplit : c.exceptionTable.toList = pre ++ x :: suf)
    (hpass : ∀ z ∈ pre, covers z pc = false ∨ (z.catchType ≠ 0 ∧ ∃ nm : String, (Cond.classLink own z.catchType nm).before args s = true ∧ va_Nc E nm s)) (hx : covers x pc = true) (h0 : x.catchType ≠ 0)
    (hlink : (Cond.classLink own x.catchType name).before args s = true) (hcast : (Cond.castable E name).before args s = true) (hcell : H[q]? = some ce) (hv : ce.vm = .none) (hcl : s.vm.findClass E = some ce.cls)
    (kk : W p l e R s m args below meth c H locs cells slots Q (F0 m x.handlerPc ls [.ref q])) : vx_W p l e R s m args below meth c H locs cells slots Q (F0 m pc ls rest) q := by
  intro T hT X
  have hpl : e.platform.magicAccessors = ({} : Platform).magicAccessors := by rw [X.admits.platform]
  obtain ⟨c3, c4, hc3, hc4, hasg⟩ := Cond.castable_spec hcast
  cases Option.some.inj (hc3.symm.trans hcl)
  obtain ⟨c5, hc5, hcl5⟩ := Cond.classLink_spec hown hlink e.platform hpl
  cases Option.some.inj (hc4.symm.trans hc5)
  obtain ⟨vm', X', st⟩ := X.thenCaughtThrough q (g := F0 m pc ls rest) rfl (Steps.refl _) (by rw [hT]; exact hcell) (by rw [hv]; rfl) (by obtain ⟨k9, h9, -⟩ := Vm.findClass_spec hcl; exact ⟨k9, h9⟩) pre x suf hsplit
    (fun z hz => by
      rcases hpass z hz with h | ⟨hz0, nm, hl1, hn1⟩
      · exact Or.inl h
      · obtain ⟨c6, hc6, hcl6⟩ := Cond.classLink_spec hown hl1 e.platform hpl
        obtain ⟨a8, b8, h1, h2, h3⟩ := hn1
        cases Option.some.inj (h1.symm.trans hcl)
        cases Option.some.inj (h2.symm.trans hc6)
        exact Or.inr ⟨hz0, _, hcl6, h3⟩) hx (Or.inr ⟨h0, c4, hcl5, hasg⟩)
  obtain ⟨t, a1, b1⟩ := kk (T.setVm vm') hT X'
  exact ⟨t, st.trans a1, b1⟩
end Rows
section Ends
variable {p : Program} {l : Launch} {e : Env} {R : Room} {s : State} {m : MethodId} {args : Array Value} {below : List Frame} {meth : Method} {c : Code} {H : Heap} {locs : List Loc} {cells slots : Nat} {Q : State → Prop}
variable {mc ms : Nat} {free : Addr → Prop} {A0 A1 : Nat → Prop} {H0 : Heap} {a : Array Value} {ls : Array Slot} {st0 rest : List Value}
variable {Qc : Array Value → State → Outcome → State → Prop} {XC : String → State → State → Prop}
/-- what a body that may throw owes at its end -/
def vx_MQ (below : List Frame) (Qc : Array Value → State → Outcome → State → Prop) (XC : String → State → State → Prop) (a : Array Value) (s : State) (mc ms : Nat) (free : Addr → Prop) : State → Prop := fun t =>
  ∃ o, t.status = .running ∧ Ended t below o ∧ vx_Q Qc XC mc ms free a s o t
theorem vx_ret {g : JFrame} {mc ms : Nat} (k : W p l e R s m args below meth c H locs cells slots (MQ below Qc args s mc ms free) g) : W p l e R s m args below meth c H locs cells slots (vx_MQ below Qc XC args s mc ms free) g := by
  intro T hT X
  obtain ⟨t, a1, o, b1, b2, b3, b4⟩ := k T hT X
  exact ⟨t, a1, o, b1, b2, Or.inl ⟨b3, b4⟩⟩
/-- not caught here: it goes on to the caller -/
theorem vx_widen {g : JFrame} {q : Addr} {k n : Nat} (h1 : cells ≤ k) (h2 : slots ≤ n) (kk : vx_W p l e R s m args below meth c H locs k n Q g q) : vx_W p l e R s m args below meth c H locs cells slots Q g q := fun T hT X => kk T hT (stand_widen X h1 h2)
theorem vx_out {pc : Nat} {E : String} {ce : Cell} {q : Addr} {mc ms : Nat} (hout : ∀ x ∈ c.exceptionTable.toList, covers x pc = false) (hlocks : meth.locks = false) (hcell : H[q]? = some ce) (hv : ce.vm = .none) (hcl : s.vm.findClass E = some ce.cls)
    (hx : ∀ t : State, t.heap = H → s.vm.Alike t.vm → XC E s t) (hf : ∀ z ∈ locs, free z.base) (hc : cells ≤ mc) (hs : slots ≤ ms) :
    vx_W p l e R s m args below meth c H locs cells slots (vx_MQ below Qc XC args s mc ms free) (F0 m pc ls rest) q := by
  intro T hT X
  obtain ⟨st1, hrun, hend, hW, hsm⟩ := X.leaveThrown q (g := F0 m pc ls rest) rfl rfl rfl hout hlocks
  have hcell9 : (T.setFrames (.throwing q :: below)).heap[q]? = some ce := by
    show T.heap[q]? = some ce
    rw [hT]; exact hcell
  exact ⟨_, st1, .threw q, hrun, hend, Or.inr ⟨q, rfl, E, ce, locs, hx _ hT hW.alike, hcell9, hv, hcl, hW, hsm.mono hc hs, hf⟩⟩
theorem vx_frame {U : State} {k n : Nat} (h : s.sameButNew ({ U with vm := s.vm } : State) locs k n) : s.heap.size ≤ U.heap.size ∧ ∀ q : Nat, q < s.heap.size → (∀ z ∈ locs, z.base ≠ q) → U.heap[q]? = s.heap[q]? := by
  obtain ⟨-, h2, -, -, -, h6⟩ := h
  refine ⟨h2, fun q hq hz => ?_⟩
  obtain ⟨c9, e1, e2, e3, e4⟩ := h6 q _ (Array.getElem?_eq_getElem hq)
  have hs : c9.slots = (s.heap[q]).slots := Array.ext_getElem? fun i => e4 i fun hm => hz _ hm rfl
  have h9 : c9 = s.heap[q] := by
    rw [hs] at e2
    exact e2
  have e5 : U.heap[q]? = some c9 := e1
  rw [e5, h9, Array.getElem?_eq_getElem hq]
/-- the words of a throw but the four that speak of the heap -/
def vx_no (w : Cond) : Bool := decide (w ≠ .isRef (.static Bundle.tN "UNASSIGNED_STACK" Bundle.steD)) && decide (w ≠ .isRef (.static Bundle.tN "SUPPRESSED_SENTINEL" Bundle.listD)) && decide (w ≠ .laysStatic Bundle.tN "UNASSIGNED_STACK" Bundle.steD) && decide (w ≠ .laysStatic Bundle.tN "SUPPRESSED_SENTINEL" Bundle.listD)
def vx_at0 (own : String) (ic : Nat) (X : String) (names : List String) : List Cond := (Bundle.ownAtoms0 own ic X names).filter vx_no
def vx_atS (own : String) (ic : Nat) (X : String) (names : List String) : List Cond := (Bundle.ownAtoms own ic X names).filter vx_no
/-- a word that the tables alone decide, or a good one -/
def vx_ot (w : Cond) : Bool := w.onTables || goodWord w
theorem vx_ot_at {args a' : Array Value} {s U : State} {w : Cond} (hW : s.WarmedH U.vm) (hvm : s.vm = U.vm) (hg : vx_ot w = true) (h : w.before args s = true) : w.before a' U = true := by
  simp only [vx_ot, Bool.or_eq_true] at hg
  rcases hg with hg | hg
  · exact va_tabs hg hvm h
  · exact word_at hW (good_of_word hg) h
/-- a list's words: the good ones out of the method's own list, the others by premises of their own -/
theorem vx_hat {args : Array Value} {s : State} {L B : List Cond} (h1 : ∀ w ∈ L.filter goodWord, w.before args s = true) (h2 : ∀ w ∈ L.filter (fun w => !goodWord w), w ∈ B) (h3 : ∀ w ∈ B, w.before args s = true) : ∀ w ∈ L, w.before args s = true := by
  intro w hw
  by_cases g : goodWord w = true
  · exact h1 w (List.mem_filter.mpr ⟨hw, g⟩)
  · refine h3 w (h2 w (List.mem_filter.mpr ⟨hw, ?_⟩))
    show (!goodWord w) = true
    cases hgw : goodWord w
    · rfl
    · exact absurd hgw g
theorem vx_c {args : Array Value} {s : State} {w : Cond} {B : List Cond} (h : w.before args s = true) (t : ∀ w ∈ B, w.before args s = true) : ∀ w' ∈ w :: B, w'.before args s = true := fun w' h' => (List.mem_cons.mp h').elim (fun e => by rw [e]; exact h) (t w')
theorem vx_n {args : Array Value} {s : State} : ∀ w ∈ ([] : List Cond), w.before args s = true := fun _ h => nomatch h
theorem vx_own {args : Array Value} {s : State} {L : List Cond} (h1 : ∀ w ∈ L.filter vx_no, w.before args s = true)
    (hU : (Cond.isRef (.static Bundle.tN "UNASSIGNED_STACK" Bundle.steD)).before args s = true) (hN : (Cond.isRef (.static Bundle.tN "SUPPRESSED_SENTINEL" Bundle.listD)).before args s = true)
    (lU : (Cond.laysStatic Bundle.tN "UNASSIGNED_STACK" Bundle.steD).before args s = true) (lN : (Cond.laysStatic Bundle.tN "SUPPRESSED_SENTINEL" Bundle.listD).before args s = true) : ∀ w ∈ L, w.before args s = true := by
  intro w hw
  by_cases e1 : w = .isRef (.static Bundle.tN "UNASSIGNED_STACK" Bundle.steD)
  · rw [e1]; exact hU
  · by_cases e2 : w = .isRef (.static Bundle.tN "SUPPRESSED_SENTINEL" Bundle.listD)
    · rw [e2]; exact hN
    · by_cases e3 : w = .laysStatic Bundle.tN "UNASSIGNED_STACK" Bundle.steD
      · rw [e3]; exact lU
      · by_cases e4 : w = .laysStatic Bundle.tN "SUPPRESSED_SENTINEL" Bundle.listD
        · rw [e4]; exact lN
        · exact h1 w (List.mem_filter.mpr ⟨hw, by unfold vx_no; rw [decide_eq_true e1, decide_eq_true e2, decide_eq_true e3, decide_eq_true e4]; rfl⟩)
/-- where a static field lies, its class's statics cell in H -/
def vx_L (C n d : String) (A : Nat → Prop) (U : State) (H : Heap) : Prop := ∃ (c : ClassId) (k : Class) (i : Nat) (f : Field) (a : Nat) (cell : Cell), U.vm.findClass C = some c ∧ U.fieldFound? C n d = some (c, k, i, f) ∧ f.isStatic = true ∧ k.statics = some a ∧ H[a]? = some cell ∧ cell.vm.isStatics = true ∧ cell.cls = c ∧ f.slot < cell.slots.size ∧ k.staticTypes[f.slot]? = some f.type ∧ ¬ A a
theorem vx_L.moved {C n d : String} {A : Nat → Prop} {u U : State} {H : Heap} (hvm : u.vm.Alike U.vm) (h : vx_L C n d A u H) : vx_L C n d A U H := by
  obtain ⟨c, k, i, f, a, cell, h1, h2, h3, h4, h5, h6, h7, h8, h9, h10⟩ := h
  obtain ⟨k', hi', he⟩ := State.fieldFound?_setVm hvm h2
  exact ⟨c, k', i, f, a, cell, by rw [hvm.findClass]; exact h1, hi', h3, by rw [he]; exact h4, h5, h6, h7, h8, by rw [he]; exact h9, h10⟩
theorem vx_L.kept {C n d : String} {A : Nat → Prop} {U : State} {H H1 : Heap} (h : vx_L C n d A U H) (hq : ∀ a : Nat, a < H.size → ¬ A a → H1[a]? = H[a]?) : vx_L C n d A U H1 := by
  obtain ⟨c, k, i, f, a, cell, h1, h2, h3, h4, h5, h6, h7, h8, h9, h10⟩ := h
  exact ⟨c, k, i, f, a, cell, h1, h2, h3, h4, by rw [hq a (Array.getElem?_eq_some_iff.mp h5).1 h10]; exact h5, h6, h7, h8, h9, h10⟩
theorem vx_L.narrow {C n d : String} {A B : Nat → Prop} {U : State} {H : Heap} (h : vx_L C n d A U H) (hAB : ∀ q, B q → A q) : vx_L C n d B U H := by
  obtain ⟨c, k, i, f, a, cell, h1, h2, h3, h4, h5, h6, h7, h8, h9, h10⟩ := h
  exact ⟨c, k, i, f, a, cell, h1, h2, h3, h4, h5, h6, h7, h8, h9, fun z => h10 (hAB _ z)⟩
theorem vx_L.word {C n d : String} {A : Nat → Prop} {s : State} {args : Array Value} (h : vx_L C n d A s s.heap) : (Cond.laysStatic C n d).before args s = true := by
  obtain ⟨c, k, i, f, a, cell, h1, h2, h3, h4, h5, h6, h7, h8, h9, -⟩ := h
  show (Cond.laysStatic C n d).holds args s none s [] = true
  exact Cond.laysStatic_of h1 h2 h3 h4 h5 h6 h7 h8 h9
/-- .. and what it holds: null or some reference -/
def vx_Zq (C n d : String) (A : Nat → Prop) (U : State) (H : Heap) : Prop := va_Zq C n d A U H ∧ vx_L C n d A U H
theorem vx_Zq.moved {C n d : String} {A : Nat → Prop} {u U : State} {H : Heap} (hvm : u.vm.Alike U.vm) (h : vx_Zq C n d A u H) : vx_Zq C n d A U H := ⟨va_Zq.moved hvm h.1, vx_L.moved hvm h.2⟩
theorem vx_Zq.kept {C n d : String} {A : Nat → Prop} {U : State} {H H1 : Heap} (h : vx_Zq C n d A U H) (hq : ∀ a : Nat, a < H.size → ¬ A a → H1[a]? = H[a]?) : vx_Zq C n d A U H1 := ⟨va_Zq.kept h.1 hq, vx_L.kept h.2 hq⟩
theorem vx_Zq.narrow {C n d : String} {A B : Nat → Prop} {U : State} {H : Heap} (h : vx_Zq C n d A U H) (hAB : ∀ q, B q → A q) : vx_Zq C n d B U H := ⟨va_Zq.narrow h.1 hAB, vx_L.narrow h.2 hAB⟩
theorem vx_Zqof {args : Array Value} {s : State} {C n d : String} {A : Nat → Prop} (hl : (Cond.laysStatic C n d).before args s = true) (hini : (Cond.initialized C).before args s = true) (h : (Cond.isRef (.static C n d)).before args s = true) (hA : ∀ a : Nat, a < s.heap.size → ¬ A a) : vx_Zq C n d A s s.heap := by
  refine ⟨va_Zqof hl hini h hA, ?_⟩
  obtain ⟨c, k, i, f, a, cell, h1, h2, h3, h4, h5, h6, h7, h8, h9⟩ := Cond.laysStatic_spec hl
  exact ⟨c, k, i, f, a, cell, h1, h2, h3, h4, h5, h6, h7, h8, h9, hA a (Array.getElem?_eq_some_iff.mp h5).1⟩
theorem vx_isRef {C n d : String} {v : Value} {A : Nat → Prop} {s : State} {args : Array Value} (h : va_Z C n d v A s s.heap) (hv : v.isRef = true) : (Cond.isRef (.static C n d)).before args s = true := by
  obtain ⟨cf, kf, fi, f, a, cell, h1, h2, h3, h4, h5, h6, h7, -⟩ := h
  have he : (Term.static C n d).eval args s none [] s = some v := by
    simp [Term.eval, State.fieldNamed?, h1, h2, h4, h5, h6, h7]
  simp only [Cond.before, Cond.holds, Cond.value, he]
  cases v <;> simp_all [Value.isRef]
theorem vx_isRefq {C n d : String} {A : Nat → Prop} {s : State} {args : Array Value} (h : va_Zq C n d A s s.heap) : (Cond.isRef (.static C n d)).before args s = true := by
  rcases h with h | ⟨t, h⟩
  · exact vx_isRef h rfl
  · exact vx_isRef h rfl
/-- the same frame, seen from here: as if the method were called anew in this heap -/
theorem vx_rebase {T : State} (X : Stand p l e R s m args below meth c T locs cells slots) {R' : Room} (hf : R'.frames ≤ R.frames) (hl : R'.locals ≤ R.locals) (hc : cells + R'.cells ≤ R.cells) (hs : slots + R'.slots ≤ R.slots) :
    Stand p l e R' ((T.setVm s.vm).setFrames (.invoking m args :: below)) m args below meth c T [] 0 0 := by
  have htop : (T.setVm s.vm).topJava?.isSome := X.here.top
  have hF : ((T.setVm s.vm).setFrames (.invoking m args :: below)).frames = .invoking m args :: below := State.frames_setFrames _ (State.cur_lt_of_top htop)
  obtain ⟨g₀, hg0⟩ := Option.isSome_iff_exists.mp htop
  obtain ⟨r, hr⟩ := State.topJava?_eq_some.mp hg0
  have hl9 : e.platform.stackLimits (T.setVm s.vm).me = e.platform.stackLimits s.me := X.limits
  have hb9 : (T.setVm s.vm).me.stackBytes = s.me.stackBytes := X.bytes
  refine ⟨X.admits, X.cas, X.clock, hF, ?_, X.hears, X.method, X.code, X.here, X.tail, X.warmed, ?_, ?_, ?_⟩
  · have h := X.room
    have hU : ((T.setVm s.vm).setFrames (.invoking m args :: below)).localsInUse = s.localsInUse := by
      rw [State.localsInUse_invoking hF (meth := meth) (c := c) X.method X.code, State.localsInUse_invoking X.frames X.method X.code]
    simp only [State.hasRoom, Bool.and_eq_true, decide_eq_true_eq] at h ⊢
    obtain ⟨⟨⟨⟨h1, h2, h3, h4, h5, h6⟩, h7⟩, h8⟩, h9⟩ := h
    rw [X.frames, List.length_cons] at h2 h3
    have q1 := X.heapSize
    have q2 := X.used
    simp only [hF, hU, List.length_cons, State.stackLimits_setFrames, State.stackBytes_setFrames, hl9, hb9]
    refine ⟨⟨⟨⟨by omega, by omega, by omega, by omega, by omega, h6⟩, ?_⟩, ?_⟩, X.book⟩
    · show T.heap.size + R'.cells ≤ e.platform.maxCells
      omega
    · show T.slotsUsed + R'.slots ≤ e.platform.maxSlots
      omega
  · rw [State.stackLimits_setFrames]; rfl
  · rw [State.stackBytes_setFrames]; rfl
  · refine ⟨?_, Nat.le_refl _, Nat.le_refl _, ?_, ?_, fun a c9 h9 => ⟨c9, h9, rfl, rfl, fun _ _ => rfl⟩⟩
    · obtain ⟨t, ht, -⟩ := State.frames_cons hr
      show T.setVm s.vm = { ((T.setVm s.vm).setFrames (.invoking m args :: below)).setFrames (T.setVm s.vm).frames with heap := T.heap, slotsUsed := T.slotsUsed }
      rw [State.setFrames_setFrames, State.setFrames_self ht]
      rfl
    · show T.slotsUsed = T.slotsUsed + ((T.heap.toList.drop T.heap.size).map (·.slots.size)).sum
      rw [List.drop_eq_nil_of_le (Nat.le_of_eq Array.length_toList)]
      rfl
    · show ((T.heap.toList.drop T.heap.size).map (·.slots.size)).sum ≤ 0
      rw [List.drop_eq_nil_of_le (Nat.le_of_eq Array.length_toList)]
      exact Nat.le_refl _
/-- 'throw new E()': new; dup; invokespecial; athrow -/
theorem vx_throw0 {cc : ByteArray} {pc : Nat} (hexec : p.tables.exec = Jvm.exec) (hb : c.code = cc) (hl : l.stackTraces = false) {own cls : String} {names : List String} {ik ic mc ms : Nat} {A : Nat → Prop}
    (hown : s.vm.findClass own = some m.cls) (hcls : Bundle.fit cls = true) (hnames : ∀ n ∈ names, Bundle.fit n = true)
    (hk : (Cond.classLink own ik cls).before args s = true) (hini : (Cond.initialized cls).before args s = true) (hat : ∀ w ∈ vx_at0 own ic cls names, w.before args s = true)
    (hgood : ∀ w ∈ Cond.classLink own ik cls :: Cond.initialized cls :: vx_at0 own ic cls names, vx_ot w = true)
    (hU : vx_Zq Bundle.tN "UNASSIGNED_STACK" Bundle.steD A s s.heap) (hN : vx_Zq Bundle.tN "SUPPRESSED_SENTINEL" Bundle.listD A s s.heap) (hS : va_S A s.heap H locs) (hsize : ls.size = c.maxLocals)
    (d0 : decode cc pc = .ok (.new ik, 3)) (d3 : decode cc (pc + 3) = .ok (.dup, 1)) (d4 : decode cc (pc + 4) = .ok (.invokespecial ic, 3)) (d7 : decode cc (pc + 7) = .ok (.athrow, 1))
    (hout : ∀ x ∈ c.exceptionTable.toList, covers x (pc + 7) = false)
    (hRframes : names.length + 3 < R.frames) (hRlocals : (rest.map fun v => v.category).sum + (13 * (names.length + 1) + 42) ≤ R.locals) (hRcells : cells + 1 ≤ R.cells) (hRslots : slots + 6 ≤ R.slots) (hlocks : meth.locks = false)
    (hx : ∀ t : State, s.vm.Alike t.vm → H.size ≤ t.heap.size → (∀ q : Nat, q < H.size → t.heap[q]? = H[q]?) → XC cls s t)
    (hf : ∀ z ∈ locs, free z.base) (hc : cells + 1 ≤ mc) (hs : slots + 6 ≤ ms) :
    W p l e R s m args below meth c H locs cells slots (vx_MQ below Qc XC args s mc ms free) (F0 m pc ls rest) := by
  intro T hT X
  have htr : e.platform.stackTraces = false := (show e.platform.stackTraces = l.stackTraces by rw [X.admits.platform]).trans hl
  have Y := vx_rebase X (R' := { frames := R.frames, locals := R.locals, cells := 1, slots := 6 }) (Nat.le_refl _) (Nat.le_refl _) hRcells hRslots
  obtain ⟨s', hA⟩ : ∃ z, z = (T.setVm s.vm).setFrames (.invoking m args :: below) := ⟨_, rfl⟩
  rw [← hA] at Y
  have hvm : s'.vm = s.vm := by rw [hA]; rfl
  have hhp : s'.heap = H := by rw [hA]; exact hT
  have hW0 : s.WarmedH s'.vm := by rw [hvm]; exact State.WarmedH.refl s
  have hat' : ∀ w ∈ vx_at0 own ic cls names, w.before args s' = true := fun w hw => vx_ot_at hW0 hvm.symm (hgood w (List.mem_cons_of_mem _ (List.mem_cons_of_mem _ hw))) (hat w hw)
  have hk' : (Cond.classLink own ik cls).before args s' = true := vx_ot_at hW0 hvm.symm (hgood _ List.mem_cons_self) hk
  have hini' : (Cond.initialized cls).before args s' = true := vx_ot_at hW0 hvm.symm (hgood _ (List.mem_cons_of_mem _ List.mem_cons_self)) hini
  have hU' : vx_Zq Bundle.tN "UNASSIGNED_STACK" Bundle.steD A s' s'.heap := by rw [hhp]; exact vx_Zq.moved hW0.alike (hU.kept hS.2.1)
  have hN' : vx_Zq Bundle.tN "SUPPRESSED_SENTINEL" Bundle.listD A s' s'.heap := by rw [hhp]; exact vx_Zq.moved hW0.alike (hN.kept hS.2.1)
  have h : ∀ w ∈ Bundle.ownAtoms0 own ic cls names, w.before args s' = true := vx_own hat' (vx_isRefq hU'.1) (vx_isRefq hN'.1) hU'.2.word hN'.2.word
  have hown' : s'.vm.findClass own = some m.cls := by rw [hvm]; exact hown
  have hins : (Cond.instantiable cls 6).before args s' = true := h _ (by simp [Bundle.ownAtoms0])
  obtain ⟨vm₁, cX, kX, hfX, hkX, -, -, X₁, st1⟩ := Y.newCold hexec (own := own) (C := cls) (index := ik) (n := 6) hown' hk' hins hini'
    (g := F0 m pc ls rest) rfl (by rw [hb]; exact d0) (Nat.le_refl _) (Nat.le_refl _)
  generalize hT1 : (T.setVm vm₁).pushCell { cls := cX, slots := kX.instanceTypes.map defaultValue, vm := .none } = T1 at X₁ st1
  have hcat : (Value.ref T.heap.size).category = 1 := rfl
  have hcellA : T1.heap[T.heap.size]? = some (freshCell cX kX) := by rw [← hT1]; exact State.heap_pushCell_size _ _
  have d3' : decode c.code (pc + 3) = .ok (.dup, 1) := by rw [hb]; exact d3
  obtain ⟨U, hsteps, hrun, hend, hW, hsame, ce, hce, hO⟩ := X₁.ctorThrow0 hexec htr (own := own) (cls := cls) (names := names) (ic := ic) hown' hcls hnames h (fun x hx => nomatch hx) hfX hkX hcellA (by rw [hhp, hT]; exact Nat.le_refl _)
    (g := { method := m, pc := pc + 4, locals := ls, stack := .ref T.heap.size :: .ref T.heap.size :: rest, locked := none }) rfl hsize rfl rfl (rest := rest) rfl
    (by rw [hb]; exact d4) (by rw [hb]; exact d7) hout hRframes (by simp only [List.map_cons, List.sum_cons, hcat]; omega) hlocks
  obtain ⟨f1, f2⟩ := vx_frame hsame
  rw [hhp] at f1 f2
  have hWs : s.WarmedH U.vm := State.WarmedH.trans hW0 hW
  have hcl : s.vm.findClass cls = some ce.cls := by
    have h9 := hO.cls
    rw [hvm] at h9
    exact h9
  have hall : s.sameButNew ({ U with vm := s.vm } : State) locs mc ms := by
    subst hA
    obtain ⟨e1, e2⟩ := hsame
    rw [State.setFrames_setFrames] at e1
    have h2 : (T.setVm s.vm).sameButNew ({ U with vm := s.vm } : State) [] (0 + 1) (0 + 6) := ⟨e1, e2⟩
    have h3 := X.same.trans h2
    rw [List.append_nil] at h3
    exact h3.mono hc hs
  refine ⟨U, ?_, .threw T.heap.size, hrun, hend, Or.inr ⟨T.heap.size, rfl, cls, ce, locs, hx U hWs.alike f1 (fun q hq => f2 q hq (fun z hz => nomatch hz)), hce, hO.vm, hcl, hWs, hall, hf⟩⟩
  refine st1 _ ?_
  show Steps p.tables e below (T1.setTop { method := m, pc := pc + 3, locals := ls, stack := .ref T.heap.size :: rest, locked := none }) _
  jvm_step X₁.here [X₁.here.top, hexec, d3', Value.category]
  exact hsteps
/-- 'throw new E("text")': new; dup; ldc; invokespecial; athrow -/
theorem vx_throwS {cc : ByteArray} {pc : Nat} (hexec : p.tables.exec = Jvm.exec) (hb : c.code = cc) (hl : l.stackTraces = false) {own cls text : String} {names : List String} {ik is ic mc ms sa : Nat} {A : Nat → Prop}
    (hown : s.vm.findClass own = some m.cls) (hcls : Bundle.fit cls = true) (hnames : ∀ n ∈ names, Bundle.fit n = true)
    (hk : (Cond.classLink own ik cls).before args s = true) (hini : (Cond.initialized cls).before args s = true) (hstr : vk_R own is text sa s) (hat : ∀ w ∈ vx_atS own ic cls names, w.before args s = true)
    (hgood : ∀ w ∈ Cond.classLink own ik cls :: Cond.initialized cls :: vx_atS own ic cls names, vx_ot w = true)
    (hU : vx_Zq Bundle.tN "UNASSIGNED_STACK" Bundle.steD A s s.heap) (hN : vx_Zq Bundle.tN "SUPPRESSED_SENTINEL" Bundle.listD A s s.heap) (hS : va_S A s.heap H locs) (hsize : ls.size = c.maxLocals)
    (d0 : decode cc pc = .ok (.new ik, 3)) (d3 : decode cc (pc + 3) = .ok (.dup, 1)) (d4 : decode cc (pc + 4) = .ok (.ldc is, 2)) (d6 : decode cc (pc + 6) = .ok (.invokespecial ic, 3)) (d9 : decode cc (pc + 9) = .ok (.athrow, 1))
    (hout : ∀ x ∈ c.exceptionTable.toList, covers x (pc + 9) = false)
    (hRframes : names.length + 3 < R.frames) (hRlocals : (rest.map fun v => v.category).sum + (13 * (names.length + 1) + 43) ≤ R.locals) (hRcells : cells + 1 ≤ R.cells) (hRslots : slots + 6 ≤ R.slots) (hlocks : meth.locks = false)
    (hx : ∀ t : State, s.vm.Alike t.vm → H.size ≤ t.heap.size → (∀ q : Nat, q < H.size → t.heap[q]? = H[q]?) → XC cls s t)
    (hf : ∀ z ∈ locs, free z.base) (hc : cells + 1 ≤ mc) (hs : slots + 6 ≤ ms) :
    W p l e R s m args below meth c H locs cells slots (vx_MQ below Qc XC args s mc ms free) (F0 m pc ls rest) := by
  intro T hT X
  have htr : e.platform.stackTraces = false := (show e.platform.stackTraces = l.stackTraces by rw [X.admits.platform]).trans hl
  have Y := vx_rebase X (R' := { frames := R.frames, locals := R.locals, cells := 1, slots := 6 }) (Nat.le_refl _) (Nat.le_refl _) hRcells hRslots
  obtain ⟨s', hA⟩ : ∃ z, z = (T.setVm s.vm).setFrames (.invoking m args :: below) := ⟨_, rfl⟩
  rw [← hA] at Y
  have hvm : s'.vm = s.vm := by rw [hA]; rfl
  have hhp : s'.heap = H := by rw [hA]; exact hT
  have hW0 : s.WarmedH s'.vm := by rw [hvm]; exact State.WarmedH.refl s
  have hat' : ∀ w ∈ vx_atS own ic cls names, w.before args s' = true := fun w hw => vx_ot_at hW0 hvm.symm (hgood w (List.mem_cons_of_mem _ (List.mem_cons_of_mem _ hw))) (hat w hw)
  have hk' : (Cond.classLink own ik cls).before args s' = true := vx_ot_at hW0 hvm.symm (hgood _ List.mem_cons_self) hk
  have hini' : (Cond.initialized cls).before args s' = true := vx_ot_at hW0 hvm.symm (hgood _ (List.mem_cons_of_mem _ List.mem_cons_self)) hini
  have hU' : vx_Zq Bundle.tN "UNASSIGNED_STACK" Bundle.steD A s' s'.heap := by rw [hhp]; exact vx_Zq.moved hW0.alike (hU.kept hS.2.1)
  have hN' : vx_Zq Bundle.tN "SUPPRESSED_SENTINEL" Bundle.listD A s' s'.heap := by rw [hhp]; exact vx_Zq.moved hW0.alike (hN.kept hS.2.1)
  have h : ∀ w ∈ Bundle.ownAtoms own ic cls names, w.before args s' = true := vx_own hat' (vx_isRefq hU'.1) (vx_isRefq hN'.1) hU'.2.word hN'.2.word
  have hown' : s'.vm.findClass own = some m.cls := by rw [hvm]; exact hown
  have hins : (Cond.instantiable cls 6).before args s' = true := h _ (by simp [Bundle.ownAtoms])
  obtain ⟨vm₁, cX, kX, hfX, hkX, -, -, X₁, st1⟩ := Y.newCold hexec (own := own) (C := cls) (index := ik) (n := 6) hown' hk' hins hini'
    (g := F0 m pc ls rest) rfl (by rw [hb]; exact d0) (Nat.le_refl _) (Nat.le_refl _)
  generalize hT1 : (T.setVm vm₁).pushCell { cls := cX, slots := kX.instanceTypes.map defaultValue, vm := .none } = T1 at X₁ st1
  have hcat : (Value.ref T.heap.size).category = 1 := rfl
  have hcellA : T1.heap[T.heap.size]? = some (freshCell cX kX) := by rw [← hT1]; exact State.heap_pushCell_size _ _
  have d3' : decode c.code (pc + 3) = .ok (.dup, 1) := by rw [hb]; exact d3
  have d4' : decode c.code (pc + 4) = .ok (.ldc is, 2) := by rw [hb]; exact d4
  have hstr' : vk_R own is text sa s' := vk_R.warm hW0 hstr
  obtain ⟨U, hsteps, hrun, hend, hW, hsame, ce, hce, hO⟩ := X₁.ctorThrowS hexec htr (own := own) (cls := cls) (names := names) (ic := ic) hown' hcls hnames h (fun x hx => nomatch hx) hfX hkX hcellA (by rw [hhp, hT]; exact Nat.le_refl _) (msg := .ref sa) rfl
    (g := { method := m, pc := pc + 6, locals := ls, stack := .ref sa :: .ref T.heap.size :: .ref T.heap.size :: rest, locked := none }) rfl hsize rfl rfl (rest := rest) rfl
    (by rw [hb]; exact d6) (by rw [hb]; exact d9) hout hRframes (by simp only [List.map_cons, List.sum_cons, hcat]; omega) hlocks
  obtain ⟨f1, f2⟩ := vx_frame hsame
  rw [hhp] at f1 f2
  have hWs : s.WarmedH U.vm := State.WarmedH.trans hW0 hW
  have hcl : s.vm.findClass cls = some ce.cls := by
    have h9 := hO.cls
    rw [hvm] at h9
    exact h9
  have hall : s.sameButNew ({ U with vm := s.vm } : State) locs mc ms := by
    subst hA
    obtain ⟨e1, e2⟩ := hsame
    rw [State.setFrames_setFrames] at e1
    have h2 : (T.setVm s.vm).sameButNew ({ U with vm := s.vm } : State) [] (0 + 1) (0 + 6) := ⟨e1, e2⟩
    have h3 := X.same.trans h2
    rw [List.append_nil] at h3
    exact h3.mono hc hs
  refine ⟨U, ?_, .threw T.heap.size, hrun, hend, Or.inr ⟨T.heap.size, rfl, cls, ce, locs, hx U hWs.alike f1 (fun q hq => f2 q hq (fun z hz => nomatch hz)), hce, hO.vm, hcl, hWs, hall, hf⟩⟩
  refine st1 _ ?_
  show Steps p.tables e below (T1.setTop { method := m, pc := pc + 3, locals := ls, stack := .ref T.heap.size :: rest, locked := none }) _
  jvm_step X₁.here [X₁.here.top, hexec, d3', Value.category]
  exact X₁.ldcString hexec (own := own) (text := text) (index := is) (a := sa) hown' hstr'.1 hstr'.2
    (g := { method := m, pc := pc + 4, locals := ls, stack := .ref T.heap.size :: .ref T.heap.size :: rest, locked := none }) rfl d4' _ hsteps
/-- 'throw new E("text")', the text by a wide index -/
theorem vx_throwSW {cc : ByteArray} {pc : Nat} (hexec : p.tables.exec = Jvm.exec) (hb : c.code = cc) (hl : l.stackTraces = false) {own cls text : String} {names : List String} {ik is ic mc ms sa : Nat} {A : Nat → Prop}
    (hown : s.vm.findClass own = some m.cls) (hcls : Bundle.fit cls = true) (hnames : ∀ n ∈ names, Bundle.fit n = true)
    (hk : (Cond.classLink own ik cls).before args s = true) (hini : (Cond.initialized cls).before args s = true) (hstr : vk_R own is text sa s) (hat : ∀ w ∈ vx_atS own ic cls names, w.before args s = true)
    (hgood : ∀ w ∈ Cond.classLink own ik cls :: Cond.initialized cls :: vx_atS own ic cls names, vx_ot w = true)
    (hU : vx_Zq Bundle.tN "UNASSIGNED_STACK" Bundle.steD A s s.heap) (hN : vx_Zq Bundle.tN "SUPPRESSED_SENTINEL" Bundle.listD A s s.heap) (hS : va_S A s.heap H locs) (hsize : ls.size = c.maxLocals)
    (d0 : decode cc pc = .ok (.new ik, 3)) (d3 : decode cc (pc + 3) = .ok (.dup, 1)) (d4 : decode cc (pc + 4) = .ok (.ldc_w is, 3)) (d7 : decode cc (pc + 7) = .ok (.invokespecial ic, 3)) (d10 : decode cc (pc + 10) = .ok (.athrow, 1))
    (hout : ∀ x ∈ c.exceptionTable.toList, covers x (pc + 10) = false)
    (hRframes : names.length + 3 < R.frames) (hRlocals : (rest.map fun v => v.category).sum + (13 * (names.length + 1) + 43) ≤ R.locals) (hRcells : cells + 1 ≤ R.cells) (hRslots : slots + 6 ≤ R.slots) (hlocks : meth.locks = false)
    (hx : ∀ t : State, s.vm.Alike t.vm → H.size ≤ t.heap.size → (∀ q : Nat, q < H.size → t.heap[q]? = H[q]?) → XC cls s t)
    (hf : ∀ z ∈ locs, free z.base) (hc : cells + 1 ≤ mc) (hs : slots + 6 ≤ ms) :
    W p l e R s m args below meth c H locs cells slots (vx_MQ below Qc XC args s mc ms free) (F0 m pc ls rest) := by
  intro T hT X
  have htr : e.platform.stackTraces = false := (show e.platform.stackTraces = l.stackTraces by rw [X.admits.platform]).trans hl
  have Y := vx_rebase X (R' := { frames := R.frames, locals := R.locals, cells := 1, slots := 6 }) (Nat.le_refl _) (Nat.le_refl _) hRcells hRslots
  obtain ⟨s', hA⟩ : ∃ z, z = (T.setVm s.vm).setFrames (.invoking m args :: below) := ⟨_, rfl⟩
  rw [← hA] at Y
  have hvm : s'.vm = s.vm := by rw [hA]; rfl
  have hhp : s'.heap = H := by rw [hA]; exact hT
  have hW0 : s.WarmedH s'.vm := by rw [hvm]; exact State.WarmedH.refl s
  have hat' : ∀ w ∈ vx_atS own ic cls names, w.before args s' = true := fun w hw => vx_ot_at hW0 hvm.symm (hgood w (List.mem_cons_of_mem _ (List.mem_cons_of_mem _ hw))) (hat w hw)
  have hk' : (Cond.classLink own ik cls).before args s' = true := vx_ot_at hW0 hvm.symm (hgood _ List.mem_cons_self) hk
  have hini' : (Cond.initialized cls).before args s' = true := vx_ot_at hW0 hvm.symm (hgood _ (List.mem_cons_of_mem _ List.mem_cons_self)) hini
  have hU' : vx_Zq Bundle.tN "UNASSIGNED_STACK" Bundle.steD A s' s'.heap := by rw [hhp]; exact vx_Zq.moved hW0.alike (hU.kept hS.2.1)
  have hN' : vx_Zq Bundle.tN "SUPPRESSED_SENTINEL" Bundle.listD A s' s'.heap := by rw [hhp]; exact vx_Zq.moved hW0.alike (hN.kept hS.2.1)
  have h : ∀ w ∈ Bundle.ownAtoms own ic cls names, w.before args s' = true := vx_own hat' (vx_isRefq hU'.1) (vx_isRefq hN'.1) hU'.2.word hN'.2.word
  have hown' : s'.vm.findClass own = some m.cls := by rw [hvm]; exact hown
  have hins : (Cond.instantiable cls 6).before args s' = true := h _ (by simp [Bundle.ownAtoms])
  obtain ⟨vm₁, cX, kX, hfX, hkX, -, -, X₁, st1⟩ := Y.newCold hexec (own := own) (C := cls) (index := ik) (n := 6) hown' hk' hins hini'
    (g := F0 m pc ls rest) rfl (by rw [hb]; exact d0) (Nat.le_refl _) (Nat.le_refl _)
  generalize hT1 : (T.setVm vm₁).pushCell { cls := cX, slots := kX.instanceTypes.map defaultValue, vm := .none } = T1 at X₁ st1
  have hcat : (Value.ref T.heap.size).category = 1 := rfl
  have hcellA : T1.heap[T.heap.size]? = some (freshCell cX kX) := by rw [← hT1]; exact State.heap_pushCell_size _ _
  have d3' : decode c.code (pc + 3) = .ok (.dup, 1) := by rw [hb]; exact d3
  have d4' : decode c.code (pc + 4) = .ok (.ldc_w is, 3) := by rw [hb]; exact d4
  have hstr' : vk_R own is text sa s' := vk_R.warm hW0 hstr
  obtain ⟨U, hsteps, hrun, hend, hW, hsame, ce, hce, hO⟩ := X₁.ctorThrowS hexec htr (own := own) (cls := cls) (names := names) (ic := ic) hown' hcls hnames h (fun x hx => nomatch hx) hfX hkX hcellA (by rw [hhp, hT]; exact Nat.le_refl _) (msg := .ref sa) rfl
    (g := { method := m, pc := pc + 7, locals := ls, stack := .ref sa :: .ref T.heap.size :: .ref T.heap.size :: rest, locked := none }) rfl hsize rfl rfl (rest := rest) rfl
    (by rw [hb]; exact d7) (by rw [hb]; exact d10) hout hRframes (by simp only [List.map_cons, List.sum_cons, hcat]; omega) hlocks
  obtain ⟨f1, f2⟩ := vx_frame hsame
  rw [hhp] at f1 f2
  have hWs : s.WarmedH U.vm := State.WarmedH.trans hW0 hW
  have hcl : s.vm.findClass cls = some ce.cls := by
    have h9 := hO.cls
    rw [hvm] at h9
    exact h9
  have hall : s.sameButNew ({ U with vm := s.vm } : State) locs mc ms := by
    subst hA
    obtain ⟨e1, e2⟩ := hsame
    rw [State.setFrames_setFrames] at e1
    have h2 : (T.setVm s.vm).sameButNew ({ U with vm := s.vm } : State) [] (0 + 1) (0 + 6) := ⟨e1, e2⟩
    have h3 := X.same.trans h2
    rw [List.append_nil] at h3
    exact h3.mono hc hs
  refine ⟨U, ?_, .threw T.heap.size, hrun, hend, Or.inr ⟨T.heap.size, rfl, cls, ce, locs, hx U hWs.alike f1 (fun q hq => f2 q hq (fun z hz => nomatch hz)), hce, hO.vm, hcl, hWs, hall, hf⟩⟩
  refine st1 _ ?_
  show Steps p.tables e below (T1.setTop { method := m, pc := pc + 3, locals := ls, stack := .ref T.heap.size :: rest, locked := none }) _
  jvm_step X₁.here [X₁.here.top, hexec, d3', Value.category]
  exact X₁.ldcStringW hexec (own := own) (text := text) (index := is) (a := sa) hown' hstr'.1 hstr'.2
    (g := { method := m, pc := pc + 4, locals := ls, stack := .ref T.heap.size :: .ref T.heap.size :: rest, locked := none }) rfl d4' _ hsteps
end Ends
section Bodies
variable {l : Launch}
theorem vx_ofW {y : MethodName} {ws ws' : List Cond} {rm : Room} {Pc : Array Value → State → Prop} {Qc : Array Value → State → Outcome → State → Prop} {XC : String → State → State → Prop} {mc ms : Nat} {free : Addr → Prop} {cc : ByteArray} {maxL : Nat} {ret : Option FieldType}
    (hy : plainName y.cls = true) (hw : ws = Cond.code y cc maxL ret :: ws')
    (body : ∀ p e s m args below meth c s₁, BodyLoose p l y (headSpec ws rm) cc maxL ret e s m args below meth c s₁ → c.maxLocals = maxL → (∀ x ∈ c.exceptionTable.toList, False) → Pc args s →
      W p l e (headSpec ws rm).room s m args below meth c s.heap [] 0 0 (vx_MQ below Qc XC args s mc ms free) (entryFrame m args maxL)) : vx_Met l y ws rm Pc Qc XC mc ms free := by
  refine MetFree.of_bodyS (code := cc) (maxLocals := maxL) (ret := ret) hy ?_ ?_
  · intro args s m h hn
    obtain ⟨meth, c, h1, h2, h3, h4, h5, h6, -, -⟩ := Cond.code_spec hn (atoms_spec (ws := ws) h _ (by rw [hw]; exact List.mem_cons_self))
    exact ⟨meth, c, h1, h2, h3, h4, h5, h6⟩
  · intro p e s m args below meth c s₁ B hml hP _
    have hh0 : s₁.heap = s.heap := by rw [B.state]; rfl
    have ht : ∀ x ∈ c.exceptionTable.toList, False := by
      obtain ⟨meth9, c9, h1, h2, -, -, -, -, h7, -⟩ := Cond.code_spec B.named (atoms_spec (ws := ws) B.pre _ (by rw [hw]; exact List.mem_cons_self))
      cases Option.some.inj (h1.symm.trans B.method)
      cases Option.some.inj (h2.symm.trans (Stand.of_body B).code)
      intro x hx
      rw [Array.isEmpty_iff.mp h7] at hx
      cases hx
    obtain ⟨t, a1, o, b1, b2, b3⟩ := body p e s m args below meth c s₁ B hml ht hP s₁ hh0 (Stand.of_body B)
    exact ⟨t, o, a1, b1, b2, b3⟩
/-- the table of a body with handlers -/
theorem vx_table {p : Program} {x y : MethodName} {S : Spec} {cc bytes : ByteArray} {maxL maxL' : Nat} {ret ret' : Option FieldType} {e : Env} {s s₁ : State} {m : MethodId} {args : Array Value} {below : List Frame} {meth : Method} {c : Code} {hh : List (Nat × Nat × Nat × Nat)}
    (B : BodyLoose p l y S cc maxL ret e s m args below meth c s₁) (h : (Cond.codeWith y bytes maxL' ret' hh).before args s = true) : c.exceptionTable.toList = tableOf hh := by
  obtain ⟨m9, meth9, c9, hn9, h1, h2, -, -, h6, -⟩ := Cond.codeWith_spec h
  cases Option.some.inj (hn9.symm.trans B.named)
  cases Option.some.inj (h1.symm.trans B.method)
  cases Option.some.inj (h2.symm.trans (Stand.of_body B).code)
  rw [← h6, table_eq]
end Bodies
end VXA
/-! ===== END ===== -/
/-! ===== BEGIN a static call of a method with an exception table ===== -/
section VXS
variable {p : Program} {l : Launch} {e : Env} {R : Room} {s : State} {m : MethodId} {args : Array Value} {below : List Frame} {meth : Method} {c : Code} {T : State} {H : Heap} {locs : List Loc} {cells slots : Nat}
abbrev vx_CSW (R : Room) (s : State) (args : Array Value) (own : String) (index : Nat) (y : MethodName) (bytes : ByteArray) (maxL : Nat) (ret : Option FieldType) (hh : List (Nat × Nat × Nat × Nat)) (ws : List Cond) (rm : Room) (mc ms n : Nat) : Prop :=
  (rm.cells = mc ∧ rm.slots = ms ∧ rm.frames + 1 ≤ R.frames ∧ 8 + (maxL + 11) + rm.locals ≤ R.locals ∧ (∀ w ∈ ws, ∀ (a' : Array Value) (U : State), s.WarmedH U.vm → w.before a' U = true) ∧ Cond.codeWith y bytes maxL ret hh ∈ ws) ∧
  (Cond.codeWith y bytes maxL ret hh).before args s = true ∧ (Cond.initialized y.cls).before args s = true ∧ (y.cls ≠ "java/lang/invoke/MethodHandle" ∧ y.cls ≠ "java/lang/invoke/VarHandle") ∧
  (∀ sig, parseMethodDescriptor y.desc = some sig → n = sig.parameters.length) ∧ (Cond.methodLink own index y).before args s = true ∧ (Cond.static y).before args s = true
theorem vx_cwSW {own : String} {index maxL mc ms : Nat} {y : MethodName} {bytes : ByteArray} {ret : Option FieldType} {hh : List (Nat × Nat × Nat × Nat)} {Ts ws ws' : List Cond} {rm : Room} (n : Nat) (ht : ∀ w ∈ Ts, w.before args s = true) (hT : GoodIn Ts (va_wsS own index y ws)) (hw : ws = Cond.codeWith y bytes maxL ret hh :: ws') (hrc : rm.cells = mc) (hrs : rm.slots = ms)
    (hd : y.cls ≠ "java/lang/invoke/MethodHandle" ∧ y.cls ≠ "java/lang/invoke/VarHandle" ∧ (parseMethodDescriptor y.desc).map (fun d => d.parameters.length) = some n) (hR : rm.frames + 1 ≤ R.frames ∧ 8 + (maxL + 11) + rm.locals ≤ R.locals) :
    vx_CSW R s args own index y bytes maxL ret hh ws rm mc ms n := by
  have ok : ∀ w ∈ va_wsS own index y ws, w.before args s = true := fun w h => ht w (hT w h).1
  have hG : GoodIn Ts ws := fun w h => hT w (by unfold va_wsS; exact List.mem_append_right _ h)
  have hc : Cond.codeWith y bytes maxL ret hh ∈ ws := by rw [hw]; exact List.mem_cons_self
  refine ⟨⟨hrc, hrs, hR.1, hR.2, pay_in ht hG, hc⟩, ht _ (hG _ hc).1, ok _ (by simp [va_wsS]), ⟨hd.1, hd.2.1⟩, fun sig h => ?_, ok _ (by simp [va_wsS]), ok _ (by simp [va_wsS])⟩
  have h2 := hd.2.2
  rw [h] at h2
  exact (Option.some.inj h2).symm
theorem vx_callSW (X : Stand p l e R s m args below meth c T locs cells slots) (hexec : p.tables.exec = Jvm.exec) {own : String} {index : Nat} {y : MethodName} {bytes : ByteArray} {maxL : Nat} {ret : Option FieldType} {hh : List (Nat × Nat × Nat × Nat)}
    (hown : s.vm.findClass own = some m.cls) (hlink : (Cond.methodLink own index y).before args s = true) (hstat : (Cond.static y).before args s = true) (hinit : (Cond.initialized y.cls).before args s = true)
    (hcode : (Cond.codeWith y bytes maxL ret hh).before args s = true) (hy : y.cls ≠ "java/lang/invoke/MethodHandle" ∧ y.cls ≠ "java/lang/invoke/VarHandle")
    {W9 : Nat} {Pre : Pt → Array Value → Prop} {Post : Pt → Array Value → Option Value → Pt → Prop} (hK : Back l R p e below s args y 3 W9 Pre Post)
    {g : JFrame} (hg : g.method = m) (hsize : g.locals.size = c.maxLocals) {argsL rest : List Value} (hlen : ∀ sig, parseMethodDescriptor y.desc = some sig → argsL.length = sig.parameters.length)
    (hstack : g.stack = argsL.reverse ++ rest) (hW : 2 * g.monitorRoom + (rest.map fun v => v.category).sum ≤ W9) (hdg : decode c.code g.pc = .ok (.invokestatic index, 3))
    (hpre : ∀ vm₁, s.WarmedH vm₁ → Pre ⟨T.setVm vm₁, locs, cells, slots⟩ argsL.toArray) :
    ∃ (v : Option Value) (vm₁ : Vm) (B : Pt), s.WarmedH vm₁ ∧ Stand p l e R s m args below meth c B.U B.locs B.cells B.slots ∧ Post ⟨T.setVm vm₁, locs, cells, slots⟩ argsL.toArray v B ∧
      ∀ target, Steps p.tables e below (B.U.setTop { g with pc := g.pc + 3, stack := v.toList ++ rest }) target → Steps p.tables e below (T.setTop g) target := by
  obtain ⟨mk, methM, cM, hnamed, hmethM, -, -, -, -, -, -, hsigM⟩ := Cond.codeWith_spec hcode
  have hstatic : methM.isStatic = true := Cond.static_spec hnamed hmethM hstat
  obtain ⟨kP, hkP, -⟩ := className_of_methodNamed hnamed
  have hinitP : kP.init = .initialized := Cond.initialized_spec (findClass_of_methodNamed hnamed) hkP hinit
  obtain ⟨vm₁, X₁, hstep₁⟩ := X.invokestatic hexec hown hlink hnamed hmethM hstatic hkP hinitP hy (g := g) hg (argsL := argsL) (rest := rest) (hlen _ hsigM) hstack hdg
  obtain ⟨v, B, X', hpost, hsteps⟩ := hK m meth c ⟨T.setVm vm₁, locs, cells, slots⟩ { g with stack := rest } (.invokestatic index) mk argsL.toArray X₁ hg hsize hdg hW (X₁.named hnamed) (hpre vm₁ X₁.warmed)
  exact ⟨v, vm₁, B, X₁.warmed, X', hpost, fun target h => hstep₁ _ fun acts => by rw [doInvoke_state]; exact hsteps.trans h⟩
theorem vx_runSW {y : MethodName} {bytes cc : ByteArray} {maxL nL mc ms n index : Nat} {ret : Option FieldType} {hh : List (Nat × Nat × Nat × Nat)} {ws : List Cond} {rm : Room} {Pc : Array Value → State → Prop} {Qc : Array Value → State → Outcome → State → Prop} {free : Addr → Prop} {Ts : List Cond} {own : String} {As rest : List Value} {g : JFrame}
    (S : CallFix p m c cc nL s args Ts own) (hM : Met l y ws rm Pc Qc mc ms free) (cw : vx_CSW R s args own index y bytes maxL ret hh ws rm mc ms n) (hp : PreS s H Pc As)
    (hg : g.method = m) (hn : As.length = n) (hsize : g.locals.size = nL) (hstack : g.stack = As.reverse ++ rest) (hW : 2 * g.monitorRoom + (rest.map fun v => v.category).sum ≤ 8) (hdg : decode cc g.pc = .ok (.invokestatic index, 3)) (hf : cells + mc ≤ R.cells ∧ slots + ms ≤ R.slots) :
    va_Run p l e R s m args below meth c H locs cells slots mc ms g rest (Qc As.toArray) (free) := by
  obtain ⟨⟨hrc, hrs, hfr, hlo, hws, hcw⟩, hcode, hini, hy, hlen, hl, hstt⟩ := cw
  have hK : Back l R p e below s args y 3 8 (PreOf R mc ms Pc) (PostOf Qc mc ms free) := va_backW (hh := hh) (bytes := bytes) (maxL := maxL) (ret := ret) hM hp.1 hrc hrs hfr hlo hws hcw (fun a' U hW => word_at hW (Or.inl (by first | rfl | simp [Cond.onTables, Cond.keeps, Cond.steady])) hini)
  obtain ⟨hx, hb, hml, ho, -⟩ := S
  intro T hT X
  obtain ⟨v, vm₁, ⟨U', l2, c2, s2⟩, hW₁, X', ⟨g', mk, t, L, e1, e2, hq, h1, hL, h2, h3⟩, st⟩ := vx_callSW X hx (hh := hh) (bytes := bytes) (maxL := maxL) (ret := ret) ho hl hstt hini hcode hy hK hg (hsize.trans hml.symm) (argsL := As) (rest := rest) (fun sig h => hn.trans (hlen sig h)) hstack hW (by rw [hb]; exact hdg)
    (fun vm₁ hW₁ => ⟨hf.1, hf.2, hp.2 (T.setVm vm₁) hT hW₁⟩)
  dsimp only [Pt.U, Pt.locs, Pt.cells, Pt.slots] at X' e1 e2 h1 h2 h3 st
  subst h1; subst h2; subst h3
  exact ⟨v, (T.setVm vm₁).calling g' mk As.toArray, t, U', L, hT, X', hL, e1, e2, hq, st⟩
/-- not caught here, past rows that name other classes: it goes on to the caller -/
theorem vx_outP {p : Program} {l : Launch} {e : Env} {R : Room} {s : State} {m : MethodId} {args : Array Value} {below : List Frame} {meth : Method} {c : Code} {H : Heap} {locs : List Loc} {cells slots : Nat} {free : Addr → Prop} {ls : Array Slot} {rest : List Value} {Qc : Array Value → State → Outcome → State → Prop} {XC : String → State → State → Prop}
    {pc : Nat} {own E : String} {ce : Cell} {q : Addr} {mc ms : Nat} (hown : s.vm.findClass own = some m.cls) (hlocks : meth.locks = false)
    (hpass : ∀ z ∈ c.exceptionTable.toList, covers z pc = false ∨ (z.catchType ≠ 0 ∧ ∃ nm : String, (Cond.classLink own z.catchType nm).before args s = true ∧ va_Nc E nm s)) (hcell : H[q]? = some ce) (hv : ce.vm = .none) (hcl : s.vm.findClass E = some ce.cls)
    (hx : ∀ t : State, t.heap = H → s.vm.Alike t.vm → XC E s t) (hf : ∀ z ∈ locs, free z.base) (hc : cells ≤ mc) (hs : slots ≤ ms) :
    vx_W p l e R s m args below meth c H locs cells slots (vx_MQ below Qc XC args s mc ms free) (F0 m pc ls rest) q := by
  intro T hT X
  have hpl : e.platform.magicAccessors = ({} : Platform).magicAccessors := by rw [X.admits.platform]
  obtain ⟨vm', hW', X', st⟩ := X.outThrough hlocks q (g := F0 m pc ls rest) rfl rfl rfl (cell := ce) (by rw [hT]; exact hcell) (by rw [hv]; rfl)
    (by obtain ⟨k9, h9, -⟩ := Vm.findClass_spec hcl; exact ⟨k9, h9⟩) (fun z hz => by
      rcases hpass z hz with h | ⟨hz0, nm, hl1, hn1⟩
      · exact Or.inl h
      · obtain ⟨c6, hc6, hcl6⟩ := Cond.classLink_spec hown hl1 e.platform hpl
        obtain ⟨a8, b8, h1, h2, h3⟩ := hn1
        cases Option.some.inj (h1.symm.trans hcl)
        cases Option.some.inj (h2.symm.trans hc6)
        exact Or.inr ⟨hz0, _, hcl6, h3⟩)
  obtain ⟨g₀, hfr⟩ := X'.frames_eq
  have hcell9 : ((T.setVm vm').setFrames (.throwing q :: below)).heap[q]? = some ce := by
    show T.heap[q]? = some ce
    rw [hT]; exact hcell
  have hend : Ended ((T.setVm vm').setFrames (.throwing q :: below)) below (.threw q) := State.frames_setFrames _ (State.cur_lt_of_frames hfr)
  refine ⟨(T.setVm vm').setFrames (.throwing q :: below), ?_, .threw q, X'.here.running, hend, Or.inr ⟨q, rfl, E, ce, locs, hx _ hT (X'.ends _).1.alike, hcell9, hv, hcl, (X'.ends _).1, (X'.ends _).2.mono hc hs, hf⟩⟩
  rw [X.pushThrowing_eq]
  exact st
/-- a thing of a world lies in the heap -/
theorem vx_lt {D : va_G} {cl : List vw_C} {ws : va_W} {H1 : Heap} (h : va_P D cl ws H1) {k : Nat} {q : Nat × va_E} (hk : ws[k]? = some q) : q.1 < H1.size := (h k q hk).lt
end VXS
/-! ===== END ===== -/
/-! ===== BEGIN methods with a table of their own: called by a name, returning or throwing ===== -/
section VXH
/-! vx_backW, vx_callVX, vx_callSX, vx_callVW, vx_runVW, vx_runVX, vx_runSX, vx_ofWH follow the same proofs as their sisters above (Free/Laws.lean, Shelf42/LK1.lean); vx_outP calls Shelf42/NT130.lean (outThrough). -/
section
variable {l : Launch} {R : Room} {p : Program} {e : Env} {below : List Frame} {s : State} {sargs : Array Value} {y : MethodName} {len W9 : Nat}
theorem vx_backW {ws : List Cond} {rm : Room} {Pc : Array Value → State → Prop} {Qc : Array Value → State → Outcome → State → Prop} {XC : String → State → State → Prop} {mc ms : Nat} {free : Addr → Prop} {bytes : ByteArray} {maxL : Nat} {ret : Option FieldType} {hh : List (Nat × Nat × Nat × Nat)}
    (hM : vx_Met l y ws rm Pc Qc XC mc ms free) (hblind : FrameBlind Pc) (hrc : rm.cells = mc) (hrs : rm.slots = ms)
    (hframes : rm.frames + 1 ≤ R.frames) (hlocals : W9 + (maxL + 11) + rm.locals ≤ R.locals)
    (hws : ∀ w ∈ ws, ∀ a' U, s.WarmedH U.vm → w.before a' U = true) (hcode : Cond.codeWith y bytes maxL ret hh ∈ ws) (hinit : ∀ a' U, s.WarmedH U.vm → (Cond.initialized y.cls).before a' U = true) :
    vx_Back l R p e below s sargs y len W9 (PreOf R mc ms Pc) (PostOf Qc mc ms free) (vx_Post XC mc ms free) := by
  intro m meth c A g ig mk a X hg hsize hdg hW hn hp
  have h1 : (headSpec ws rm).pre.before a A.U = true := atoms_intro fun w hw => hws w hw _ _ X.warmed
  have h2 : (Cond.codeWith y bytes maxL ret hh).before a A.U = true := hws _ hcode _ _ X.warmed
  have h3 : (Cond.initialized y.cls).before a A.U = true := hinit _ _ X.warmed
  have h4 : A.cells + (headSpec ws rm).room.cells ≤ R.cells := by rw [show (headSpec ws rm).room.cells = mc from hrc]; exact hp.1
  have h5 : A.slots + (headSpec ws rm).room.slots ≤ R.slots := by rw [show (headSpec ws rm).room.slots = ms from hrs]; exact hp.2.1
  have hPc : Pc a (A.U.calling g mk a) := hblind _ _ _ _ hp.2.2
  obtain ⟨U, Ls, c0, s0⟩ := A
  dsimp only [Pt.U, Pt.locs, Pt.cells, Pt.slots] at h1 h2 h3 h4 h5 X hn hPc ⊢
  obtain ⟨m9, methY, cY, hn9, hmY, hcY, -, hlY, -⟩ := Cond.codeWith_spec h2
  cases Option.some.inj (hn9.symm.trans hn)
  obtain ⟨kY, hkY, -⟩ := className_of_methodNamed hn
  have hinitY : kY.init = .initialized := Cond.initialized_spec (findClass_of_methodNamed hn) hkY h3
  have h : At U g.method c below := by rw [hg]; exact X.here
  have hlocals9 : W9 + (maxL + 11) + (headSpec ws rm).room.locals ≤ R.locals := hlocals
  have happ : (headSpec ws rm).appliesLoose y e.platform (U.calling g mk a) = true :=
    Spec.appliesLoose_calling (g := g) h hdg hn hkY hinitY
      (X.room_calling (g := g) (R' := (headSpec ws rm).room) hsize hmY hcY hframes (by rw [hlY]; omega) h4 h5) h1
  obtain ⟨mid, hmid⟩ := h.above
  have hfr : (U.setTop g).frames = (.java g :: mid) ++ below := by rw [State.frames_setTop' g h.top, hmid]; rfl
  obtain ⟨o, s₂, hsteps, -, hend, hq⟩ := Steps.callFree hM p X.admits X.cas X.clock (acts := []) hfr happ hPc trivial
  have hq' : vx_Q Qc XC mc ms free a (U.calling g mk a) o s₂ := hq
  rw [State.frames_setTop' g h.top] at hend
  obtain ⟨g₀, hg0⟩ := Option.isSome_iff_exists.mp h.top
  obtain ⟨r, hr⟩ := State.topJava?_eq_some.mp hg0
  have hr' : (({ U with heap := s₂.heap, slotsUsed := s₂.slotsUsed } : State).setVm s₂.vm).frames = .java g₀ :: r := hr
  rcases hq' with ⟨hqc, L, hfe, hL⟩ | ⟨q, rfl, E, ce, L, hx, hce, hcv, hcl, hW₂, hsm, hL⟩
  · obtain ⟨⟨v, rfl⟩, hW₂, e2, q2, q3, q4, q5, q6⟩ := id hfe
    have e3 : s₂ = ({ (U.calling g mk a).setFrames s₂.frames with heap := s₂.heap, slotsUsed := s₂.slotsUsed } : State).setVm s₂.vm := by
      have : s₂ = ({ s₂ with vm := (U.calling g mk a).vm } : State).setVm s₂.vm := rfl
      rw [e2] at this
      exact this
    obtain ⟨c₂, i₂, len₂, hc₂, hd₂, hf₂⟩ := hend
    have hW' : U.WarmedH s₂.vm := hW₂
    have hcc : c₂ = c := by
      have h1 : s₂.code? g.method = U.code? g.method := by
        rw [State.code?_eq, State.code?_eq, hW'.alike.method?]
      exact Option.some.inj (hc₂.symm.trans (h1.trans h.code))
    subst hcc
    have hlen : len₂ = len := by rw [hdg] at hd₂; cases hd₂; rfl
    subst hlen
    have hs₂ : s₂ = (({ U with heap := s₂.heap, slotsUsed := s₂.slotsUsed } : State).setVm s₂.vm).setTop { g with pc := g.pc + len₂, stack := v.toList ++ g.stack } := by
      refine e3.trans ?_
      rw [hf₂, State.calling_eq h.top, State.setFrames_setFrames, State.setTop_of_frames _ hr', hr]
      rfl
    have hsame : U.sameButNew ({ U with heap := s₂.heap, slotsUsed := s₂.slotsUsed } : State) L mc ms := by
      refine ⟨?_, q2, q3, q4, q5, q6⟩
      obtain ⟨t, ht, -⟩ := State.frames_cons hr
      show ({ U with heap := s₂.heap, slotsUsed := s₂.slotsUsed } : State) = { U.setFrames U.frames with heap := s₂.heap, slotsUsed := s₂.slotsUsed }
      rw [State.setFrames_self ht]
    subst hg
    refine Or.inl ⟨v, ⟨(({ U with heap := s₂.heap, slotsUsed := s₂.slotsUsed } : State).setVm s₂.vm), Ls ++ L, c0 + mc, s0 + ms⟩,
      ⟨X.admits, X.cas, X.clock, X.frames, X.room, X.hears, X.method, X.code, (X.here.setHeapUsed s₂.heap s₂.slotsUsed).setVm hW'.alike, X.tail, State.WarmedH.trans X.warmed hW', X.limits, X.bytes, X.same.trans (hsame.setVm s.vm)⟩,
      ⟨g, mk, s₂, L, rfl, rfl, hqc, rfl, hL, rfl, rfl⟩, ?_⟩
    show Steps p.tables e below _ ((({ U with heap := s₂.heap, slotsUsed := s₂.slotsUsed } : State).setVm s₂.vm).setTop { g with pc := g.pc + len₂, stack := v.toList ++ g.stack })
    rw [← hs₂]
    exact hsteps
  · obtain ⟨e2, q2, q3, q4, q5, q6⟩ := id hsm
    have e3 : s₂ = ({ (U.calling g mk a).setFrames s₂.frames with heap := s₂.heap, slotsUsed := s₂.slotsUsed } : State).setVm s₂.vm := by
      have : s₂ = ({ s₂ with vm := (U.calling g mk a).vm } : State).setVm s₂.vm := rfl
      rw [e2] at this
      exact this
    have hf₂ : s₂.frames = .throwing q :: .java g :: U.frames.tail := hend
    have hW' : U.WarmedH s₂.vm := hW₂
    have hs₂ : s₂ = ((({ U with heap := s₂.heap, slotsUsed := s₂.slotsUsed } : State).setVm s₂.vm).setTop g).pushFrame (.throwing q) := by
      refine e3.trans ?_
      rw [hf₂, State.calling_eq h.top, State.setFrames_setFrames, State.pushFrame, State.frames_setTop _ hr', State.setTop_of_frames _ hr', State.setFrames_setFrames, hr]
      rfl
    have hsame : U.sameButNew ({ U with heap := s₂.heap, slotsUsed := s₂.slotsUsed } : State) L mc ms := by
      refine ⟨?_, q2, q3, q4, q5, q6⟩
      obtain ⟨t, ht, -⟩ := State.frames_cons hr
      show ({ U with heap := s₂.heap, slotsUsed := s₂.slotsUsed } : State) = { U.setFrames U.frames with heap := s₂.heap, slotsUsed := s₂.slotsUsed }
      rw [State.setFrames_self ht]
    subst hg
    refine Or.inr ⟨q, ⟨(({ U with heap := s₂.heap, slotsUsed := s₂.slotsUsed } : State).setVm s₂.vm), Ls ++ L, c0 + mc, s0 + ms⟩,
      ⟨X.admits, X.cas, X.clock, X.frames, X.room, X.hears, X.method, X.code, (X.here.setHeapUsed s₂.heap s₂.slotsUsed).setVm hW'.alike, X.tail, State.WarmedH.trans X.warmed hW', X.limits, X.bytes, X.same.trans (hsame.setVm s.vm)⟩,
      ⟨g, mk, s₂, L, E, ce, rfl, rfl, hx, hce, hcv, hcl, rfl, hL, rfl, rfl⟩, ?_⟩
    show Steps p.tables e below _ (((({ U with heap := s₂.heap, slotsUsed := s₂.slotsUsed } : State).setVm s₂.vm).setTop g).pushFrame (.throwing q))
    rw [← hs₂]
    exact hsteps
end
variable {p : Program} {l : Launch} {e : Env} {R : Room} {s : State} {m : MethodId} {args : Array Value} {below : List Frame} {meth : Method} {c : Code} {T : State} {H : Heap} {locs : List Loc} {cells slots : Nat}
theorem vx_callVX (X : Stand p l e R s m args below meth c T locs cells slots) (hexec : p.tables.exec = Jvm.exec) {own C : String} {index : Nat} {y : MethodName} {bytes : ByteArray} {maxL : Nat} {ret : Option FieldType} {hh : List (Nat × Nat × Nat × Nat)}
    (hown : s.vm.findClass own = some m.cls) (hlink : (Cond.methodLink own index y).before args s = true) (hinst : (Cond.instanceMethod y).before args s = true) (hsel : (Cond.selects C y y).before args s = true)
    (hcode : (Cond.codeWith y bytes maxL ret hh).before args s = true) (hy : y.cls ≠ "java/lang/invoke/MethodHandle" ∧ y.cls ≠ "java/lang/invoke/VarHandle")
    {W9 : Nat} {Pre : Pt → Array Value → Prop} {Post : Pt → Array Value → Option Value → Pt → Prop} {PostX : Pt → Array Value → Addr → Pt → Prop} (hK : vx_Back l R p e below s args y 3 W9 Pre Post PostX)
    {b : Addr} {cellB : Cell} (hcell : T.heap[b]? = some cellB) (hobj : cellB.vm.isStatics = false) (hcls : s.vm.findClass C = some cellB.cls)
    {g : JFrame} (hg : g.method = m) (hsize : g.locals.size = c.maxLocals) {argsL rest : List Value} (hlen : ∀ sig, parseMethodDescriptor y.desc = some sig → argsL.length = sig.parameters.length)
    (hstack : g.stack = argsL.reverse ++ .ref b :: rest) (hW : 2 * g.monitorRoom + (rest.map fun v => v.category).sum ≤ W9) (hdg : decode c.code g.pc = .ok (.invokevirtual index, 3))
    (hpre : ∀ vm₁, s.WarmedH vm₁ → Pre ⟨T.setVm vm₁, locs, cells, slots⟩ (Value.ref b :: argsL).toArray) :
    (∃ (v : Option Value) (vm₁ : Vm) (B : Pt), s.WarmedH vm₁ ∧ Stand p l e R s m args below meth c B.U B.locs B.cells B.slots ∧ Post ⟨T.setVm vm₁, locs, cells, slots⟩ (Value.ref b :: argsL).toArray v B ∧
      ∀ target, Steps p.tables e below (B.U.setTop { g with pc := g.pc + 3, stack := v.toList ++ rest }) target → Steps p.tables e below (T.setTop g) target) ∨
    (∃ (q : Addr) (vm₁ : Vm) (B : Pt), s.WarmedH vm₁ ∧ Stand p l e R s m args below meth c B.U B.locs B.cells B.slots ∧ PostX ⟨T.setVm vm₁, locs, cells, slots⟩ (Value.ref b :: argsL).toArray q B ∧
      Steps p.tables e below (T.setTop g) ((B.U.setTop { g with stack := rest }).pushFrame (.throwing q))) := by
  obtain ⟨mk, methM, hnamed, hmethM, hstM, habM⟩ := Cond.instanceMethod_spec hinst
  obtain ⟨m8, methM', cM, hn8, hmethM', -, -, -, -, -, -, hsigM⟩ := Cond.codeWith_spec hcode
  cases Option.some.inj (hn8.symm.trans hnamed)
  cases hmethM.symm.trans hmethM'
  obtain ⟨c2, r2, m2, q1, q2, q3, q4, kP, hkP, hkPi⟩ := Cond.selects_spec hsel
  cases hcls.symm.trans q1
  cases (State.methodFound?_of_named hnamed hy).symm.trans q2
  cases hnamed.symm.trans q3
  have hselP : selectMethod e.platform s.vm cellB.cls mk = .method mk := by rw [Launch.admits_selectMethod X.admits]; exact q4
  obtain ⟨vm₁, X₁, hstep₁⟩ := X.invokevirtual hexec hown hlink hnamed hmethM hstM hkP hkPi hy (a := b) (cell := cellB) hcell
    (fun z h => by rw [h] at hobj; cases hobj) hselP hmethM habM hkP hkPi (g := g) hg (argsL := argsL) (rest := rest) (hlen _ hsigM) hstack hdg
  rcases hK m meth c ⟨T.setVm vm₁, locs, cells, slots⟩ { g with stack := rest } (.invokevirtual index) mk (Value.ref b :: argsL).toArray X₁ hg hsize hdg hW (X₁.named hnamed) (hpre vm₁ X₁.warmed) with ⟨v, B, X', hpost, hsteps⟩ | ⟨q, B, X', hpost, hsteps⟩
  · exact Or.inl ⟨v, vm₁, B, X₁.warmed, X', hpost, fun target h => hstep₁ _ fun acts => by rw [doInvoke_state]; exact hsteps.trans h⟩
  · exact Or.inr ⟨q, vm₁, B, X₁.warmed, X', hpost, hstep₁ _ fun acts => by rw [doInvoke_state]; exact hsteps⟩
theorem vx_callSX (X : Stand p l e R s m args below meth c T locs cells slots) (hexec : p.tables.exec = Jvm.exec) {own : String} {index : Nat} {y : MethodName} {bytes : ByteArray} {maxL : Nat} {ret : Option FieldType} {hh : List (Nat × Nat × Nat × Nat)}
    (hown : s.vm.findClass own = some m.cls) (hlink : (Cond.methodLink own index y).before args s = true) (hstat : (Cond.static y).before args s = true) (hinit : (Cond.initialized y.cls).before args s = true)
    (hcode : (Cond.codeWith y bytes maxL ret hh).before args s = true) (hy : y.cls ≠ "java/lang/invoke/MethodHandle" ∧ y.cls ≠ "java/lang/invoke/VarHandle")
    {W9 : Nat} {Pre : Pt → Array Value → Prop} {Post : Pt → Array Value → Option Value → Pt → Prop} {PostX : Pt → Array Value → Addr → Pt → Prop} (hK : vx_Back l R p e below s args y 3 W9 Pre Post PostX)
    {g : JFrame} (hg : g.method = m) (hsize : g.locals.size = c.maxLocals) {argsL rest : List Value} (hlen : ∀ sig, parseMethodDescriptor y.desc = some sig → argsL.length = sig.parameters.length)
    (hstack : g.stack = argsL.reverse ++ rest) (hW : 2 * g.monitorRoom + (rest.map fun v => v.category).sum ≤ W9) (hdg : decode c.code g.pc = .ok (.invokestatic index, 3))
    (hpre : ∀ vm₁, s.WarmedH vm₁ → Pre ⟨T.setVm vm₁, locs, cells, slots⟩ argsL.toArray) :
    (∃ (v : Option Value) (vm₁ : Vm) (B : Pt), s.WarmedH vm₁ ∧ Stand p l e R s m args below meth c B.U B.locs B.cells B.slots ∧ Post ⟨T.setVm vm₁, locs, cells, slots⟩ argsL.toArray v B ∧
      ∀ target, Steps p.tables e below (B.U.setTop { g with pc := g.pc + 3, stack := v.toList ++ rest }) target → Steps p.tables e below (T.setTop g) target) ∨
    (∃ (q : Addr) (vm₁ : Vm) (B : Pt), s.WarmedH vm₁ ∧ Stand p l e R s m args below meth c B.U B.locs B.cells B.slots ∧ PostX ⟨T.setVm vm₁, locs, cells, slots⟩ argsL.toArray q B ∧
      Steps p.tables e below (T.setTop g) ((B.U.setTop { g with stack := rest }).pushFrame (.throwing q))) := by
  obtain ⟨mk, methM, cM, hnamed, hmethM, -, -, -, -, -, -, hsigM⟩ := Cond.codeWith_spec hcode
  have hstatic : methM.isStatic = true := Cond.static_spec hnamed hmethM hstat
  obtain ⟨kP, hkP, -⟩ := className_of_methodNamed hnamed
  have hinitP : kP.init = .initialized := Cond.initialized_spec (findClass_of_methodNamed hnamed) hkP hinit
  obtain ⟨vm₁, X₁, hstep₁⟩ := X.invokestatic hexec hown hlink hnamed hmethM hstatic hkP hinitP hy (g := g) hg (argsL := argsL) (rest := rest) (hlen _ hsigM) hstack hdg
  rcases hK m meth c ⟨T.setVm vm₁, locs, cells, slots⟩ { g with stack := rest } (.invokestatic index) mk argsL.toArray X₁ hg hsize hdg hW (X₁.named hnamed) (hpre vm₁ X₁.warmed) with ⟨v, B, X', hpost, hsteps⟩ | ⟨q, B, X', hpost, hsteps⟩
  · exact Or.inl ⟨v, vm₁, B, X₁.warmed, X', hpost, fun target h => hstep₁ _ fun acts => by rw [doInvoke_state]; exact hsteps.trans h⟩
  · exact Or.inr ⟨q, vm₁, B, X₁.warmed, X', hpost, hstep₁ _ fun acts => by rw [doInvoke_state]; exact hsteps⟩
theorem vx_callVW (X : Stand p l e R s m args below meth c T locs cells slots) (hexec : p.tables.exec = Jvm.exec) {own C : String} {index : Nat} {y : MethodName} {bytes : ByteArray} {maxL : Nat} {ret : Option FieldType} {hh : List (Nat × Nat × Nat × Nat)}
    (hown : s.vm.findClass own = some m.cls) (hlink : (Cond.methodLink own index y).before args s = true) (hinst : (Cond.instanceMethod y).before args s = true) (hsel : (Cond.selects C y y).before args s = true)
    (hcode : (Cond.codeWith y bytes maxL ret hh).before args s = true) (hy : y.cls ≠ "java/lang/invoke/MethodHandle" ∧ y.cls ≠ "java/lang/invoke/VarHandle")
    {W9 : Nat} {Pre : Pt → Array Value → Prop} {Post : Pt → Array Value → Option Value → Pt → Prop} (hK : Back l R p e below s args y 3 W9 Pre Post)
    {b : Addr} {cellB : Cell} (hcell : T.heap[b]? = some cellB) (hobj : cellB.vm.isStatics = false) (hcls : s.vm.findClass C = some cellB.cls)
    {g : JFrame} (hg : g.method = m) (hsize : g.locals.size = c.maxLocals) {argsL rest : List Value} (hlen : ∀ sig, parseMethodDescriptor y.desc = some sig → argsL.length = sig.parameters.length)
    (hstack : g.stack = argsL.reverse ++ .ref b :: rest) (hW : 2 * g.monitorRoom + (rest.map fun v => v.category).sum ≤ W9) (hdg : decode c.code g.pc = .ok (.invokevirtual index, 3))
    (hpre : ∀ vm₁, s.WarmedH vm₁ → Pre ⟨T.setVm vm₁, locs, cells, slots⟩ (Value.ref b :: argsL).toArray) :
    ∃ (v : Option Value) (vm₁ : Vm) (B : Pt), s.WarmedH vm₁ ∧ Stand p l e R s m args below meth c B.U B.locs B.cells B.slots ∧ Post ⟨T.setVm vm₁, locs, cells, slots⟩ (Value.ref b :: argsL).toArray v B ∧
      ∀ target, Steps p.tables e below (B.U.setTop { g with pc := g.pc + 3, stack := v.toList ++ rest }) target → Steps p.tables e below (T.setTop g) target := by
  obtain ⟨mk, methM, hnamed, hmethM, hstM, habM⟩ := Cond.instanceMethod_spec hinst
  obtain ⟨m8, methM', cM, hn8, hmethM', -, -, -, -, -, -, hsigM⟩ := Cond.codeWith_spec hcode
  cases Option.some.inj (hn8.symm.trans hnamed)
  cases hmethM.symm.trans hmethM'
  obtain ⟨c2, r2, m2, q1, q2, q3, q4, kP, hkP, hkPi⟩ := Cond.selects_spec hsel
  cases hcls.symm.trans q1
  cases (State.methodFound?_of_named hnamed hy).symm.trans q2
  cases hnamed.symm.trans q3
  have hselP : selectMethod e.platform s.vm cellB.cls mk = .method mk := by rw [Launch.admits_selectMethod X.admits]; exact q4
  obtain ⟨vm₁, X₁, hstep₁⟩ := X.invokevirtual hexec hown hlink hnamed hmethM hstM hkP hkPi hy (a := b) (cell := cellB) hcell
    (fun z h => by rw [h] at hobj; cases hobj) hselP hmethM habM hkP hkPi (g := g) hg (argsL := argsL) (rest := rest) (hlen _ hsigM) hstack hdg
  obtain ⟨v, B, X', hpost, hsteps⟩ := hK m meth c ⟨T.setVm vm₁, locs, cells, slots⟩ { g with stack := rest } (.invokevirtual index) mk (Value.ref b :: argsL).toArray X₁ hg hsize hdg hW (X₁.named hnamed) (hpre vm₁ X₁.warmed)
  exact ⟨v, vm₁, B, X₁.warmed, X', hpost, fun target h => hstep₁ _ fun acts => by rw [doInvoke_state]; exact hsteps.trans h⟩
abbrev vx_CVW (R : Room) (s : State) (args : Array Value) (own C : String) (index : Nat) (y : MethodName) (bytes : ByteArray) (maxL : Nat) (ret : Option FieldType) (hh : List (Nat × Nat × Nat × Nat)) (ws : List Cond) (rm : Room) (mc ms n : Nat) : Prop :=
  (rm.cells = mc ∧ rm.slots = ms ∧ rm.frames + 1 ≤ R.frames ∧ 8 + (maxL + 11) + rm.locals ≤ R.locals ∧ (∀ w ∈ ws, ∀ (a' : Array Value) (U : State), s.WarmedH U.vm → w.before a' U = true) ∧ Cond.codeWith y bytes maxL ret hh ∈ ws) ∧
  (Cond.codeWith y bytes maxL ret hh).before args s = true ∧ (Cond.initialized y.cls).before args s = true ∧ (y.cls ≠ "java/lang/invoke/MethodHandle" ∧ y.cls ≠ "java/lang/invoke/VarHandle") ∧
  (∀ sig, parseMethodDescriptor y.desc = some sig → n = sig.parameters.length) ∧ (Cond.methodLink own index y).before args s = true ∧ (Cond.instanceMethod y).before args s = true ∧ (Cond.selects C y y).before args s = true
theorem vx_cwVW {own C : String} {index maxL mc ms : Nat} {y : MethodName} {bytes : ByteArray} {ret : Option FieldType} {hh : List (Nat × Nat × Nat × Nat)} {Ts ws ws' : List Cond} {rm : Room} (n : Nat) (ht : ∀ w ∈ Ts, w.before args s = true) (hT : GoodIn Ts (wsV own index C y ws)) (hw : ws = Cond.codeWith y bytes maxL ret hh :: ws') (hrc : rm.cells = mc) (hrs : rm.slots = ms)
    (hd : y.cls = C ∧ y.cls ≠ "java/lang/invoke/MethodHandle" ∧ y.cls ≠ "java/lang/invoke/VarHandle" ∧ (parseMethodDescriptor y.desc).map (fun d => d.parameters.length) = some n) (hR : rm.frames + 1 ≤ R.frames ∧ 8 + (maxL + 11) + rm.locals ≤ R.locals) :
    vx_CVW R s args own C index y bytes maxL ret hh ws rm mc ms n := by
  obtain ⟨hC, hd⟩ := hd
  subst hC
  have ok : ∀ w ∈ wsV own index y.cls y ws, w.before args s = true := fun w h => ht w (hT w h).1
  have hG : GoodIn Ts ws := fun w h => hT w (by unfold wsV; exact List.mem_append_right _ h)
  have hc : Cond.codeWith y bytes maxL ret hh ∈ ws := by rw [hw]; exact List.mem_cons_self
  refine ⟨⟨hrc, hrs, hR.1, hR.2, pay_in ht hG, hc⟩, ht _ (hG _ hc).1, ok _ (by simp [wsV]), ⟨hd.1, hd.2.1⟩, fun sig h => ?_, ok _ (by simp [wsV]), ok _ (by simp [wsV]), ok _ (by simp [wsV])⟩
  have h2 := hd.2.2
  rw [h] at h2
  exact (Option.some.inj h2).symm
theorem vx_runVW {y : MethodName} {bytes cc : ByteArray} {maxL nL mc ms n index : Nat} {ret : Option FieldType} {hh : List (Nat × Nat × Nat × Nat)} {ws : List Cond} {rm : Room} {Pc : Array Value → State → Prop} {Qc : Array Value → State → Outcome → State → Prop} {free : Addr → Prop} {Ts : List Cond} {own C : String} {b : Addr} {As rest : List Value} {g : JFrame}
    (S : CallFix p m c cc nL s args Ts own) (hM : Met l y ws rm Pc Qc mc ms free) (cw : vx_CVW R s args own C index y bytes maxL ret hh ws rm mc ms n) (hp : PreV s H C b Pc As)
    (hg : g.method = m) (hn : As.length = n) (hsize : g.locals.size = nL) (hstack : g.stack = As.reverse ++ .ref b :: rest) (hW : 2 * g.monitorRoom + (rest.map fun v => v.category).sum ≤ 8) (hdg : decode cc g.pc = .ok (.invokevirtual index, 3)) (hf : cells + mc ≤ R.cells ∧ slots + ms ≤ R.slots) :
    va_Run p l e R s m args below meth c H locs cells slots mc ms g rest (Qc (Value.ref b :: As).toArray) free := by
  obtain ⟨⟨hrc, hrs, hfr, hlo, hws, hcw⟩, hcode, hini, hy, hlen, hl, hin, hse⟩ := cw
  have hK : Back l R p e below s args y 3 8 (PreOf R mc ms Pc) (PostOf Qc mc ms free) := va_backW (hh := hh) (bytes := bytes) (maxL := maxL) (ret := ret) hM hp.1 hrc hrs hfr hlo hws hcw (fun a' U hW => word_at hW (Or.inl (by first | rfl | simp [Cond.onTables, Cond.keeps, Cond.steady])) hini)
  obtain ⟨hx, hb, hml, ho, -⟩ := S
  obtain ⟨-, ⟨cellB, hcB, hoB, hclB⟩, hPc⟩ := hp
  intro T hT X
  obtain ⟨v, vm₁, ⟨U', l2, c2, s2⟩, hW₁, X', ⟨g', mk, t, L, e1, e2, hq, h1, hL, h2, h3⟩, st⟩ := vx_callVW X hx (C := C) (hh := hh) (bytes := bytes) (maxL := maxL) (ret := ret) ho hl hin hse hcode hy hK (by rw [hT]; exact hcB) hoB hclB hg (hsize.trans hml.symm) (argsL := As) (rest := rest) (fun sig h => hn.trans (hlen sig h)) hstack hW (by rw [hb]; exact hdg)
    (fun vm₁ hW₁ => ⟨hf.1, hf.2, hPc (T.setVm vm₁) hT hW₁⟩)
  dsimp only [Pt.U, Pt.locs, Pt.cells, Pt.slots] at X' e1 e2 h1 h2 h3 st
  subst h1; subst h2; subst h3
  exact ⟨v, (T.setVm vm₁).calling g' mk (Value.ref b :: As).toArray, t, U', L, hT, X', hL, e1, e2, hq, st⟩
section
variable {y : MethodName} {bytes cc : ByteArray} {maxL nL mc ms n index : Nat} {ret : Option FieldType} {ws : List Cond} {rm : Room} {Pc : Array Value → State → Prop} {Qc : Array Value → State → Outcome → State → Prop} {XC : String → State → State → Prop} {free : Addr → Prop} {Ts : List Cond} {own C : String} {b : Addr} {As rest : List Value} {g : JFrame}
theorem vx_runVX {hh : List (Nat × Nat × Nat × Nat)} (S : CallFix p m c cc nL s args Ts own) (hM : vx_Met l y ws rm Pc Qc XC mc ms free) (cw : vx_CVW R s args own C index y bytes maxL ret hh ws rm mc ms n) (hp : PreV s H C b Pc As)
    (hg : g.method = m) (hn : As.length = n) (hsize : g.locals.size = nL) (hstack : g.stack = As.reverse ++ .ref b :: rest) (hW : 2 * g.monitorRoom + (rest.map fun v => v.category).sum ≤ 8) (hdg : decode cc g.pc = .ok (.invokevirtual index, 3)) (hf : cells + mc ≤ R.cells ∧ slots + ms ≤ R.slots) :
    vx_Run p l e R s m args below meth c H locs cells slots mc ms g rest (Qc (Value.ref b :: As).toArray) XC free := by
  obtain ⟨⟨hrc, hrs, hfr, hlo, hws, hcw⟩, hcode, hini, hy, hlen, hl, hin, hse⟩ := cw
  have hK : vx_Back l R p e below s args y 3 8 (PreOf R mc ms Pc) (PostOf Qc mc ms free) (vx_Post XC mc ms free) := vx_backW (hh := hh) (bytes := bytes) (maxL := maxL) (ret := ret) hM hp.1 hrc hrs hfr hlo hws hcw (fun a' U hW => word_at hW (Or.inl (by first | rfl | simp [Cond.onTables, Cond.keeps, Cond.steady])) hini)
  obtain ⟨hx, hb, hml, ho, -⟩ := S
  obtain ⟨-, ⟨cellB, hcB, hoB, hclB⟩, hPc⟩ := hp
  intro T hT X
  rcases vx_callVX X hx (C := C) (hh := hh) (bytes := bytes) (maxL := maxL) (ret := ret) ho hl hin hse hcode hy hK (by rw [hT]; exact hcB) hoB hclB hg (hsize.trans hml.symm) (argsL := As) (rest := rest) (fun sig h => hn.trans (hlen sig h)) hstack hW (by rw [hb]; exact hdg)
    (fun vm₁ hW₁ => ⟨hf.1, hf.2, hPc (T.setVm vm₁) hT hW₁⟩) with ⟨v, vm₁, ⟨U', l2, c2, s2⟩, hW₁, X', ⟨g', mk, t, L, e1, e2, hq, h1, hL, h2, h3⟩, st⟩ | ⟨q, vm₁, ⟨U', l2, c2, s2⟩, hW₁, X', ⟨g', mk, t, L, E, ce, e1, e2, hq, hce, hcv, hcl, h1, hL, h2, h3⟩, st⟩
  · dsimp only [Pt.U, Pt.locs, Pt.cells, Pt.slots] at X' e1 e2 h1 h2 h3 st
    subst h1; subst h2; subst h3
    exact Or.inl ⟨v, (T.setVm vm₁).calling g' mk (Value.ref b :: As).toArray, t, U', L, hT, X', hL, e1, e2, hq, st⟩
  · dsimp only [Pt.U, Pt.locs, Pt.cells, Pt.slots] at X' e1 e2 h1 h2 h3 st hcl
    subst h1; subst h2; subst h3
    exact Or.inr ⟨q, (T.setVm vm₁).calling g' mk (Value.ref b :: As).toArray, t, U', L, E, ce, hT, X', hL, e1, e2, hq, hce, hcv, vx_cls hW₁ hcl, st⟩
theorem vx_runSX {hh : List (Nat × Nat × Nat × Nat)} (S : CallFix p m c cc nL s args Ts own) (hM : vx_Met l y ws rm Pc Qc XC mc ms free) (cw : vx_CSW R s args own index y bytes maxL ret hh ws rm mc ms n) (hp : PreS s H Pc As)
    (hg : g.method = m) (hn : As.length = n) (hsize : g.locals.size = nL) (hstack : g.stack = As.reverse ++ rest) (hW : 2 * g.monitorRoom + (rest.map fun v => v.category).sum ≤ 8) (hdg : decode cc g.pc = .ok (.invokestatic index, 3)) (hf : cells + mc ≤ R.cells ∧ slots + ms ≤ R.slots) :
    vx_Run p l e R s m args below meth c H locs cells slots mc ms g rest (Qc As.toArray) XC free := by
  obtain ⟨⟨hrc, hrs, hfr, hlo, hws, hcw⟩, hcode, hini, hy, hlen, hl, hstt⟩ := cw
  have hK : vx_Back l R p e below s args y 3 8 (PreOf R mc ms Pc) (PostOf Qc mc ms free) (vx_Post XC mc ms free) := vx_backW (hh := hh) (bytes := bytes) (maxL := maxL) (ret := ret) hM hp.1 hrc hrs hfr hlo hws hcw (fun a' U hW => word_at hW (Or.inl (by first | rfl | simp [Cond.onTables, Cond.keeps, Cond.steady])) hini)
  obtain ⟨hx, hb, hml, ho, -⟩ := S
  intro T hT X
  rcases vx_callSX X hx (hh := hh) (bytes := bytes) (maxL := maxL) (ret := ret) ho hl hstt hini hcode hy hK hg (hsize.trans hml.symm) (argsL := As) (rest := rest) (fun sig h => hn.trans (hlen sig h)) hstack hW (by rw [hb]; exact hdg)
    (fun vm₁ hW₁ => ⟨hf.1, hf.2, hp.2 (T.setVm vm₁) hT hW₁⟩) with ⟨v, vm₁, ⟨U', l2, c2, s2⟩, hW₁, X', ⟨g', mk, t, L, e1, e2, hq, h1, hL, h2, h3⟩, st⟩ | ⟨q, vm₁, ⟨U', l2, c2, s2⟩, hW₁, X', ⟨g', mk, t, L, E, ce, e1, e2, hq, hce, hcv, hcl, h1, hL, h2, h3⟩, st⟩
  · dsimp only [Pt.U, Pt.locs, Pt.cells, Pt.slots] at X' e1 e2 h1 h2 h3 st
    subst h1; subst h2; subst h3
    exact Or.inl ⟨v, (T.setVm vm₁).calling g' mk As.toArray, t, U', L, hT, X', hL, e1, e2, hq, st⟩
  · dsimp only [Pt.U, Pt.locs, Pt.cells, Pt.slots] at X' e1 e2 h1 h2 h3 st hcl
    subst h1; subst h2; subst h3
    exact Or.inr ⟨q, (T.setVm vm₁).calling g' mk As.toArray, t, U', L, E, ce, hT, X', hL, e1, e2, hq, hce, hcv, vx_cls hW₁ hcl, st⟩
end
end VXH
theorem vx_ofWH {l : Launch} {y : MethodName} {ws ws' : List Cond} {rm : Room} {Pc : Array Value → State → Prop} {Qc : Array Value → State → Outcome → State → Prop} {XC : String → State → State → Prop} {mc ms : Nat} {free : Addr → Prop} {cc : ByteArray} {maxL : Nat} {ret : Option FieldType} {hh : List (Nat × Nat × Nat × Nat)}
    (hy : plainName y.cls = true) (hw : ws = Cond.codeWith y cc maxL ret hh :: ws')
    (body : ∀ p e s m args below meth c s₁, BodyLoose p l y (headSpec ws rm) cc maxL ret e s m args below meth c s₁ → c.maxLocals = maxL → Pc args s →
      W p l e (headSpec ws rm).room s m args below meth c s.heap [] 0 0 (vx_MQ below Qc XC args s mc ms free) (entryFrame m args maxL)) : vx_Met l y ws rm Pc Qc XC mc ms free := by
  refine MetFree.of_bodyS (code := cc) (maxLocals := maxL) (ret := ret) hy ?_ ?_
  · intro args s m h hn
    obtain ⟨m9, meth, c, hn9, h1, h2, h3, h4, -, h5, h6, -⟩ := Cond.codeWith_spec (atoms_spec (ws := ws) h _ (by rw [hw]; exact List.mem_cons_self))
    cases hn.symm.trans hn9
    exact ⟨meth, c, h1, h2, h3, h4, h5, h6⟩
  · intro p e s m args below meth c s₁ B hml hP _
    have hh0 : s₁.heap = s.heap := by rw [B.state]; rfl
    obtain ⟨t, a1, o, b1, b2, b3⟩ := body p e s m args below meth c s₁ B hml hP s₁ hh0 (Stand.of_body B)
    exact ⟨t, o, a1, b1, b2, b3⟩
/-! ===== END ===== -/
/-! ===== BEGIN what the machine throws by itself, no traces kept ===== -/
section VXM
set_option maxHeartbeats 1000000 in
/-- the machine throws cls with the message text, no traces kept: from its note over the frame g to 'throwing' over the same frame (follows the proofs of Stand.vmThrowsMessage, Shelf/KitTracedVmS.lean, and Stand.throwsMessageColdBareV, StandMessageColdV.lean, without the step out of the frame) -/
theorem vx_vmAt {p : Program} {l : Launch} {e : Env} {R : Room} {s : State} {m₀ : MethodId} {args : Array Value} {below : List Frame} {meth : Method} {c : Code} {W : State} {locs : List Loc} {cells slots : Nat}
    (X : Stand p l e R s m₀ args below meth c W locs cells slots) (hexec : p.tables.exec = Jvm.exec) (htr : e.platform.stackTraces = false) {cls : String} {names : List String} {text : String}
    (hcls : Bundle.fit cls = true) (hnames : ∀ n ∈ names, Bundle.fit n = true) (hsoe : (cls == "java/lang/StackOverflowError") = false) (hoom : (cls == "java/lang/OutOfMemoryError") = false)
    (h : ∀ a ∈ Bundle.messageArmAtoms cls names, a.before args s = true)
    (hlocs : ∀ x ∈ locs, ∀ cell, s.heap[x.base]? = some cell → cell.vm.isStatics = false)
    (htext : (text == notModelled) = false) (hlimit : ¬ (stringBytes (stringToUtf16 text)).size > e.platform.arrayLengthLimit) (hheap : ¬ (stringBytes (stringToUtf16 text)).size * componentBytes .byte > e.platform.maxHeapBytes)
    {g : JFrame} (hg : g.method = m₀) (hsize : g.locals.size = c.maxLocals)
    (hRframes : names.length + 4 < R.frames) (hRlocals : 2 * g.monitorRoom + (g.stack.map fun v => v.category).sum + 10240 ≤ R.locals) (hshort : 13 * names.length + 55 ≤ 10240)
    (hRcells : cells + 3 ≤ R.cells) (hRslots : slots + ((stringBytes (stringToUtf16 text)).size + 4 + 6) ≤ R.slots) (hlocks : meth.locks = false) :
    ∃ (S : State) (q : Addr) (ce : Cell), (∀ target, Steps p.tables e below ((S.setTop g).pushFrame (.throwing q)) target → Steps p.tables e below ((W.setTop g).pushFrame (.throwNew cls (some text) none)) target) ∧
      Stand p l e R s m₀ args below meth c S locs (cells + 3) (slots + ((stringBytes (stringToUtf16 text)).size + 4 + 6)) ∧ S.heap[q]? = some ce ∧ s.vm.findClass cls = some ce.cls ∧ ce.vm = .none := by
  have howns : e.platform.frameOwnsMonitors = true := by rw [X.admits.platform]
  have hfin : e.platform.finalization = false := by rw [X.admits.platform]
  have hpl : e.platform.magicAccessors = ({} : Platform).magicAccessors := by rw [X.admits.platform]
  have a : ∀ x, x ∈ Bundle.messageArmAtoms cls names → x.holds args s none s [] = true := fun x hx => h x hx
  obtain ⟨T, Z0, L, -, Y⟩ := ThrowableC.of_atoms (args := args) howns hfin hpl (fun x hx => h x (by simp [Bundle.messageArmAtoms, hx]))
  obtain ⟨Z, M, LZ, LM, hnZ⟩ := Init0T.ofS_atoms (args := args) hpl L Y (fun x hx => h x (by simp [Bundle.messageArmAtoms, hx]))
  obtain ⟨P1, Ps, hlen, L1, hL, hP1m, hlink1, hlink⟩ := Bundle.chainS (args := args) hpl hnZ names cls hcls hnames (fun x hx => h x (by simp [Bundle.messageArmAtoms, hx]))
  obtain ⟨Zs, LZs, hn4, hfitv, hfitc⟩ := StringT.of_atoms (args := args) (fun x hx => h x (by simp [Bundle.messageArmAtoms, hx]))
  have hfound : s.vm.findClass cls = some P1.m.cls := findClass_of_methodNamed hP1m
  obtain ⟨c1, kX, hc1, hk, hord, -, -, hn6⟩ := Cond.instantiable_spec (a (.instantiable cls 6) (by simp [Bundle.messageArmAtoms]))
  cases Option.some.inj (hc1.symm.trans hfound)
  have hinit := Cond.initialized_spec hfound hk (a (.initialized cls) (by simp [Bundle.messageArmAtoms]))
  have hctor : kX.findMethod "<init>" "(Ljava/lang/String;)V" = some P1.m.idx := findMethod_of_methodNamed hP1m hk
  have hsel0 : selectMethod e.platform s.vm P1.m.cls T.fill0 = .method T.fill0 := by
    obtain ⟨c2, r2, m2, q1, q2, q3, q4, -⟩ := Cond.selects_spec (a (.selects cls Bundle.tFill0 Bundle.tFill0) (by simp [Bundle.messageArmAtoms]))
    cases Option.some.inj (q1.symm.trans hfound)
    cases Option.some.inj (q2.symm.trans (State.methodFound?_of_named Y.fill0 (by decide)))
    cases Option.some.inj (q3.symm.trans Y.fill0)
    rw [Launch.admits_selectMethod X.admits]; exact q4
  have hselF : selectMethod e.platform s.vm P1.m.cls T.fill = .method T.fill := by
    obtain ⟨c2, r2, m2, q1, q2, q3, q4, -⟩ := Cond.selects_spec (a (.selects cls Bundle.tFill Bundle.tFill) (by simp [Bundle.messageArmAtoms]))
    cases Option.some.inj (q1.symm.trans hfound)
    cases Option.some.inj (q2.symm.trans (State.methodFound?_of_named Y.fill (by decide)))
    cases Option.some.inj (q3.symm.trans Y.fill)
    rw [Launch.admits_selectMethod X.admits]; exact q4
  obtain ⟨cellS0, hcS0, hiss⟩ := Y.statics
  obtain ⟨u0, hu0⟩ := Cond.staticRefV Y.unassigned L.unassignedStatic L.statics hcS0 hiss (a (.isRef (.static Bundle.tN "UNASSIGNED_STACK" Bundle.steD)) (by simp [Bundle.messageArmAtoms]))
  obtain ⟨sen, hsen⟩ := Cond.staticRefV Y.sentinel L.sentinelStatic L.statics hcS0 hiss (a (.isRef (.static Bundle.tN "SUPPRESSED_SENTINEL" Bundle.listD)) (by simp [Bundle.messageArmAtoms]))
  obtain ⟨ci198, i198, fB, hk198, hg198, ha198, hsB, -, hnB, htB, hffB⟩ := Cond.ownField (t := .object "java/lang/Object") Y.found L.cls (by decide +kernel) (a (.fieldLink Bundle.tN 198 Bundle.tN "backtrace" "Ljava/lang/Object;") (by simp [Bundle.messageArmAtoms])) (a (.lays Bundle.tN Bundle.tN "backtrace" "Ljava/lang/Object;") (by simp [Bundle.messageArmAtoms])) e.platform hpl
  obtain ⟨cellS, hcS', heS, -, hkeep⟩ := X.same.2.2.2.2.2 T.aS cellS0 hcS0
  have hcellS : W.heap[T.aS]? = some cellS := hcS'
  have hout' : ∀ i, (⟨T.aS, i⟩ : Loc) ∉ locs := fun i hmem => by
    have := hlocs _ hmem cellS0 hcS0
    rw [hiss] at this; cases this
  have hknownS : cellS.vm ≠ .unknown := by
    rw [heS]; intro hu
    rw [show cellS0.vm = .unknown from hu] at hiss
    cases hiss
  have hvU : cellS.slots[T.fUnassigned.slot]? = some u0.v := by rw [hkeep _ (hout' _)]; exact hu0
  have hvSen : cellS.slots[T.fSentinel.slot]? = some sen.v := by rw [hkeep _ (hout' _)]; exact hsen
  obtain ⟨iM, hffM⟩ := Y.msg
  obtain ⟨tyC, dC, hdC, hdnC⟩ := Cond.laysAt hfound hk Y.cause (a (.lays cls Bundle.tN "cause" "Ljava/lang/Throwable;") (by simp [Bundle.messageArmAtoms]))
  obtain ⟨tyS, dS, hdS, hdnS⟩ := Cond.laysAt hfound hk Y.stack (a (.lays cls Bundle.tN "stackTrace" Bundle.steD) (by simp [Bundle.messageArmAtoms]))
  obtain ⟨tyP, dP, hdP, hdnP⟩ := Cond.laysAt hfound hk Y.supp (a (.lays cls Bundle.tN "suppressedExceptions" Bundle.listD) (by simp [Bundle.messageArmAtoms]))
  obtain ⟨tyM, dM, hdM, hdnM⟩ := Cond.laysAt hfound hk hffM (a (.lays cls Bundle.tN "detailMessage" "Ljava/lang/String;") (by simp [Bundle.messageArmAtoms]))
  obtain ⟨tyB, dB, hdB, hdnB⟩ := Cond.laysAt hfound hk hffB (a (.lays cls Bundle.tN "backtrace" "Ljava/lang/Object;") (by simp [Bundle.messageArmAtoms]))
  have bC := Cond.laysApart hdB hdC hdnB hdnC (by rw [hnB, Y.causeName]; decide)
  have bS := Cond.laysApart hdB hdS hdnB hdnS (by rw [hnB, Y.stackName]; decide)
  have bP := Cond.laysApart hdB hdP hdnB hdnP (by rw [hnB, Y.suppName]; decide)
  have hbk : ((preparedCellV T.toThrowableT (freshCell P1.m.cls kX) (W.heap.size + 2) u0 sen).withEntry W.cur).slots[fB.slot]? = some .null := by
    have := fresh_default (c := P1.m.cls) tyB
    rw [htB] at this
    simpa [preparedCellV, Cell.setSlot, Cell.withEntry, Array.getElem?_setIfInBounds, bC, bS, bP, bC.symm, bS.symm, bP.symm, defaultValue] using this
  have tkC := Takes.of_laid (v := .ref (W.heap.size + 2)) hk hord tyC (by rw [Y.causeType]; rfl)
  have tkS := Takes.of_laid (v := u0.v) hk hord tyS (by rw [Y.stackType]; exact fits_refV_array _ u0)
  have tkP := Takes.of_laid (v := sen.v) hk hord tyP (by rw [Y.suppType]; exact fits_refV_object _ sen)
  have tkM := Takes.of_laid (v := .ref (W.heap.size + 1)) hk hord tyM (by rw [Y.msgType]; rfl)
  have hskip : SkipFacts T e.platform s (fun u => u) u0 ((preparedCellV T.toThrowableT (freshCell P1.m.cls kX) (W.heap.size + 2) u0 sen).withEntry W.cur) := ⟨{ ci198 := ci198, i198 := i198, fBack := fB }, ⟨hk198, hg198, ha198, hsB⟩, hbk, fun _ _ => rfl⟩
  have h0 : At W g.method c below := by rw [hg]; exact X.here
  obtain ⟨hbeyond, hfreeW⟩ := X.vmMayThrow hsize (.throwNew cls (some text) none) (fun f hf => by cases hf) rfl hRlocals
  have hfr' : W.frames.length + Ps.length + 4 < (e.platform.stackLimits W.me).1 := by have := X.framesAbove hRframes; omega
  have hwd' : (stackUse (.java g :: W.frames.tail)).2 + 13 * Ps.length + 55 ≤ (e.platform.stackLimits W.me).2 := by have := X.stackAbove hsize (K := 13 * Ps.length + 55) (by omega); omega
  have hslots : W.slotsUsed + (stringBytes (stringToUtf16 text)).size + Zs.kS.instanceTypes.size + kX.instanceTypes.size ≤ e.platform.maxSlots := by
    have := X.slotsAbove hRslots
    rw [hn4, hn6]
    omega
  obtain ⟨vm', hW', st⟩ := Steps.vmThrowsMessageColdByV p (s₀ := s) (S := W) (g := g) h0 hexec T L Z LZ M LM X.warmed (t := W.cur) rfl Zs LZs P1 L1 Ps hL hlink1 hlink hsoe hoom hfound hk hinit hord hctor
    (Launch.admits_hotImplicitExceptions X.admits) hbeyond hfreeW htext hlimit hheap (X.cellsAbove hRcells) hslots (hfitv _) (hfitc _)
    (Nn := fun u => u) heapOnly_id (fun _ _ => rfl) (fun _ => rfl) (fun u x y => setCell_twice _ _ _ _) (fun _ => Nat.le_refl _) (cN := ((preparedCellV T.toThrowableT (freshCell P1.m.cls kX) (W.heap.size + 2) u0 sen).withEntry W.cur))
    hsel0 hcellS hknownS hvU tkS (fun _ hu => hu) (fun _ hu => hu) rfl rfl rfl (by simp [preparedCellV, Cell.setSlot, Cell.withEntry]) hskip (fun _ _ hA hW _ hroom _ hrest => L.nativeOff p htr hA hW hroom hrest) hselF hvSen tkC tkP tkM Y.objLocals rfl hfr' hwd'
  rw [plainBareV_eq T.toThrowableT (W.heap.size + 2) u0 sen (.ref (W.heap.size + 1)) W.cur rfl rfl] at st
  obtain ⟨-, -, w3, w4, -, -, -⟩ := withThrown_facts e.platform W Zs text P1.m.cls kX
  have X3 := ((X.pushed (bytesOf Zs.cB (stringToUtf16 text))).pushed (stringAt Zs.cS Zs.kS Zs.fv Zs.fc (stringToUtf16 text) W.heap.size)).pushed (freshCell P1.m.cls kX)
  rw [← withString_eq] at X3
  have X4 := X3.noted hW'
  have ha : (W.heap.size + 2) < ((withThrown W Zs text P1.m.cls kX).setVm vm').heap.size := by show _ < (withThrown W Zs text P1.m.cls kX).heap.size; rw [w3]; omega
  have hcell : ((withThrown W Zs text P1.m.cls kX).setVm vm').heap[(W.heap.size + 2)]? = some (freshCell P1.m.cls kX) := w4
  have X5 := ((((X4.stored hcell T.fCause.slot (.ref (W.heap.size + 2))).storedAgain ha T.fStack.slot u0.v).storedAgain ha T.fSupp.slot sen.v).storedAgain ha T.fStack.slot u0.v).storedAgain ha T.fMsg.slot (.ref (W.heap.size + 1))
  obtain ⟨g₁, hfrM⟩ := X5.frames_eq
  have hU : ((((withThrown W Zs text P1.m.cls kX).setVm vm').setCell (W.heap.size + 2) (plainBareV T.toThrowableT (freshCell P1.m.cls kX) (W.heap.size + 2) u0 sen (.ref (W.heap.size + 1)))).setTop g).pushFrame (.throwing (W.heap.size + 2)) = (((withThrown W Zs text P1.m.cls kX).setVm vm').setCell (W.heap.size + 2) (plainBareV T.toThrowableT (freshCell P1.m.cls kX) (W.heap.size + 2) u0 sen (.ref (W.heap.size + 1)))).setFrames (.throwing (W.heap.size + 2) :: .java g :: below) := by
    rw [State.pushFrame, State.frames_setTop _ hfrM, State.setTop_of_frames _ hfrM, State.setFrames_setFrames]
  have b1 : (bytesOf Zs.cB (stringToUtf16 text)).slots.size = (stringBytes (stringToUtf16 text)).size := by
    rw [(Cell.writeAll_facts _ _).2.2]; simp [bytes0]
  have b2 : (stringAt Zs.cS Zs.kS Zs.fv Zs.fc (stringToUtf16 text) W.heap.size).slots.size = 4 := by simp [string0, Cell.setSlot, hn4]
  have b3 : (freshCell P1.m.cls kX).slots.size = 6 := by simp [hn6]
  rw [b1, b2, b3] at X5
  have e9 : slots + (stringBytes (stringToUtf16 text)).size + 4 + 6 = slots + ((stringBytes (stringToUtf16 text)).size + 4 + 6) := by omega
  rw [e9] at X5
  simp only [List.append_assoc, List.cons_append, List.nil_append] at X5
  refine ⟨((withThrown W Zs text P1.m.cls kX).setVm vm').setCell (W.heap.size + 2) (plainBareV T.toThrowableT (freshCell P1.m.cls kX) (W.heap.size + 2) u0 sen (.ref (W.heap.size + 1))), W.heap.size + 2, _, fun target ht => st _ (by rw [X.tail, ← hU]; exact ht),
    X5.forget (fun y hy => ?_), heapAt_setCell_self _ ha, hfound, rfl⟩
  simp only [List.mem_cons, List.not_mem_nil, or_false] at hy
  have hge : s.heap.size ≤ W.heap.size := X.same.2.1
  rcases hy with rfl | rfl | rfl | rfl | rfl <;> exact Nat.le_trans hge (Nat.le_add_right _ 2)
set_option maxHeartbeats 1000000 in
/-- the machine throws NullPointerException, no traces kept: from its note over the frame g to 'throwing' over the same frame (follows the proof of Stand.vmThrowsNpe, Shelf42/KT2.lean; throwsNpeColdBareVAt, Shelf42/NT91.lean, called) -/
theorem vx_npeAt {p : Program} {l : Launch} {e : Env} {R : Room} {s : State} {m₀ : MethodId} {args : Array Value} {below : List Frame} {meth : Method} {c : Code} {W : State} {locs : List Loc} {cells slots : Nat}
    (X : Stand p l e R s m₀ args below meth c W locs cells slots) (hexec : p.tables.exec = Jvm.exec) (htr : e.platform.stackTraces = false) {n : Nat}
    (h : ∀ a ∈ Bundle.npeArmAtoms n, a.before args s = true)
    (hlocs : ∀ x ∈ locs, ∀ cell, s.heap[x.base]? = some cell → cell.vm.isStatics = false)
    {g : JFrame} (hg : g.method = m₀) (hsize : g.locals.size = c.maxLocals)
    (hRframes : 7 < R.frames) (hRlocals : 2 * g.monitorRoom + (g.stack.map fun v => v.category).sum + 10240 ≤ R.locals)
    (hRcells : cells + 1 ≤ R.cells) (hRslots : slots + n ≤ R.slots) (hlocks : meth.locks = false) :
    ∃ (S : State) (q : Addr) (ce : Cell), (∀ target, Steps p.tables e below ((S.setTop g).pushFrame (.throwing q)) target → Steps p.tables e below ((W.setTop g).pushFrame (.throwNew "java/lang/NullPointerException" none none)) target) ∧
      Stand p l e R s m₀ args below meth c S locs (cells + 1) (slots + n) ∧ S.heap[q]? = some ce ∧ s.vm.findClass "java/lang/NullPointerException" = some ce.cls ∧ ce.vm = .none := by
  have howns : e.platform.frameOwnsMonitors = true := by rw [X.admits.platform]
  have hfin : e.platform.finalization = false := by rw [X.admits.platform]
  have hpl : e.platform.magicAccessors = ({} : Platform).magicAccessors := by rw [X.admits.platform]
  have hpl2 : e.platform.arrayCloneIsPublic = true := by rw [X.admits.platform]
  have a' : ∀ x, x ∈ Bundle.npeArmAtoms n → x.holds args s none s [] = true := fun x hx => h x hx
  obtain ⟨T, Z, L, LZ, Y⟩ := ThrowableC.of_atoms (args := args) howns hfin hpl (fun x hx => h x (by simp [Bundle.npeArmAtoms, hx]))
  obtain ⟨N, LN, hcN, hnNF, hordN, hffS⟩ := NpeC.of_atoms (args := args) hpl hpl2 L Y (fun x hx => h x (by simp [Bundle.npeArmAtoms, hx]))
  obtain ⟨P1, L1, hP1m, hP1s⟩ := PassC.of_atoms (args := args) (s := s) hpl (X := Bundle.nN) (Y := Bundle.rN) (by decide) (by decide) LibCode.NullPointerException.Init0.at_0 LibCode.NullPointerException.Init0.at_1 LibCode.NullPointerException.Init0.at_4 (fun x hx => h x (by simp [Bundle.npeArmAtoms, hx]))
  obtain ⟨PR, LR, hPRm, hPRs⟩ := PassC.of_atoms (args := args) (s := s) hpl (X := Bundle.rN) (Y := Bundle.eN) (by decide) (by decide) LibCode.RuntimeException.Init0.at_0 LibCode.RuntimeException.Init0.at_1 LibCode.RuntimeException.Init0.at_4 (fun x hx => h x (by simp [Bundle.npeArmAtoms, hx]))
  obtain ⟨PE, LEx, hPEm, hPEs⟩ := PassC.of_atoms (args := args) (s := s) hpl (X := Bundle.eN) (Y := Bundle.tN) (by decide) (by decide) LibCode.Exception.Init0.at_0 LibCode.Exception.Init0.at_1 LibCode.Exception.Init0.at_4 (fun x hx => h x (by simp [Bundle.npeArmAtoms, hx]))
  have hfound : s.vm.findClass Bundle.nN = some P1.m.cls := findClass_of_methodNamed hP1m
  have ecls : N.cN = P1.m.cls := Option.some.inj (hcN.symm.trans hfound)
  have hk : s.vm.classes[P1.m.cls]? = some N.kN := by rw [← ecls]; exact LN.cls
  have hinit := Cond.initialized_spec hfound hk (a' (.initialized Bundle.nN) (by simp [Bundle.npeArmAtoms]))
  have hctor : N.kN.findMethod "<init>" "()V" = some P1.m.idx := findMethod_of_methodNamed hP1m hk
  obtain ⟨c1, k1, hc1, hk1, -, -, -, hn⟩ := Cond.instantiable_spec (a' (.instantiable Bundle.nN n) (by simp [Bundle.npeArmAtoms]))
  cases Option.some.inj (hc1.symm.trans hfound)
  cases Option.some.inj (hk1.symm.trans hk)
  have hfsz : (freshCell P1.m.cls N.kN).slots.size = n := by simp [hn]
  have hlink1 : P1.sup = PR.m := Option.some.inj (hP1s.symm.trans hPRm)
  have hlinkR : PR.sup = PE.m := Option.some.inj (hPRs.symm.trans hPEm)
  have hlinkE : PE.sup = Z.m T.toThrowableT := Option.some.inj (hPEs.symm.trans Y.init0)
  have hLs : ∀ P, P ∈ [PR, PE] → P.Links0 e.platform s := fun P hP => by
    simp only [List.mem_cons, List.not_mem_nil, or_false] at hP
    rcases hP with rfl | rfl
    · exact LR
    · exact LEx
  have hsel0 : selectMethod e.platform s.vm P1.m.cls T.fill0 = .method T.fill0 := by
    obtain ⟨c2, r2, m2, q1, q2, q3, q4, -⟩ := Cond.selects_spec (a' (.selects Bundle.nN Bundle.tFill0 Bundle.tFill0) (by simp [Bundle.npeArmAtoms]))
    cases Option.some.inj (q1.symm.trans hfound)
    cases Option.some.inj (q2.symm.trans (State.methodFound?_of_named Y.fill0 (by decide)))
    cases Option.some.inj (q3.symm.trans Y.fill0)
    rw [Launch.admits_selectMethod X.admits]; exact q4
  have hselF : selectMethod e.platform s.vm P1.m.cls T.fill = .method N.fill := by
    obtain ⟨c2, r2, m2, q1, q2, q3, q4, -⟩ := Cond.selects_spec (a' (.selects Bundle.nN Bundle.tFill Bundle.nFill) (by simp [Bundle.npeArmAtoms]))
    cases Option.some.inj (q1.symm.trans hfound)
    cases Option.some.inj (q2.symm.trans (State.methodFound?_of_named Y.fill (by decide)))
    cases Option.some.inj (q3.symm.trans hnNF)
    rw [Launch.admits_selectMethod X.admits]; exact q4
  obtain ⟨cellS0, hcS0, hiss⟩ := Y.statics
  obtain ⟨u0, hu0⟩ := Cond.staticRefV Y.unassigned L.unassignedStatic L.statics hcS0 hiss (a' (.isRef (.static Bundle.tN "UNASSIGNED_STACK" Bundle.steD)) (by simp [Bundle.npeArmAtoms]))
  obtain ⟨sen, hsen⟩ := Cond.staticRefV Y.sentinel L.sentinelStatic L.statics hcS0 hiss (a' (.isRef (.static Bundle.tN "SUPPRESSED_SENTINEL" Bundle.listD)) (by simp [Bundle.npeArmAtoms]))
  obtain ⟨ci198, i198, fB, hk198, hg198, ha198, hsB, -, hnB, htB, hffB⟩ := Cond.ownField (t := .object "java/lang/Object") Y.found L.cls (by decide +kernel) (a' (.fieldLink Bundle.tN 198 Bundle.tN "backtrace" Bundle.objD) (by simp [Bundle.npeArmAtoms])) (a' (.lays Bundle.tN Bundle.tN "backtrace" Bundle.objD) (by simp [Bundle.npeArmAtoms])) e.platform hpl
  obtain ⟨cellS, hcS', heS, -, hkeep⟩ := X.same.2.2.2.2.2 T.aS cellS0 hcS0
  have hcellS : W.heap[T.aS]? = some cellS := hcS'
  have hout' : ∀ i, (⟨T.aS, i⟩ : Loc) ∉ locs := fun i hmem => by
    have := hlocs _ hmem cellS0 hcS0
    rw [hiss] at this; cases this
  have hknownS : cellS.vm ≠ .unknown := by
    rw [heS]; intro hu
    rw [show cellS0.vm = .unknown from hu] at hiss
    cases hiss
  have hvU : cellS.slots[T.fUnassigned.slot]? = some u0.v := by rw [hkeep _ (hout' _)]; exact hu0
  have hvSen : cellS.slots[T.fSentinel.slot]? = some sen.v := by rw [hkeep _ (hout' _)]; exact hsen
  obtain ⟨tyC, dC, hdC, hdnC⟩ := Cond.laysAt hfound hk Y.cause (a' (.lays Bundle.nN Bundle.tN "cause" "Ljava/lang/Throwable;") (by simp [Bundle.npeArmAtoms]))
  obtain ⟨tyS, dS, hdS, hdnS⟩ := Cond.laysAt hfound hk Y.stack (a' (.lays Bundle.nN Bundle.tN "stackTrace" Bundle.steD) (by simp [Bundle.npeArmAtoms]))
  obtain ⟨tyP, dP, hdP, hdnP⟩ := Cond.laysAt hfound hk Y.supp (a' (.lays Bundle.nN Bundle.tN "suppressedExceptions" Bundle.listD) (by simp [Bundle.npeArmAtoms]))
  obtain ⟨tyX, dX, hdX, hdnX⟩ := Cond.laysAt hfound hk hffS (a' (.lays Bundle.nN Bundle.nN "extendedMessageState" "I") (by simp [Bundle.npeArmAtoms, Bundle.npeAtoms]))
  obtain ⟨hnX, htX⟩ := State.fieldFound?_type hffS (t := .int) (by decide +kernel)
  have xC := Cond.laysApart hdC hdX hdnC hdnX (by rw [hnX, Y.causeName]; decide)
  have xS := Cond.laysApart hdS hdX hdnS hdnX (by rw [hnX, Y.stackName]; decide)
  have xP := Cond.laysApart hdP hdX hdnP hdnX (by rw [hnX, Y.suppName]; decide)
  have hv0 : (freshCell P1.m.cls N.kN).slots[N.fState.slot]? = some (.int 0) := by
    have := fresh_default (c := P1.m.cls) tyX
    rw [htX] at this; exact this
  obtain ⟨tyB, dB, hdB, hdnB⟩ := Cond.laysAt hfound hk hffB (a' (.lays Bundle.nN Bundle.tN "backtrace" Bundle.objD) (by simp [Bundle.npeArmAtoms]))
  have bC := Cond.laysApart hdB hdC hdnB hdnC (by rw [hnB, Y.causeName]; decide)
  have bS := Cond.laysApart hdB hdS hdnB hdnS (by rw [hnB, Y.stackName]; decide)
  have bP := Cond.laysApart hdB hdP hdnB hdnP (by rw [hnB, Y.suppName]; decide)
  have bX := Cond.laysApart hdB hdX hdnB hdnX (by rw [hnB, hnX]; decide)
  have hbk : ((npeCell N.toNpeT (preparedCellV T.toThrowableT (freshCell P1.m.cls N.kN) W.heap.size u0 sen) W.cur).withEntry W.cur).slots[fB.slot]? = some .null := by
    have := fresh_default (c := P1.m.cls) tyB
    rw [htB] at this
    simpa [npeCell, preparedCellV, Cell.setSlot, Cell.withEntry, Array.getElem?_setIfInBounds, bC, bS, bP, bX, bC.symm, bS.symm, bP.symm, bX.symm, defaultValue] using this
  have tkC := Takes.of_laid (v := .ref W.heap.size) hk hordN tyC (by rw [Y.causeType]; rfl)
  have tkS := Takes.of_laid (v := u0.v) hk hordN tyS (by rw [Y.stackType]; exact fits_refV_array _ u0)
  have tkP := Takes.of_laid (v := sen.v) hk hordN tyP (by rw [Y.suppType]; exact fits_refV_object _ sen)
  have tkX := Takes.of_laid (v := .int 1) hk hordN tyX (by rw [htX]; rfl)
  have hskip : SkipFacts T e.platform s (fun u => u) u0 ((npeCell N.toNpeT (preparedCellV T.toThrowableT (freshCell P1.m.cls N.kN) W.heap.size u0 sen) W.cur).withEntry W.cur) := ⟨{ ci198 := ci198, i198 := i198, fBack := fB }, ⟨hk198, hg198, ha198, hsB⟩, hbk, fun _ _ => rfl⟩
  obtain ⟨vm', X3, st, -⟩ := X.throwsNpeColdBareVAt hexec hg hsize T L Z LZ N LN P1 L1 [PR, PE] hLs hlink1 ⟨hlinkR, hlinkE, trivial⟩ hfound hk hinit hordN hctor hsel0 hselF hcellS hknownS hvU hvSen
    hv0 xC xS xP tkC tkS tkP tkX Y.objLocals hskip (fun _ _ hA hW _ hroom _ hrest => L.nativeOff p htr hA hW hroom hrest) (by simpa using hRframes) hRlocals (by simp) hRcells (by rw [hn]; exact hRslots)
  have hlt : W.heap.size < ((W.pushCell (freshCell P1.m.cls N.kN)).setVm vm').heap.size := by
    show W.heap.size < (W.pushCell (freshCell P1.m.cls N.kN)).heap.size
    rw [State.heap_size_pushCell]; omega
  rw [hfsz] at X3
  obtain ⟨g₁, hfrM⟩ := X3.frames_eq
  have hU : ((((W.pushCell (freshCell P1.m.cls N.kN)).setVm vm').setCell W.heap.size (npeBareV T.toThrowableT N.toNpeT (freshCell P1.m.cls N.kN) W.heap.size u0 sen)).setTop g).pushFrame (.throwing W.heap.size) = (((W.pushCell (freshCell P1.m.cls N.kN)).setVm vm').setCell W.heap.size (npeBareV T.toThrowableT N.toNpeT (freshCell P1.m.cls N.kN) W.heap.size u0 sen)).setFrames (.throwing W.heap.size :: .java g :: below) := by
    rw [State.pushFrame, State.frames_setTop _ hfrM, State.setTop_of_frames _ hfrM, State.setFrames_setFrames]
  refine ⟨_, W.heap.size, _, fun target ht => st.trans (by rw [← hU]; exact ht), X3.forget (fun y hy => ?_), heapAt_setCell_self _ hlt, hfound, rfl⟩
  simp only [List.mem_cons, List.not_mem_nil, or_false] at hy
  have hge : s.heap.size ≤ W.heap.size := X.same.2.1
  rcases hy with rfl | rfl | rfl | rfl | rfl <;> exact hge
/-- the words of a machine's NullPointerException, but the four that speak of the heap -/
def vx_atN (n : Nat) : List Cond := (Bundle.npeArmAtoms n).filter vx_no
/-- the words of a machine's throw with a message, but the four that speak of the heap -/
def vx_atM (X : String) (names : List String) : List Cond := (Bundle.messageArmAtoms X names).filter vx_no
section
variable {p : Program} {l : Launch} {e : Env} {R : Room} {s : State} {m : MethodId} {args : Array Value} {below : List Frame} {meth : Method} {c : Code} {H : Heap} {locs : List Loc} {cells slots : Nat}
/-- a frame seen from a rebased start, seen from the first start again -/
theorem vx_back9 {T S : State} {R' : Room} {k n : Nat} (X : Stand p l e R s m args below meth c T locs cells slots) (Y : Stand p l e R' ((T.setVm s.vm).setFrames (.invoking m args :: below)) m args below meth c T [] 0 0) (Z : Stand p l e R' ((T.setVm s.vm).setFrames (.invoking m args :: below)) m args below meth c S [] k n) :
    Stand p l e R s m args below meth c S locs (cells + k) (slots + n) := by
  have hW0 : s.WarmedH ((T.setVm s.vm).setFrames (.invoking m args :: below)).vm := State.WarmedH.refl s
  refine { admits := X.admits, cas := X.cas, clock := X.clock, frames := X.frames, room := X.room, hears := X.hears, method := X.method, code := X.code, here := Z.here, tail := Z.tail, warmed := State.WarmedH.trans hW0 Z.warmed, limits := Z.limits.trans (Y.limits.symm.trans X.limits), bytes := Z.bytes.trans (Y.bytes.symm.trans X.bytes), same := ?_ }
  obtain ⟨e1, e2⟩ := Z.same
  rw [State.setFrames_setFrames] at e1
  have h2 : (T.setVm s.vm).sameButNew (S.setVm s.vm) [] k n := ⟨e1, e2⟩
  have h3 := X.same.trans h2
  rw [List.append_nil] at h3
  exact h3
/-- from the machine's note that E is thrown here with this text -/
def vx_Note (p : Program) (l : Launch) (e : Env) (R : Room) (s : State) (m : MethodId) (args : Array Value) (below : List Frame) (meth : Method) (c : Code) (H : Heap) (locs : List Loc) (cells slots : Nat) (Q : State → Prop) (g : JFrame) (E text : String) : Prop :=
  ∀ T : State, T.heap = H → Stand p l e R s m args below meth c T locs cells slots → ∃ t, Steps p.tables e below ((T.setTop g).pushFrame (.throwNew E (some text) none)) t ∧ Q t
theorem vx_vm {pc : Nat} {ls : Array Slot} {rest : List Value} {Q : State → Prop} (hexec : p.tables.exec = Jvm.exec) (hl : l.stackTraces = false) {cls text : String} {names : List String} {nb : Nat} {A : Nat → Prop}
    (hcls : Bundle.fit cls = true) (hnames : ∀ n ∈ names, Bundle.fit n = true) (hsoe : (cls == "java/lang/StackOverflowError") = false) (hoom : (cls == "java/lang/OutOfMemoryError") = false)
    (hat : ∀ w ∈ vx_atM cls names, w.before args s = true) (hgood : ∀ w ∈ vx_atM cls names, vx_ot w = true)
    (hU : vx_Zq Bundle.tN "UNASSIGNED_STACK" Bundle.steD A s s.heap) (hN : vx_Zq Bundle.tN "SUPPRESSED_SENTINEL" Bundle.listD A s s.heap) (hS : va_S A s.heap H locs) (hsize : ls.size = c.maxLocals)
    (htext : (text == notModelled) = false) (hnb : (stringBytes (stringToUtf16 text)).size ≤ nb) (hnb1 : nb ≤ 1000)
    (hRframes : names.length + 4 < R.frames) (hRlocals : (rest.map fun v => v.category).sum + 10240 ≤ R.locals) (hshort : 13 * names.length + 55 ≤ 10240) (hRcells : cells + 3 ≤ R.cells) (hRslots : slots + (nb + 10) ≤ R.slots) (hlocks : meth.locks = false)
    (k : ∀ (H1 : Heap) (q9 : Addr) (ce : Cell), H.size ≤ H1.size → (∀ q : Nat, q < H.size → H1[q]? = H[q]?) → va_S A s.heap H1 locs → H1[q9]? = some ce → ce.vm = .none → s.vm.findClass cls = some ce.cls → vx_W p l e R s m args below meth c H1 locs (cells + 3) (slots + (nb + 10)) Q (F0 m pc ls rest) q9) :
    vx_Note p l e R s m args below meth c H locs cells slots Q (F0 m pc ls rest) cls text := by
  intro T hT X
  have htr : e.platform.stackTraces = false := (show e.platform.stackTraces = l.stackTraces by rw [X.admits.platform]).trans hl
  have Y := vx_rebase X (R' := { frames := R.frames, locals := R.locals, cells := 3, slots := nb + 10 }) (Nat.le_refl _) (Nat.le_refl _) hRcells hRslots
  have hhp : ((T.setVm s.vm).setFrames (.invoking m args :: below)).heap = H := hT
  have hW0 : s.WarmedH ((T.setVm s.vm).setFrames (.invoking m args :: below)).vm := State.WarmedH.refl s
  have hat' : ∀ w ∈ vx_atM cls names, w.before args ((T.setVm s.vm).setFrames (.invoking m args :: below)) = true := fun w hw => vx_ot_at hW0 rfl (hgood w hw) (hat w hw)
  have hU' : vx_Zq Bundle.tN "UNASSIGNED_STACK" Bundle.steD A ((T.setVm s.vm).setFrames (.invoking m args :: below)) ((T.setVm s.vm).setFrames (.invoking m args :: below)).heap := by rw [hhp]; exact vx_Zq.moved hW0.alike (hU.kept hS.2.1)
  have hN' : vx_Zq Bundle.tN "SUPPRESSED_SENTINEL" Bundle.listD A ((T.setVm s.vm).setFrames (.invoking m args :: below)) ((T.setVm s.vm).setFrames (.invoking m args :: below)).heap := by rw [hhp]; exact vx_Zq.moved hW0.alike (hN.kept hS.2.1)
  obtain ⟨S, q, ce, st, Z, hce, hcl', hv⟩ := vx_vmAt Y hexec htr (cls := cls) (names := names) (text := text) hcls hnames hsoe hoom (vx_own hat' (vx_isRefq hU'.1) (vx_isRefq hN'.1) hU'.2.word hN'.2.word) (fun x hx => nomatch hx) htext
    (by rw [Launch.admits_arrayLengthLimit X.admits]; omega) (by rw [Launch.admits_maxHeapBytes X.admits]; simp only [componentBytes]; omega)
    (g := F0 m pc ls rest) rfl hsize hRframes (by show 2 * 0 + (rest.map fun v => v.category).sum + 10240 ≤ R.locals; omega) hshort (by show 0 + 3 ≤ 3; omega) (by show 0 + (_ + 4 + 6) ≤ nb + 10; omega) hlocks
  obtain ⟨f1, f2⟩ := vx_frame Z.same
  have f1' : H.size ≤ S.heap.size := by rw [← hT]; exact f1
  have f2' : ∀ q : Nat, q < H.size → S.heap[q]? = H[q]? := fun q hq => by
    rw [← hT]
    exact f2 q (by rw [← hT] at hq; exact hq) (fun z hz => nomatch hz)
  have X5 := vx_back9 X Y Z
  have X6 : Stand p l e R s m args below meth c S locs (cells + 3) (slots + (nb + 10)) := { X5 with same := X5.same.mono (by omega) (by omega) }
  obtain ⟨t, a1, b1⟩ := k S.heap q ce f1' f2' ⟨Nat.le_trans hS.1 f1', fun q h1 h2 => (f2' q (Nat.lt_of_lt_of_le h1 hS.1)).trans (hS.2.1 q h1 h2), hS.2.2⟩ hce hv hcl' S rfl X6
  exact ⟨t, st t a1, b1⟩
/-- from the machine's note that NullPointerException is thrown here -/
def vx_NoteN (p : Program) (l : Launch) (e : Env) (R : Room) (s : State) (m : MethodId) (args : Array Value) (below : List Frame) (meth : Method) (c : Code) (H : Heap) (locs : List Loc) (cells slots : Nat) (Q : State → Prop) (g : JFrame) : Prop :=
  ∀ T : State, T.heap = H → Stand p l e R s m args below meth c T locs cells slots → ∃ t, Steps p.tables e below ((T.setTop g).pushFrame (.throwNew "java/lang/NullPointerException" none none)) t ∧ Q t
theorem vx_npe {pc : Nat} {ls : Array Slot} {rest : List Value} {Q : State → Prop} (hexec : p.tables.exec = Jvm.exec) (hl : l.stackTraces = false) {nb : Nat} {A : Nat → Prop}
    (hat : ∀ w ∈ vx_atN nb, w.before args s = true) (hgood : ∀ w ∈ vx_atN nb, vx_ot w = true)
    (hU : vx_Zq Bundle.tN "UNASSIGNED_STACK" Bundle.steD A s s.heap) (hN : vx_Zq Bundle.tN "SUPPRESSED_SENTINEL" Bundle.listD A s s.heap) (hS : va_S A s.heap H locs) (hsize : ls.size = c.maxLocals)
    (hRframes : 7 < R.frames) (hRlocals : (rest.map fun v => v.category).sum + 10240 ≤ R.locals) (hRcells : cells + 1 ≤ R.cells) (hRslots : slots + nb ≤ R.slots) (hlocks : meth.locks = false)
    (k : ∀ (H1 : Heap) (q9 : Addr) (ce : Cell), H.size ≤ H1.size → (∀ q : Nat, q < H.size → H1[q]? = H[q]?) → va_S A s.heap H1 locs → H1[q9]? = some ce → ce.vm = .none → s.vm.findClass "java/lang/NullPointerException" = some ce.cls → vx_W p l e R s m args below meth c H1 locs (cells + 1) (slots + nb) Q (F0 m pc ls rest) q9) :
    vx_NoteN p l e R s m args below meth c H locs cells slots Q (F0 m pc ls rest) := by
  intro T hT X
  have htr : e.platform.stackTraces = false := (show e.platform.stackTraces = l.stackTraces by rw [X.admits.platform]).trans hl
  have Y := vx_rebase X (R' := { frames := R.frames, locals := R.locals, cells := 1, slots := nb }) (Nat.le_refl _) (Nat.le_refl _) hRcells hRslots
  have hhp : ((T.setVm s.vm).setFrames (.invoking m args :: below)).heap = H := hT
  have hW0 : s.WarmedH ((T.setVm s.vm).setFrames (.invoking m args :: below)).vm := State.WarmedH.refl s
  have hat' : ∀ w ∈ vx_atN nb, w.before args ((T.setVm s.vm).setFrames (.invoking m args :: below)) = true := fun w hw => vx_ot_at hW0 rfl (hgood w hw) (hat w hw)
  have hU' : vx_Zq Bundle.tN "UNASSIGNED_STACK" Bundle.steD A ((T.setVm s.vm).setFrames (.invoking m args :: below)) ((T.setVm s.vm).setFrames (.invoking m args :: below)).heap := by rw [hhp]; exact vx_Zq.moved hW0.alike (hU.kept hS.2.1)
  have hN' : vx_Zq Bundle.tN "SUPPRESSED_SENTINEL" Bundle.listD A ((T.setVm s.vm).setFrames (.invoking m args :: below)) ((T.setVm s.vm).setFrames (.invoking m args :: below)).heap := by rw [hhp]; exact vx_Zq.moved hW0.alike (hN.kept hS.2.1)
  obtain ⟨S, q, ce, st, Z, hce, hcl', hv⟩ := vx_npeAt Y hexec htr (n := nb) (vx_own hat' (vx_isRefq hU'.1) (vx_isRefq hN'.1) hU'.2.word hN'.2.word) (fun x hx => nomatch hx)
    (g := F0 m pc ls rest) rfl hsize hRframes (by show 2 * 0 + (rest.map fun v => v.category).sum + 10240 ≤ R.locals; omega) (by show 0 + 1 ≤ 1; omega) (by show 0 + nb ≤ nb; omega) hlocks
  obtain ⟨f1, f2⟩ := vx_frame Z.same
  have f1' : H.size ≤ S.heap.size := by rw [← hT]; exact f1
  have f2' : ∀ q : Nat, q < H.size → S.heap[q]? = H[q]? := fun q hq => by
    rw [← hT]
    exact f2 q (by rw [← hT] at hq; exact hq) (fun z hz => nomatch hz)
  have X5 := vx_back9 X Y Z
  have X6 : Stand p l e R s m args below meth c S locs (cells + 1) (slots + nb) := { X5 with same := X5.same.mono (by omega) (by omega) }
  obtain ⟨t, a1, b1⟩ := k S.heap q ce f1' f2' ⟨Nat.le_trans hS.1 f1', fun q h1 h2 => (f2' q (Nat.lt_of_lt_of_le h1 hS.1)).trans (hS.2.1 q h1 h2), hS.2.2⟩ hce hv hcl' S rfl X6
  exact ⟨t, st t a1, b1⟩
variable {Q : State → Prop} {cc : ByteArray} {pc : Nat} {ls : Array Slot} {rest : List Value}
theorem vx_idivZ (hexec : p.tables.exec = Jvm.exec) (hb : c.code = cc) {a b : Int32} (h0 : b = 0) (d : decode cc pc = .ok (.idiv, 1)) (k : vx_Note p l e R s m args below meth c H locs cells slots Q (F0 m pc ls rest) "java/lang/ArithmeticException" "/ by zero") :
    W p l e R s m args below meth c H locs cells slots Q (F0 m pc ls (.int b :: .int a :: rest)) := by
  intro T hT X
  obtain ⟨t, st, q⟩ := k T hT X
  exact ⟨t, X.idivZero hexec (g := F0 m pc ls (.int b :: .int a :: rest)) rfl (a := a) (rest := rest) (by rw [h0]) (by rw [hb]; exact d) t st, q⟩
theorem vx_iremZ (hexec : p.tables.exec = Jvm.exec) (hb : c.code = cc) {a b : Int32} (h0 : b = 0) (d : decode cc pc = .ok (.irem, 1)) (k : vx_Note p l e R s m args below meth c H locs cells slots Q (F0 m pc ls rest) "java/lang/ArithmeticException" "/ by zero") :
    W p l e R s m args below meth c H locs cells slots Q (F0 m pc ls (.int b :: .int a :: rest)) := by
  intro T hT X
  obtain ⟨t, st, q⟩ := k T hT X
  exact ⟨t, X.iremZero hexec (g := F0 m pc ls (.int b :: .int a :: rest)) rfl (a := a) (rest := rest) (by rw [h0]) (by rw [hb]; exact d) t st, q⟩
theorem vx_ldivZ (hexec : p.tables.exec = Jvm.exec) (hb : c.code = cc) {a b : Int64} (h0 : b = 0) (d : decode cc pc = .ok (.ldiv, 1)) (k : vx_Note p l e R s m args below meth c H locs cells slots Q (F0 m pc ls rest) "java/lang/ArithmeticException" "/ by zero") :
    W p l e R s m args below meth c H locs cells slots Q (F0 m pc ls (.long b :: .long a :: rest)) := by
  intro T hT X
  obtain ⟨t, st, q⟩ := k T hT X
  exact ⟨t, X.ldivZero hexec (g := F0 m pc ls (.long b :: .long a :: rest)) rfl (a := a) (rest := rest) (by rw [h0]) (by rw [hb]; exact d) t st, q⟩
theorem vx_lremZ (hexec : p.tables.exec = Jvm.exec) (hb : c.code = cc) {a b : Int64} (h0 : b = 0) (d : decode cc pc = .ok (.lrem, 1)) (k : vx_Note p l e R s m args below meth c H locs cells slots Q (F0 m pc ls rest) "java/lang/ArithmeticException" "/ by zero") :
    W p l e R s m args below meth c H locs cells slots Q (F0 m pc ls (.long b :: .long a :: rest)) := by
  intro T hT X
  obtain ⟨t, st, q⟩ := k T hT X
  exact ⟨t, X.lremZero hexec (g := F0 m pc ls (.long b :: .long a :: rest)) rfl (a := a) (rest := rest) (by rw [h0]) (by rw [hb]; exact d) t st, q⟩
theorem vx_ialdZ {D : va_G} {cl : List vw_C} {ws : va_W} {tys : List (ClassId × FieldType)} {a : Nat} (hexec : p.tables.exec = Jvm.exec) (hb : c.code = cc) (hK : va_K D cl tys s) (hP : va_P D cl ws H) (q0 t0 : Nat) {cA : ClassId} {n : Nat} {f : Nat → Int32} (ha : ws[q0]? = some (a, .inl (cA, n, .inl f))) (ht : tys[t0]? = some (cA, .int)) {i : Int32} (hout : ¬ vp_in i n) (hdg : decode cc pc = .ok (.iaload, 1))
    (k : ∀ tx : String, tx = (toString "Index " ++ toString i ++ toString " out of bounds for length " ++ toString n : String) → vx_Note p l e R s m args below meth c H locs cells slots Q (F0 m pc ls rest) "java/lang/ArrayIndexOutOfBoundsException" tx) : W p l e R s m args below meth c H locs cells slots Q (F0 m pc ls (.int i :: .ref a :: rest)) := by
  intro T hT X
  obtain ⟨t, st, q⟩ := k _ rfl T hT X
  refine ⟨t, ?_, q⟩
  have h1 := X.ialoadOut hexec (by rw [hT]; exact hP q0 _ ha) ((hK.2 t0 _ ht).1 n (fun j => .int (f j))) (j := i) (by show (i < 0 ∨ (arrV _ _ _).slots.size ≤ _); rw [arrV_size]; exact Classical.byContradiction hout) (g := F0 m pc ls (.int i :: .ref a :: rest)) rfl (rest := rest) rfl (by rw [hb]; exact hdg) t
  simp only [arrV_size] at h1
  exact h1 st
theorem vx_iastZ {D : va_G} {cl : List vw_C} {ws : va_W} {tys : List (ClassId × FieldType)} {a : Nat} (hexec : p.tables.exec = Jvm.exec) (hb : c.code = cc) (hK : va_K D cl tys s) (hP : va_P D cl ws H) (q0 t0 : Nat) {cA : ClassId} {n : Nat} {f : Nat → Int32} (ha : ws[q0]? = some (a, .inl (cA, n, .inl f))) (ht : tys[t0]? = some (cA, .int)) {i : Int32} {x : Int32} (hout : ¬ vp_in i n) (hdg : decode cc pc = .ok (.iastore, 1))
    (k : ∀ tx : String, tx = (toString "Index " ++ toString i ++ toString " out of bounds for length " ++ toString n : String) → vx_Note p l e R s m args below meth c H locs cells slots Q (F0 m pc ls rest) "java/lang/ArrayIndexOutOfBoundsException" tx) : W p l e R s m args below meth c H locs cells slots Q (F0 m pc ls (.int x :: .int i :: .ref a :: rest)) := by
  intro T hT X
  obtain ⟨t, st, q⟩ := k _ rfl T hT X
  refine ⟨t, ?_, q⟩
  have h1 := X.iastoreOut hexec (by rw [hT]; exact hP q0 _ ha) ((hK.2 t0 _ ht).1 n (fun j => .int (f j))) (j := i) (by show (i < 0 ∨ (arrV _ _ _).slots.size ≤ _); rw [arrV_size]; exact Classical.byContradiction hout) (g := F0 m pc ls (.int x :: .int i :: .ref a :: rest)) rfl (rest := rest) rfl (by rw [hb]; exact hdg) t
  simp only [arrV_size] at h1
  exact h1 st
theorem vx_baldZ {D : va_G} {cl : List vw_C} {ws : va_W} {tys : List (ClassId × FieldType)} {a : Nat} (hexec : p.tables.exec = Jvm.exec) (hb : c.code = cc) (hK : va_K D cl tys s) (hP : va_P D cl ws H) (q0 t0 : Nat) {cA : ClassId} {n : Nat} {f : Nat → Int32} (ha : ws[q0]? = some (a, .inl (cA, n, .inl f))) (ht : tys[t0]? = some (cA, .byte)) {i : Int32} (hout : ¬ vp_in i n) (hdg : decode cc pc = .ok (.baload, 1))
    (k : ∀ tx : String, tx = (toString "Index " ++ toString i ++ toString " out of bounds for length " ++ toString n : String) → vx_Note p l e R s m args below meth c H locs cells slots Q (F0 m pc ls rest) "java/lang/ArrayIndexOutOfBoundsException" tx) : W p l e R s m args below meth c H locs cells slots Q (F0 m pc ls (.int i :: .ref a :: rest)) := by
  intro T hT X
  obtain ⟨t, st, q⟩ := k _ rfl T hT X
  refine ⟨t, ?_, q⟩
  have h1 := X.baloadOut hexec (by rw [hT]; exact hP q0 _ ha) ((hK.2 t0 _ ht).1 n (fun j => .int (f j))) (j := i) (by show (i < 0 ∨ (arrV _ _ _).slots.size ≤ _); rw [arrV_size]; exact Classical.byContradiction hout) (g := F0 m pc ls (.int i :: .ref a :: rest)) rfl (rest := rest) rfl (by rw [hb]; exact hdg) t
  simp only [arrV_size] at h1
  exact h1 st
theorem vx_bastZ {D : va_G} {cl : List vw_C} {ws : va_W} {tys : List (ClassId × FieldType)} {a : Nat} (hexec : p.tables.exec = Jvm.exec) (hb : c.code = cc) (hK : va_K D cl tys s) (hP : va_P D cl ws H) (q0 t0 : Nat) {cA : ClassId} {n : Nat} {f : Nat → Int32} (ha : ws[q0]? = some (a, .inl (cA, n, .inl f))) (ht : tys[t0]? = some (cA, .byte)) {i : Int32} {x : Int32} (hout : ¬ vp_in i n) (hdg : decode cc pc = .ok (.bastore, 1))
    (k : ∀ tx : String, tx = (toString "Index " ++ toString i ++ toString " out of bounds for length " ++ toString n : String) → vx_Note p l e R s m args below meth c H locs cells slots Q (F0 m pc ls rest) "java/lang/ArrayIndexOutOfBoundsException" tx) : W p l e R s m args below meth c H locs cells slots Q (F0 m pc ls (.int x :: .int i :: .ref a :: rest)) := by
  intro T hT X
  obtain ⟨t, st, q⟩ := k _ rfl T hT X
  refine ⟨t, ?_, q⟩
  have h1 := X.bastoreOut hexec (by rw [hT]; exact hP q0 _ ha) ((hK.2 t0 _ ht).1 n (fun j => .int (f j))) (j := i) (by show (i < 0 ∨ (arrV _ _ _).slots.size ≤ _); rw [arrV_size]; exact Classical.byContradiction hout) (g := F0 m pc ls (.int x :: .int i :: .ref a :: rest)) rfl (rest := rest) rfl (by rw [hb]; exact hdg) t
  simp only [arrV_size] at h1
  exact h1 st
theorem vx_zaldZ {D : va_G} {cl : List vw_C} {ws : va_W} {tys : List (ClassId × FieldType)} {a : Nat} (hexec : p.tables.exec = Jvm.exec) (hb : c.code = cc) (hK : va_K D cl tys s) (hP : va_P D cl ws H) (q0 t0 : Nat) {cA : ClassId} {n : Nat} {f : Nat → Int32} (ha : ws[q0]? = some (a, .inl (cA, n, .inl f))) (ht : tys[t0]? = some (cA, .boolean)) {i : Int32} (hout : ¬ vp_in i n) (hdg : decode cc pc = .ok (.baload, 1))
    (k : ∀ tx : String, tx = (toString "Index " ++ toString i ++ toString " out of bounds for length " ++ toString n : String) → vx_Note p l e R s m args below meth c H locs cells slots Q (F0 m pc ls rest) "java/lang/ArrayIndexOutOfBoundsException" tx) : W p l e R s m args below meth c H locs cells slots Q (F0 m pc ls (.int i :: .ref a :: rest)) := by
  intro T hT X
  obtain ⟨t, st, q⟩ := k _ rfl T hT X
  refine ⟨t, ?_, q⟩
  have h1 := X.baloadOut hexec (by rw [hT]; exact hP q0 _ ha) ((hK.2 t0 _ ht).1 n (fun j => .int (f j))) (j := i) (by show (i < 0 ∨ (arrV _ _ _).slots.size ≤ _); rw [arrV_size]; exact Classical.byContradiction hout) (g := F0 m pc ls (.int i :: .ref a :: rest)) rfl (rest := rest) rfl (by rw [hb]; exact hdg) t
  simp only [arrV_size] at h1
  exact h1 st
theorem vx_zastZ {D : va_G} {cl : List vw_C} {ws : va_W} {tys : List (ClassId × FieldType)} {a : Nat} (hexec : p.tables.exec = Jvm.exec) (hb : c.code = cc) (hK : va_K D cl tys s) (hP : va_P D cl ws H) (q0 t0 : Nat) {cA : ClassId} {n : Nat} {f : Nat → Int32} (ha : ws[q0]? = some (a, .inl (cA, n, .inl f))) (ht : tys[t0]? = some (cA, .boolean)) {i : Int32} {x : Int32} (hout : ¬ vp_in i n) (hdg : decode cc pc = .ok (.bastore, 1))
    (k : ∀ tx : String, tx = (toString "Index " ++ toString i ++ toString " out of bounds for length " ++ toString n : String) → vx_Note p l e R s m args below meth c H locs cells slots Q (F0 m pc ls rest) "java/lang/ArrayIndexOutOfBoundsException" tx) : W p l e R s m args below meth c H locs cells slots Q (F0 m pc ls (.int x :: .int i :: .ref a :: rest)) := by
  intro T hT X
  obtain ⟨t, st, q⟩ := k _ rfl T hT X
  refine ⟨t, ?_, q⟩
  have h1 := X.bastoreOut hexec (by rw [hT]; exact hP q0 _ ha) ((hK.2 t0 _ ht).1 n (fun j => .int (f j))) (j := i) (by show (i < 0 ∨ (arrV _ _ _).slots.size ≤ _); rw [arrV_size]; exact Classical.byContradiction hout) (g := F0 m pc ls (.int x :: .int i :: .ref a :: rest)) rfl (rest := rest) rfl (by rw [hb]; exact hdg) t
  simp only [arrV_size] at h1
  exact h1 st
theorem vx_caldZ {D : va_G} {cl : List vw_C} {ws : va_W} {tys : List (ClassId × FieldType)} {a : Nat} (hexec : p.tables.exec = Jvm.exec) (hb : c.code = cc) (hK : va_K D cl tys s) (hP : va_P D cl ws H) (q0 t0 : Nat) {cA : ClassId} {n : Nat} {f : Nat → Int32} (ha : ws[q0]? = some (a, .inl (cA, n, .inl f))) (ht : tys[t0]? = some (cA, .char)) {i : Int32} (hout : ¬ vp_in i n) (hdg : decode cc pc = .ok (.caload, 1))
    (k : ∀ tx : String, tx = (toString "Index " ++ toString i ++ toString " out of bounds for length " ++ toString n : String) → vx_Note p l e R s m args below meth c H locs cells slots Q (F0 m pc ls rest) "java/lang/ArrayIndexOutOfBoundsException" tx) : W p l e R s m args below meth c H locs cells slots Q (F0 m pc ls (.int i :: .ref a :: rest)) := by
  intro T hT X
  obtain ⟨t, st, q⟩ := k _ rfl T hT X
  refine ⟨t, ?_, q⟩
  have h1 := X.caloadOut hexec (by rw [hT]; exact hP q0 _ ha) ((hK.2 t0 _ ht).1 n (fun j => .int (f j))) (j := i) (by show (i < 0 ∨ (arrV _ _ _).slots.size ≤ _); rw [arrV_size]; exact Classical.byContradiction hout) (g := F0 m pc ls (.int i :: .ref a :: rest)) rfl (rest := rest) rfl (by rw [hb]; exact hdg) t
  simp only [arrV_size] at h1
  exact h1 st
theorem vx_castZ {D : va_G} {cl : List vw_C} {ws : va_W} {tys : List (ClassId × FieldType)} {a : Nat} (hexec : p.tables.exec = Jvm.exec) (hb : c.code = cc) (hK : va_K D cl tys s) (hP : va_P D cl ws H) (q0 t0 : Nat) {cA : ClassId} {n : Nat} {f : Nat → Int32} (ha : ws[q0]? = some (a, .inl (cA, n, .inl f))) (ht : tys[t0]? = some (cA, .char)) {i : Int32} {x : Int32} (hout : ¬ vp_in i n) (hdg : decode cc pc = .ok (.castore, 1))
    (k : ∀ tx : String, tx = (toString "Index " ++ toString i ++ toString " out of bounds for length " ++ toString n : String) → vx_Note p l e R s m args below meth c H locs cells slots Q (F0 m pc ls rest) "java/lang/ArrayIndexOutOfBoundsException" tx) : W p l e R s m args below meth c H locs cells slots Q (F0 m pc ls (.int x :: .int i :: .ref a :: rest)) := by
  intro T hT X
  obtain ⟨t, st, q⟩ := k _ rfl T hT X
  refine ⟨t, ?_, q⟩
  have h1 := X.castoreOut hexec (by rw [hT]; exact hP q0 _ ha) ((hK.2 t0 _ ht).1 n (fun j => .int (f j))) (j := i) (by show (i < 0 ∨ (arrV _ _ _).slots.size ≤ _); rw [arrV_size]; exact Classical.byContradiction hout) (g := F0 m pc ls (.int x :: .int i :: .ref a :: rest)) rfl (rest := rest) rfl (by rw [hb]; exact hdg) t
  simp only [arrV_size] at h1
  exact h1 st
theorem vx_saldZ {D : va_G} {cl : List vw_C} {ws : va_W} {tys : List (ClassId × FieldType)} {a : Nat} (hexec : p.tables.exec = Jvm.exec) (hb : c.code = cc) (hK : va_K D cl tys s) (hP : va_P D cl ws H) (q0 t0 : Nat) {cA : ClassId} {n : Nat} {f : Nat → Int32} (ha : ws[q0]? = some (a, .inl (cA, n, .inl f))) (ht : tys[t0]? = some (cA, .short)) {i : Int32} (hout : ¬ vp_in i n) (hdg : decode cc pc = .ok (.saload, 1))
    (k : ∀ tx : String, tx = (toString "Index " ++ toString i ++ toString " out of bounds for length " ++ toString n : String) → vx_Note p l e R s m args below meth c H locs cells slots Q (F0 m pc ls rest) "java/lang/ArrayIndexOutOfBoundsException" tx) : W p l e R s m args below meth c H locs cells slots Q (F0 m pc ls (.int i :: .ref a :: rest)) := by
  intro T hT X
  obtain ⟨t, st, q⟩ := k _ rfl T hT X
  refine ⟨t, ?_, q⟩
  have h1 := X.saloadOut hexec (by rw [hT]; exact hP q0 _ ha) ((hK.2 t0 _ ht).1 n (fun j => .int (f j))) (j := i) (by show (i < 0 ∨ (arrV _ _ _).slots.size ≤ _); rw [arrV_size]; exact Classical.byContradiction hout) (g := F0 m pc ls (.int i :: .ref a :: rest)) rfl (rest := rest) rfl (by rw [hb]; exact hdg) t
  simp only [arrV_size] at h1
  exact h1 st
theorem vx_sastZ {D : va_G} {cl : List vw_C} {ws : va_W} {tys : List (ClassId × FieldType)} {a : Nat} (hexec : p.tables.exec = Jvm.exec) (hb : c.code = cc) (hK : va_K D cl tys s) (hP : va_P D cl ws H) (q0 t0 : Nat) {cA : ClassId} {n : Nat} {f : Nat → Int32} (ha : ws[q0]? = some (a, .inl (cA, n, .inl f))) (ht : tys[t0]? = some (cA, .short)) {i : Int32} {x : Int32} (hout : ¬ vp_in i n) (hdg : decode cc pc = .ok (.sastore, 1))
    (k : ∀ tx : String, tx = (toString "Index " ++ toString i ++ toString " out of bounds for length " ++ toString n : String) → vx_Note p l e R s m args below meth c H locs cells slots Q (F0 m pc ls rest) "java/lang/ArrayIndexOutOfBoundsException" tx) : W p l e R s m args below meth c H locs cells slots Q (F0 m pc ls (.int x :: .int i :: .ref a :: rest)) := by
  intro T hT X
  obtain ⟨t, st, q⟩ := k _ rfl T hT X
  refine ⟨t, ?_, q⟩
  have h1 := X.sastoreOut hexec (by rw [hT]; exact hP q0 _ ha) ((hK.2 t0 _ ht).1 n (fun j => .int (f j))) (j := i) (by show (i < 0 ∨ (arrV _ _ _).slots.size ≤ _); rw [arrV_size]; exact Classical.byContradiction hout) (g := F0 m pc ls (.int x :: .int i :: .ref a :: rest)) rfl (rest := rest) rfl (by rw [hb]; exact hdg) t
  simp only [arrV_size] at h1
  exact h1 st
theorem vx_laldZ {D : va_G} {cl : List vw_C} {ws : va_W} {tys : List (ClassId × FieldType)} {a : Nat} (hexec : p.tables.exec = Jvm.exec) (hb : c.code = cc) (hK : va_K D cl tys s) (hP : va_P D cl ws H) (q0 t0 : Nat) {cA : ClassId} {n : Nat} {f : Nat → Int64} (ha : ws[q0]? = some (a, .inl (cA, n, .inr (.inl f)))) (ht : tys[t0]? = some (cA, .long)) {i : Int32} (hout : ¬ vp_in i n) (hdg : decode cc pc = .ok (.laload, 1))
    (k : ∀ tx : String, tx = (toString "Index " ++ toString i ++ toString " out of bounds for length " ++ toString n : String) → vx_Note p l e R s m args below meth c H locs cells slots Q (F0 m pc ls rest) "java/lang/ArrayIndexOutOfBoundsException" tx) : W p l e R s m args below meth c H locs cells slots Q (F0 m pc ls (.int i :: .ref a :: rest)) := by
  intro T hT X
  obtain ⟨t, st, q⟩ := k _ rfl T hT X
  refine ⟨t, ?_, q⟩
  have h1 := X.laloadOut hexec (by rw [hT]; exact hP q0 _ ha) ((hK.2 t0 _ ht).1 n (fun j => .long (f j))) (j := i) (by show (i < 0 ∨ (arrV _ _ _).slots.size ≤ _); rw [arrV_size]; exact Classical.byContradiction hout) (g := F0 m pc ls (.int i :: .ref a :: rest)) rfl (rest := rest) rfl (by rw [hb]; exact hdg) t
  simp only [arrV_size] at h1
  exact h1 st
theorem vx_lastZ {D : va_G} {cl : List vw_C} {ws : va_W} {tys : List (ClassId × FieldType)} {a : Nat} (hexec : p.tables.exec = Jvm.exec) (hb : c.code = cc) (hK : va_K D cl tys s) (hP : va_P D cl ws H) (q0 t0 : Nat) {cA : ClassId} {n : Nat} {f : Nat → Int64} (ha : ws[q0]? = some (a, .inl (cA, n, .inr (.inl f)))) (ht : tys[t0]? = some (cA, .long)) {i : Int32} {x : Int64} (hout : ¬ vp_in i n) (hdg : decode cc pc = .ok (.lastore, 1))
    (k : ∀ tx : String, tx = (toString "Index " ++ toString i ++ toString " out of bounds for length " ++ toString n : String) → vx_Note p l e R s m args below meth c H locs cells slots Q (F0 m pc ls rest) "java/lang/ArrayIndexOutOfBoundsException" tx) : W p l e R s m args below meth c H locs cells slots Q (F0 m pc ls (.long x :: .int i :: .ref a :: rest)) := by
  intro T hT X
  obtain ⟨t, st, q⟩ := k _ rfl T hT X
  refine ⟨t, ?_, q⟩
  have h1 := X.lastoreOut hexec (by rw [hT]; exact hP q0 _ ha) ((hK.2 t0 _ ht).1 n (fun j => .long (f j))) (j := i) (by show (i < 0 ∨ (arrV _ _ _).slots.size ≤ _); rw [arrV_size]; exact Classical.byContradiction hout) (g := F0 m pc ls (.long x :: .int i :: .ref a :: rest)) rfl (rest := rest) rfl (by rw [hb]; exact hdg) t
  simp only [arrV_size] at h1
  exact h1 st
theorem vx_faldZ {D : va_G} {cl : List vw_C} {ws : va_W} {tys : List (ClassId × FieldType)} {a : Nat} (hexec : p.tables.exec = Jvm.exec) (hb : c.code = cc) (hK : va_K D cl tys s) (hP : va_P D cl ws H) (q0 t0 : Nat) {cA : ClassId} {n : Nat} {f : Nat → UInt32} (ha : ws[q0]? = some (a, .inl (cA, n, .inr (.inr (.inl f))))) (ht : tys[t0]? = some (cA, .float)) {i : Int32} (hout : ¬ vp_in i n) (hdg : decode cc pc = .ok (.faload, 1))
    (k : ∀ tx : String, tx = (toString "Index " ++ toString i ++ toString " out of bounds for length " ++ toString n : String) → vx_Note p l e R s m args below meth c H locs cells slots Q (F0 m pc ls rest) "java/lang/ArrayIndexOutOfBoundsException" tx) : W p l e R s m args below meth c H locs cells slots Q (F0 m pc ls (.int i :: .ref a :: rest)) := by
  intro T hT X
  obtain ⟨t, st, q⟩ := k _ rfl T hT X
  refine ⟨t, ?_, q⟩
  have h1 := X.faloadOut hexec (by rw [hT]; exact hP q0 _ ha) ((hK.2 t0 _ ht).1 n (fun j => .float (f j))) (j := i) (by show (i < 0 ∨ (arrV _ _ _).slots.size ≤ _); rw [arrV_size]; exact Classical.byContradiction hout) (g := F0 m pc ls (.int i :: .ref a :: rest)) rfl (rest := rest) rfl (by rw [hb]; exact hdg) t
  simp only [arrV_size] at h1
  exact h1 st
theorem vx_fastZ {D : va_G} {cl : List vw_C} {ws : va_W} {tys : List (ClassId × FieldType)} {a : Nat} (hexec : p.tables.exec = Jvm.exec) (hb : c.code = cc) (hK : va_K D cl tys s) (hP : va_P D cl ws H) (q0 t0 : Nat) {cA : ClassId} {n : Nat} {f : Nat → UInt32} (ha : ws[q0]? = some (a, .inl (cA, n, .inr (.inr (.inl f))))) (ht : tys[t0]? = some (cA, .float)) {i : Int32} {x : UInt32} (hout : ¬ vp_in i n) (hdg : decode cc pc = .ok (.fastore, 1))
    (k : ∀ tx : String, tx = (toString "Index " ++ toString i ++ toString " out of bounds for length " ++ toString n : String) → vx_Note p l e R s m args below meth c H locs cells slots Q (F0 m pc ls rest) "java/lang/ArrayIndexOutOfBoundsException" tx) : W p l e R s m args below meth c H locs cells slots Q (F0 m pc ls (.float x :: .int i :: .ref a :: rest)) := by
  intro T hT X
  obtain ⟨t, st, q⟩ := k _ rfl T hT X
  refine ⟨t, ?_, q⟩
  have h1 := X.fastoreOut hexec (by rw [hT]; exact hP q0 _ ha) ((hK.2 t0 _ ht).1 n (fun j => .float (f j))) (j := i) (by show (i < 0 ∨ (arrV _ _ _).slots.size ≤ _); rw [arrV_size]; exact Classical.byContradiction hout) (g := F0 m pc ls (.float x :: .int i :: .ref a :: rest)) rfl (rest := rest) rfl (by rw [hb]; exact hdg) t
  simp only [arrV_size] at h1
  exact h1 st
theorem vx_daldZ {D : va_G} {cl : List vw_C} {ws : va_W} {tys : List (ClassId × FieldType)} {a : Nat} (hexec : p.tables.exec = Jvm.exec) (hb : c.code = cc) (hK : va_K D cl tys s) (hP : va_P D cl ws H) (q0 t0 : Nat) {cA : ClassId} {n : Nat} {f : Nat → UInt64} (ha : ws[q0]? = some (a, .inl (cA, n, .inr (.inr (.inr (.inl f)))))) (ht : tys[t0]? = some (cA, .double)) {i : Int32} (hout : ¬ vp_in i n) (hdg : decode cc pc = .ok (.daload, 1))
    (k : ∀ tx : String, tx = (toString "Index " ++ toString i ++ toString " out of bounds for length " ++ toString n : String) → vx_Note p l e R s m args below meth c H locs cells slots Q (F0 m pc ls rest) "java/lang/ArrayIndexOutOfBoundsException" tx) : W p l e R s m args below meth c H locs cells slots Q (F0 m pc ls (.int i :: .ref a :: rest)) := by
  intro T hT X
  obtain ⟨t, st, q⟩ := k _ rfl T hT X
  refine ⟨t, ?_, q⟩
  have h1 := X.daloadOut hexec (by rw [hT]; exact hP q0 _ ha) ((hK.2 t0 _ ht).1 n (fun j => .double (f j))) (j := i) (by show (i < 0 ∨ (arrV _ _ _).slots.size ≤ _); rw [arrV_size]; exact Classical.byContradiction hout) (g := F0 m pc ls (.int i :: .ref a :: rest)) rfl (rest := rest) rfl (by rw [hb]; exact hdg) t
  simp only [arrV_size] at h1
  exact h1 st
theorem vx_dastZ {D : va_G} {cl : List vw_C} {ws : va_W} {tys : List (ClassId × FieldType)} {a : Nat} (hexec : p.tables.exec = Jvm.exec) (hb : c.code = cc) (hK : va_K D cl tys s) (hP : va_P D cl ws H) (q0 t0 : Nat) {cA : ClassId} {n : Nat} {f : Nat → UInt64} (ha : ws[q0]? = some (a, .inl (cA, n, .inr (.inr (.inr (.inl f)))))) (ht : tys[t0]? = some (cA, .double)) {i : Int32} {x : UInt64} (hout : ¬ vp_in i n) (hdg : decode cc pc = .ok (.dastore, 1))
    (k : ∀ tx : String, tx = (toString "Index " ++ toString i ++ toString " out of bounds for length " ++ toString n : String) → vx_Note p l e R s m args below meth c H locs cells slots Q (F0 m pc ls rest) "java/lang/ArrayIndexOutOfBoundsException" tx) : W p l e R s m args below meth c H locs cells slots Q (F0 m pc ls (.double x :: .int i :: .ref a :: rest)) := by
  intro T hT X
  obtain ⟨t, st, q⟩ := k _ rfl T hT X
  refine ⟨t, ?_, q⟩
  have h1 := X.dastoreOut hexec (by rw [hT]; exact hP q0 _ ha) ((hK.2 t0 _ ht).1 n (fun j => .double (f j))) (j := i) (by show (i < 0 ∨ (arrV _ _ _).slots.size ≤ _); rw [arrV_size]; exact Classical.byContradiction hout) (g := F0 m pc ls (.double x :: .int i :: .ref a :: rest)) rfl (rest := rest) rfl (by rw [hb]; exact hdg) t
  simp only [arrV_size] at h1
  exact h1 st
theorem vx_arraylengthN (hexec : p.tables.exec = Jvm.exec) (hb : c.code = cc) (hdg : decode cc pc = .ok (.arraylength, 1)) (k : vx_NoteN p l e R s m args below meth c H locs cells slots Q (F0 m pc ls rest)) : W p l e R s m args below meth c H locs cells slots Q (F0 m pc ls (.null :: rest)) := by
  intro T hT X
  obtain ⟨t, st, q⟩ := k T hT X
  exact ⟨t, X.arraylengthNull hexec (g := F0 m pc ls (.null :: rest)) rfl (rest := rest) rfl (by rw [hb]; exact hdg) t st, q⟩
theorem vx_ialoadN (hexec : p.tables.exec = Jvm.exec) (hb : c.code = cc) {i : Int32} (hdg : decode cc pc = .ok (.iaload, 1)) (k : vx_NoteN p l e R s m args below meth c H locs cells slots Q (F0 m pc ls rest)) : W p l e R s m args below meth c H locs cells slots Q (F0 m pc ls (.int i :: .null :: rest)) := by
  intro T hT X
  obtain ⟨t, st, q⟩ := k T hT X
  exact ⟨t, X.ialoadNull hexec (g := F0 m pc ls (.int i :: .null :: rest)) rfl (rest := rest) rfl (by rw [hb]; exact hdg) t st, q⟩
theorem vx_laloadN (hexec : p.tables.exec = Jvm.exec) (hb : c.code = cc) {i : Int32} (hdg : decode cc pc = .ok (.laload, 1)) (k : vx_NoteN p l e R s m args below meth c H locs cells slots Q (F0 m pc ls rest)) : W p l e R s m args below meth c H locs cells slots Q (F0 m pc ls (.int i :: .null :: rest)) := by
  intro T hT X
  obtain ⟨t, st, q⟩ := k T hT X
  exact ⟨t, X.laloadNull hexec (g := F0 m pc ls (.int i :: .null :: rest)) rfl (rest := rest) rfl (by rw [hb]; exact hdg) t st, q⟩
theorem vx_faloadN (hexec : p.tables.exec = Jvm.exec) (hb : c.code = cc) {i : Int32} (hdg : decode cc pc = .ok (.faload, 1)) (k : vx_NoteN p l e R s m args below meth c H locs cells slots Q (F0 m pc ls rest)) : W p l e R s m args below meth c H locs cells slots Q (F0 m pc ls (.int i :: .null :: rest)) := by
  intro T hT X
  obtain ⟨t, st, q⟩ := k T hT X
  exact ⟨t, X.faloadNull hexec (g := F0 m pc ls (.int i :: .null :: rest)) rfl (rest := rest) rfl (by rw [hb]; exact hdg) t st, q⟩
theorem vx_daloadN (hexec : p.tables.exec = Jvm.exec) (hb : c.code = cc) {i : Int32} (hdg : decode cc pc = .ok (.daload, 1)) (k : vx_NoteN p l e R s m args below meth c H locs cells slots Q (F0 m pc ls rest)) : W p l e R s m args below meth c H locs cells slots Q (F0 m pc ls (.int i :: .null :: rest)) := by
  intro T hT X
  obtain ⟨t, st, q⟩ := k T hT X
  exact ⟨t, X.daloadNull hexec (g := F0 m pc ls (.int i :: .null :: rest)) rfl (rest := rest) rfl (by rw [hb]; exact hdg) t st, q⟩
theorem vx_aaloadN (hexec : p.tables.exec = Jvm.exec) (hb : c.code = cc) {i : Int32} (hdg : decode cc pc = .ok (.aaload, 1)) (k : vx_NoteN p l e R s m args below meth c H locs cells slots Q (F0 m pc ls rest)) : W p l e R s m args below meth c H locs cells slots Q (F0 m pc ls (.int i :: .null :: rest)) := by
  intro T hT X
  obtain ⟨t, st, q⟩ := k T hT X
  exact ⟨t, X.aaloadNull hexec (g := F0 m pc ls (.int i :: .null :: rest)) rfl (rest := rest) rfl (by rw [hb]; exact hdg) t st, q⟩
theorem vx_baloadN (hexec : p.tables.exec = Jvm.exec) (hb : c.code = cc) {i : Int32} (hdg : decode cc pc = .ok (.baload, 1)) (k : vx_NoteN p l e R s m args below meth c H locs cells slots Q (F0 m pc ls rest)) : W p l e R s m args below meth c H locs cells slots Q (F0 m pc ls (.int i :: .null :: rest)) := by
  intro T hT X
  obtain ⟨t, st, q⟩ := k T hT X
  exact ⟨t, X.baloadNull hexec (g := F0 m pc ls (.int i :: .null :: rest)) rfl (rest := rest) rfl (by rw [hb]; exact hdg) t st, q⟩
theorem vx_caloadN (hexec : p.tables.exec = Jvm.exec) (hb : c.code = cc) {i : Int32} (hdg : decode cc pc = .ok (.caload, 1)) (k : vx_NoteN p l e R s m args below meth c H locs cells slots Q (F0 m pc ls rest)) : W p l e R s m args below meth c H locs cells slots Q (F0 m pc ls (.int i :: .null :: rest)) := by
  intro T hT X
  obtain ⟨t, st, q⟩ := k T hT X
  exact ⟨t, X.caloadNull hexec (g := F0 m pc ls (.int i :: .null :: rest)) rfl (rest := rest) rfl (by rw [hb]; exact hdg) t st, q⟩
theorem vx_saloadN (hexec : p.tables.exec = Jvm.exec) (hb : c.code = cc) {i : Int32} (hdg : decode cc pc = .ok (.saload, 1)) (k : vx_NoteN p l e R s m args below meth c H locs cells slots Q (F0 m pc ls rest)) : W p l e R s m args below meth c H locs cells slots Q (F0 m pc ls (.int i :: .null :: rest)) := by
  intro T hT X
  obtain ⟨t, st, q⟩ := k T hT X
  exact ⟨t, X.saloadNull hexec (g := F0 m pc ls (.int i :: .null :: rest)) rfl (rest := rest) rfl (by rw [hb]; exact hdg) t st, q⟩
theorem vx_iastoreN (hexec : p.tables.exec = Jvm.exec) (hb : c.code = cc) {x : Int32} {i : Int32} (hdg : decode cc pc = .ok (.iastore, 1)) (k : vx_NoteN p l e R s m args below meth c H locs cells slots Q (F0 m pc ls rest)) : W p l e R s m args below meth c H locs cells slots Q (F0 m pc ls (.int x :: .int i :: .null :: rest)) := by
  intro T hT X
  obtain ⟨t, st, q⟩ := k T hT X
  exact ⟨t, X.iastoreNull hexec (g := F0 m pc ls (.int x :: .int i :: .null :: rest)) rfl (rest := rest) rfl (by rw [hb]; exact hdg) t st, q⟩
theorem vx_lastoreN (hexec : p.tables.exec = Jvm.exec) (hb : c.code = cc) {x : Int64} {i : Int32} (hdg : decode cc pc = .ok (.lastore, 1)) (k : vx_NoteN p l e R s m args below meth c H locs cells slots Q (F0 m pc ls rest)) : W p l e R s m args below meth c H locs cells slots Q (F0 m pc ls (.long x :: .int i :: .null :: rest)) := by
  intro T hT X
  obtain ⟨t, st, q⟩ := k T hT X
  exact ⟨t, X.lastoreNull hexec (g := F0 m pc ls (.long x :: .int i :: .null :: rest)) rfl (rest := rest) rfl (by rw [hb]; exact hdg) t st, q⟩
theorem vx_fastoreN (hexec : p.tables.exec = Jvm.exec) (hb : c.code = cc) {x : UInt32} {i : Int32} (hdg : decode cc pc = .ok (.fastore, 1)) (k : vx_NoteN p l e R s m args below meth c H locs cells slots Q (F0 m pc ls rest)) : W p l e R s m args below meth c H locs cells slots Q (F0 m pc ls (.float x :: .int i :: .null :: rest)) := by
  intro T hT X
  obtain ⟨t, st, q⟩ := k T hT X
  exact ⟨t, X.fastoreNull hexec (g := F0 m pc ls (.float x :: .int i :: .null :: rest)) rfl (rest := rest) rfl (by rw [hb]; exact hdg) t st, q⟩
theorem vx_dastoreN (hexec : p.tables.exec = Jvm.exec) (hb : c.code = cc) {x : UInt64} {i : Int32} (hdg : decode cc pc = .ok (.dastore, 1)) (k : vx_NoteN p l e R s m args below meth c H locs cells slots Q (F0 m pc ls rest)) : W p l e R s m args below meth c H locs cells slots Q (F0 m pc ls (.double x :: .int i :: .null :: rest)) := by
  intro T hT X
  obtain ⟨t, st, q⟩ := k T hT X
  exact ⟨t, X.dastoreNull hexec (g := F0 m pc ls (.double x :: .int i :: .null :: rest)) rfl (rest := rest) rfl (by rw [hb]; exact hdg) t st, q⟩
theorem vx_bastoreN (hexec : p.tables.exec = Jvm.exec) (hb : c.code = cc) {x : Int32} {i : Int32} (hdg : decode cc pc = .ok (.bastore, 1)) (k : vx_NoteN p l e R s m args below meth c H locs cells slots Q (F0 m pc ls rest)) : W p l e R s m args below meth c H locs cells slots Q (F0 m pc ls (.int x :: .int i :: .null :: rest)) := by
  intro T hT X
  obtain ⟨t, st, q⟩ := k T hT X
  exact ⟨t, X.bastoreNull hexec (g := F0 m pc ls (.int x :: .int i :: .null :: rest)) rfl (rest := rest) rfl (by rw [hb]; exact hdg) t st, q⟩
theorem vx_castoreN (hexec : p.tables.exec = Jvm.exec) (hb : c.code = cc) {x : Int32} {i : Int32} (hdg : decode cc pc = .ok (.castore, 1)) (k : vx_NoteN p l e R s m args below meth c H locs cells slots Q (F0 m pc ls rest)) : W p l e R s m args below meth c H locs cells slots Q (F0 m pc ls (.int x :: .int i :: .null :: rest)) := by
  intro T hT X
  obtain ⟨t, st, q⟩ := k T hT X
  exact ⟨t, X.castoreNull hexec (g := F0 m pc ls (.int x :: .int i :: .null :: rest)) rfl (rest := rest) rfl (by rw [hb]; exact hdg) t st, q⟩
theorem vx_sastoreN (hexec : p.tables.exec = Jvm.exec) (hb : c.code = cc) {x : Int32} {i : Int32} (hdg : decode cc pc = .ok (.sastore, 1)) (k : vx_NoteN p l e R s m args below meth c H locs cells slots Q (F0 m pc ls rest)) : W p l e R s m args below meth c H locs cells slots Q (F0 m pc ls (.int x :: .int i :: .null :: rest)) := by
  intro T hT X
  obtain ⟨t, st, q⟩ := k T hT X
  exact ⟨t, X.sastoreNull hexec (g := F0 m pc ls (.int x :: .int i :: .null :: rest)) rfl (rest := rest) rfl (by rw [hb]; exact hdg) t st, q⟩
theorem vx_invokeN {own C : String} {index maxL : Nat} {y : MethodName} {bytes : ByteArray} {ret : Option FieldType} (hexec : p.tables.exec = Jvm.exec) (hb : c.code = cc) (hown : s.vm.findClass own = some m.cls) (hlink : (Cond.methodLink own index y).before args s = true) (hinst : (Cond.instanceMethod y).before args s = true) (hcode : (Cond.code y bytes maxL ret).before args s = true) (hsel : (Cond.selects C y y).before args s = true)
    (hx : y.cls ≠ "java/lang/invoke/MethodHandle" ∧ y.cls ≠ "java/lang/invoke/VarHandle") {As : List Value} (hlen : (parseMethodDescriptor y.desc).map (fun d => d.parameters.length) = some As.length) (hdg : decode cc pc = .ok (.invokevirtual index, 3))
    (k : vx_NoteN p l e R s m args below meth c H locs cells slots Q (F0 m pc ls rest)) {st0 : List Value} (hst : st0 = As.reverse ++ .null :: rest) : W p l e R s m args below meth c H locs cells slots Q (F0 m pc ls st0) := by
  intro T hT X
  obtain ⟨r0, r, hn, hrm, hstR, hsigR⟩ := va_Decl.of hinst hcode
  obtain ⟨c2, r2, m2, q1, q2, q3, q4, kP, hkP, hkPi⟩ := Cond.selects_spec hsel
  cases hn.symm.trans q3
  have hl9 : As.length = r.sig.parameters.length := by
    rw [hsigR] at hlen
    exact (Option.some.inj hlen).symm
  obtain ⟨vm', X1, st1⟩ := X.invokevirtualNull hexec hown hlink hn hrm hstR hkP hkPi hx (g := F0 m pc ls st0) rfl (argsL := As) (rest := rest) hl9 hst (by rw [hb]; exact hdg)
  obtain ⟨t, st, q⟩ := k (T.setVm vm') hT X1
  exact ⟨t, st1 t st, q⟩
theorem vx_newarrayZ {atype : ArrayType} (hexec : p.tables.exec = Jvm.exec) (hb : c.code = cc) {n : Int32} (h0 : n < 0) (hdg : decode cc pc = .ok (.newarray atype, 2)) (k : ∀ tx : String, tx = toString n → vx_Note p l e R s m args below meth c H locs cells slots Q (F0 m pc ls rest) "java/lang/NegativeArraySizeException" tx) : W p l e R s m args below meth c H locs cells slots Q (F0 m pc ls (.int n :: rest)) := by
  intro T hT X
  obtain ⟨t, st, q⟩ := k _ rfl T hT X
  exact ⟨t, X.newarrayNegative hexec (g := F0 m pc ls (.int n :: rest)) rfl h0 (rest := rest) rfl (by rw [hb]; exact hdg) t st, q⟩
end
end VXM
/-! ===== END ===== -/
/-! ===== BEGIN an exception as an object: made, kept, thrown later (no traces kept) ===== -/
section VXK
variable {p : Program} {l : Launch} {e : Env} {R : Room} {s : State} {m₀ : MethodId} {args : Array Value} {below : List Frame} {meth : Method} {c : Code} {W : State} {locs : List Loc} {cells slots : Nat}
set_option maxHeartbeats 1000000 in
theorem vx_ctorMadeS (X : Stand p l e R s m₀ args below meth c W locs cells slots) (hexec : p.tables.exec = Jvm.exec) (htr : e.platform.stackTraces = false) {own cls : String} {names : List String} {ic : Nat}
    (hown : s.vm.findClass own = some m₀.cls) (hcls : Bundle.fit cls = true) (hnames : ∀ n ∈ names, Bundle.fit n = true)
    (h : ∀ a ∈ Bundle.ownAtoms own ic cls names, a.before args s = true)
    (hlocs : ∀ x ∈ locs, ∀ cell, s.heap[x.base]? = some cell → cell.vm.isStatics = false)
    {a : Addr} {cX : ClassId} {kX : Class} (hfoundX : s.vm.findClass cls = some cX) (hkX : s.vm.classes[cX]? = some kX) (hcell : W.heap[a]? = some (freshCell cX kX)) (hnew : s.heap.size ≤ a)
    {msg : Value} (hmsg : msg.isRef = true)
    {g : JFrame} (hg : g.method = m₀) (hsize : g.locals.size = c.maxLocals) {rest : List Value} (hstack : g.stack = msg :: .ref a :: .ref a :: rest)
    (hd6 : decode c.code g.pc = .ok (.invokespecial ic, 3))
    (hRframes : names.length + 3 < R.frames) (hRlocals : 2 * g.monitorRoom + ((Value.ref a :: rest).map fun v => v.category).sum + (13 * (names.length + 1) + 42) ≤ R.locals) :
    ∃ (V : State) (ce : Cell) (L : List Loc), Stand p l e R s m₀ args below meth c (V.setCell a ce) (locs ++ L) cells slots ∧ (∀ y ∈ L, y.base = a) ∧ a < V.heap.size ∧ ce.cls = cX ∧ ce.vm = .none ∧
      ∀ target, Steps p.tables e below ((V.setCell a ce).setTop { g with stack := .ref a :: rest, pc := g.pc + 3 }) target → Steps p.tables e below (W.setTop g) target := by
  have howns : e.platform.frameOwnsMonitors = true := by rw [X.admits.platform]
  have hfin : e.platform.finalization = false := by rw [X.admits.platform]
  have hpl : e.platform.magicAccessors = ({} : Platform).magicAccessors := by rw [X.admits.platform]
  have a' : ∀ x, x ∈ Bundle.ownAtoms own ic cls names → x.holds args s none s [] = true := fun x hx => h x hx
  obtain ⟨T, Z0, L, -, Y⟩ := ThrowableC.of_atoms (args := args) howns hfin hpl (fun x hx => h x (by simp [Bundle.ownAtoms, hx]))
  obtain ⟨Z, M, LZ, LM, hnZ⟩ := Init0T.ofS_atoms (args := args) hpl L Y (fun x hx => h x (by simp [Bundle.ownAtoms, hx]))
  obtain ⟨P1, Ps, hlen, L1, hL, hP1m, hlink1, hlink⟩ := Bundle.chainS (args := args) hpl hnZ names cls hcls hnames (fun x hx => h x (by simp [Bundle.ownAtoms, hx]))
  have hfound : s.vm.findClass cls = some P1.m.cls := findClass_of_methodNamed hP1m
  cases Option.some.inj (hfoundX.symm.trans hfound)
  obtain ⟨c1, kX', hc1, hk, hord, -, -, hn6⟩ := Cond.instantiable_spec (a' (.instantiable cls 6) (by simp [Bundle.ownAtoms]))
  cases Option.some.inj (hc1.symm.trans hfound)
  cases Option.some.inj (hkX.symm.trans hk)
  have hsel0 : selectMethod e.platform s.vm P1.m.cls T.fill0 = .method T.fill0 := by
    obtain ⟨c2, r2, m2, q1, q2, q3, q4, -⟩ := Cond.selects_spec (a' (.selects cls Bundle.tFill0 Bundle.tFill0) (by simp [Bundle.ownAtoms]))
    cases Option.some.inj (q1.symm.trans hfound)
    cases Option.some.inj (q2.symm.trans (State.methodFound?_of_named Y.fill0 (by decide)))
    cases Option.some.inj (q3.symm.trans Y.fill0)
    rw [Launch.admits_selectMethod X.admits]; exact q4
  have hselF : selectMethod e.platform s.vm P1.m.cls T.fill = .method T.fill := by
    obtain ⟨c2, r2, m2, q1, q2, q3, q4, -⟩ := Cond.selects_spec (a' (.selects cls Bundle.tFill Bundle.tFill) (by simp [Bundle.ownAtoms]))
    cases Option.some.inj (q1.symm.trans hfound)
    cases Option.some.inj (q2.symm.trans (State.methodFound?_of_named Y.fill (by decide)))
    cases Option.some.inj (q3.symm.trans Y.fill)
    rw [Launch.admits_selectMethod X.admits]; exact q4
  obtain ⟨cellS0, hcS0, hiss⟩ := Y.statics
  obtain ⟨u0, hu0⟩ := Cond.staticRefV Y.unassigned L.unassignedStatic L.statics hcS0 hiss (a' (.isRef (.static Bundle.tN "UNASSIGNED_STACK" Bundle.steD)) (by simp [Bundle.ownAtoms]))
  obtain ⟨sen, hsen⟩ := Cond.staticRefV Y.sentinel L.sentinelStatic L.statics hcS0 hiss (a' (.isRef (.static Bundle.tN "SUPPRESSED_SENTINEL" Bundle.listD)) (by simp [Bundle.ownAtoms]))
  obtain ⟨ci198, i198, fB, hk198, hg198, ha198, hsB, -, hnB, htB, hffB⟩ := Cond.ownField (t := .object "java/lang/Object") Y.found L.cls (by decide +kernel) (a' (.fieldLink Bundle.tN 198 Bundle.tN "backtrace" "Ljava/lang/Object;") (by simp [Bundle.ownAtoms])) (a' (.lays Bundle.tN Bundle.tN "backtrace" "Ljava/lang/Object;") (by simp [Bundle.ownAtoms])) e.platform hpl
  obtain ⟨cellS, hcS', heS, -, hkeep⟩ := X.same.2.2.2.2.2 T.aS cellS0 hcS0
  have hcellS : W.heap[T.aS]? = some cellS := hcS'
  have hout' : ∀ i, (⟨T.aS, i⟩ : Loc) ∉ locs := fun i hmem => by
    have := hlocs _ hmem cellS0 hcS0
    rw [hiss] at this; cases this
  have hknownS : cellS.vm ≠ .unknown := by
    rw [heS]; intro hu
    rw [show cellS0.vm = .unknown from hu] at hiss
    cases hiss
  have hneS : T.aS ≠ a := Nat.ne_of_lt (Nat.lt_of_lt_of_le (Array.getElem?_eq_some_iff.mp hcS0).1 hnew)
  obtain ⟨iM, hffM⟩ := Y.msg
  obtain ⟨tyC, dC, hdC, hdnC⟩ := Cond.laysAt hfound hk Y.cause (a' (.lays cls Bundle.tN "cause" "Ljava/lang/Throwable;") (by simp [Bundle.ownAtoms]))
  obtain ⟨tyS, dS, hdS, hdnS⟩ := Cond.laysAt hfound hk Y.stack (a' (.lays cls Bundle.tN "stackTrace" Bundle.steD) (by simp [Bundle.ownAtoms]))
  obtain ⟨tyP, dP, hdP, hdnP⟩ := Cond.laysAt hfound hk Y.supp (a' (.lays cls Bundle.tN "suppressedExceptions" Bundle.listD) (by simp [Bundle.ownAtoms]))
  obtain ⟨tyM, dM, hdM, hdnM⟩ := Cond.laysAt hfound hk hffM (a' (.lays cls Bundle.tN "detailMessage" "Ljava/lang/String;") (by simp [Bundle.ownAtoms]))
  obtain ⟨tyB, dB, hdB, hdnB⟩ := Cond.laysAt hfound hk hffB (a' (.lays cls Bundle.tN "backtrace" "Ljava/lang/Object;") (by simp [Bundle.ownAtoms]))
  have bC := Cond.laysApart hdB hdC hdnB hdnC (by rw [hnB, Y.causeName]; decide)
  have bS := Cond.laysApart hdB hdS hdnB hdnS (by rw [hnB, Y.stackName]; decide)
  have bP := Cond.laysApart hdB hdP hdnB hdnP (by rw [hnB, Y.suppName]; decide)
  have hskip : SkipFacts T e.platform s (fun u => u) u0 ((preparedCellV T.toThrowableT (freshCell P1.m.cls kX) a u0 sen).withEntry W.cur) :=
    ⟨{ ci198 := ci198, i198 := i198, fBack := fB }, ⟨hk198, hg198, ha198, hsB⟩, by
      have := fresh_default (c := P1.m.cls) tyB
      rw [htB] at this
      simpa [preparedCellV, Cell.setSlot, Cell.withEntry, Array.getElem?_setIfInBounds, bC, bS, bP, bC.symm, bS.symm, bP.symm, defaultValue] using this, fun _ _ => rfl⟩
  obtain ⟨tm, methC, cdC, kC, vm₁, hnC, -, -, -, -, -, -, -, hW₁, st1⟩ := Steps.initColdS (tb := p.tables) (e := e) (below := below) (s := s) (U := W) X.here hexec X.warmed hpl hown (t := Bundle.initS cls) rfl rfl (Bundle.fit_spec hcls).2
    (a' (.methodLink own ic (Bundle.initS cls)) (by simp [Bundle.ownAtoms])) (h (.instanceMethod (Bundle.initS cls)) (by cases names <;> simp [Bundle.ownAtoms, Bundle.chainSAtoms, Bundle.passSAtoms])) (bytes := Bundle.six) (maxL := 2) (h (.code (Bundle.initS cls) Bundle.six 2 none) (by cases names <;> simp [Bundle.ownAtoms, Bundle.chainSAtoms, Bundle.passSAtoms]))
    (f := g) hg (a := a) (msg := msg) (rest := .ref a :: rest) hstack hd6
  cases Option.some.inj (hnC.symm.trans hP1m)
  have X₁ := X.noted hW₁
  obtain ⟨vm₂, X₂, st2⟩ := X₁.ctorMessageOffV hexec (g := { g with stack := .ref a :: rest }) hg hsize T L Z LZ M LM (P1 :: Ps)
    (fun P hP => by rcases List.mem_cons.mp hP with rfl | hP; exact L1; exact hL P hP) ⟨hlink1, hlink⟩ (u0 := u0) (sen := sen) (self := a) hmsg (cell := freshCell P1.m.cls kX) (cellS := cellS)
    hcell (fun _ => by simp) (by simp) rfl rfl hsel0 hselF hcellS hneS hknownS (by rw [hkeep _ (hout' _)]; exact hu0) (by rw [hkeep _ (hout' _)]; exact hsen)
    (Takes.of_laid hk hord tyC (by rw [Y.causeType]; rfl)) (Takes.of_laid hk hord tyS (by rw [Y.stackType]; exact fits_refV_array _ u0)) (Takes.of_laid hk hord tyP (by rw [Y.suppType]; exact fits_refV_object _ sen))
    (Takes.of_laid hk hord tyM (by rw [Y.msgType]; exact fits_refV_object _ ⟨msg, hmsg⟩)) Y.objLocals hskip htr [] hd6
    (by simp only [List.length_cons, hlen]; omega) (by simp only [List.length_cons, hlen]; exact hRlocals)
  have hlt : a < ((W.setVm vm₁).setVm vm₂).heap.size := (Array.getElem?_eq_some_iff.mp hcell).1
  refine ⟨(W.setVm vm₁).setVm vm₂, _, _, X₂, fun y hy => ?_, hlt, rfl, rfl, fun target hwalk => st1 _ (fun acts => ?_)⟩
  · simp only [List.mem_cons, List.not_mem_nil, or_false] at hy
    rcases hy with rfl | rfl | rfl | rfl | rfl <;> rfl
  · rw [doInvoke_state]
    exact st2 _ hwalk
set_option maxHeartbeats 1000000 in
theorem vx_ctorMade0 (X : Stand p l e R s m₀ args below meth c W locs cells slots) (hexec : p.tables.exec = Jvm.exec) (htr : e.platform.stackTraces = false) {own cls : String} {names : List String} {ic : Nat}
    (hown : s.vm.findClass own = some m₀.cls) (hcls : Bundle.fit cls = true) (hnames : ∀ n ∈ names, Bundle.fit n = true)
    (h : ∀ a ∈ Bundle.ownAtoms0 own ic cls names, a.before args s = true)
    (hlocs : ∀ x ∈ locs, ∀ cell, s.heap[x.base]? = some cell → cell.vm.isStatics = false)
    {a : Addr} {cX : ClassId} {kX : Class} (hfoundX : s.vm.findClass cls = some cX) (hkX : s.vm.classes[cX]? = some kX) (hcell : W.heap[a]? = some (freshCell cX kX)) (hnew : s.heap.size ≤ a)
    {g : JFrame} (hg : g.method = m₀) (hsize : g.locals.size = c.maxLocals) {rest : List Value} (hstack : g.stack = .ref a :: .ref a :: rest)
    (hd6 : decode c.code g.pc = .ok (.invokespecial ic, 3))
    (hRframes : names.length + 3 < R.frames) (hRlocals : 2 * g.monitorRoom + ((Value.ref a :: rest).map fun v => v.category).sum + (13 * (names.length + 1) + 41) ≤ R.locals) :
    ∃ (V : State) (ce : Cell) (L : List Loc), Stand p l e R s m₀ args below meth c (V.setCell a ce) (locs ++ L) cells slots ∧ (∀ y ∈ L, y.base = a) ∧ a < V.heap.size ∧ ce.cls = cX ∧ ce.vm = .none ∧
      ∀ target, Steps p.tables e below ((V.setCell a ce).setTop { g with stack := .ref a :: rest, pc := g.pc + 3 }) target → Steps p.tables e below (W.setTop g) target := by
  have howns : e.platform.frameOwnsMonitors = true := by rw [X.admits.platform]
  have hfin : e.platform.finalization = false := by rw [X.admits.platform]
  have hpl : e.platform.magicAccessors = ({} : Platform).magicAccessors := by rw [X.admits.platform]
  have a' : ∀ x, x ∈ Bundle.ownAtoms0 own ic cls names → x.holds args s none s [] = true := fun x hx => h x hx
  obtain ⟨T, Z, L, LZ, Y⟩ := ThrowableC.of_atoms (args := args) howns hfin hpl (fun x hx => h x (by simp [Bundle.ownAtoms0, hx]))
  obtain ⟨P1, Ps, hlen, L1, hL, hP1m, hlink1, hlink⟩ := Bundle.chain0 (args := args) hpl Y.init0 names cls hcls hnames (fun x hx => h x (by simp [Bundle.ownAtoms0, hx]))
  have hfound : s.vm.findClass cls = some P1.m.cls := findClass_of_methodNamed hP1m
  cases Option.some.inj (hfoundX.symm.trans hfound)
  obtain ⟨c1, kX', hc1, hk, hord, -, -, hn6⟩ := Cond.instantiable_spec (a' (.instantiable cls 6) (by simp [Bundle.ownAtoms0]))
  cases Option.some.inj (hc1.symm.trans hfound)
  cases Option.some.inj (hkX.symm.trans hk)
  have hsel0 : selectMethod e.platform s.vm P1.m.cls T.fill0 = .method T.fill0 := by
    obtain ⟨c2, r2, m2, q1, q2, q3, q4, -⟩ := Cond.selects_spec (a' (.selects cls Bundle.tFill0 Bundle.tFill0) (by simp [Bundle.ownAtoms0]))
    cases Option.some.inj (q1.symm.trans hfound)
    cases Option.some.inj (q2.symm.trans (State.methodFound?_of_named Y.fill0 (by decide)))
    cases Option.some.inj (q3.symm.trans Y.fill0)
    rw [Launch.admits_selectMethod X.admits]; exact q4
  have hselF : selectMethod e.platform s.vm P1.m.cls T.fill = .method T.fill := by
    obtain ⟨c2, r2, m2, q1, q2, q3, q4, -⟩ := Cond.selects_spec (a' (.selects cls Bundle.tFill Bundle.tFill) (by simp [Bundle.ownAtoms0]))
    cases Option.some.inj (q1.symm.trans hfound)
    cases Option.some.inj (q2.symm.trans (State.methodFound?_of_named Y.fill (by decide)))
    cases Option.some.inj (q3.symm.trans Y.fill)
    rw [Launch.admits_selectMethod X.admits]; exact q4
  obtain ⟨cellS0, hcS0, hiss⟩ := Y.statics
  obtain ⟨u0, hu0⟩ := Cond.staticRefV Y.unassigned L.unassignedStatic L.statics hcS0 hiss (a' (.isRef (.static Bundle.tN "UNASSIGNED_STACK" Bundle.steD)) (by simp [Bundle.ownAtoms0]))
  obtain ⟨sen, hsen⟩ := Cond.staticRefV Y.sentinel L.sentinelStatic L.statics hcS0 hiss (a' (.isRef (.static Bundle.tN "SUPPRESSED_SENTINEL" Bundle.listD)) (by simp [Bundle.ownAtoms0]))
  obtain ⟨ci198, i198, fB, hk198, hg198, ha198, hsB, -, hnB, htB, hffB⟩ := Cond.ownField (t := .object "java/lang/Object") Y.found L.cls (by decide +kernel) (a' (.fieldLink Bundle.tN 198 Bundle.tN "backtrace" "Ljava/lang/Object;") (by simp [Bundle.ownAtoms0])) (a' (.lays Bundle.tN Bundle.tN "backtrace" "Ljava/lang/Object;") (by simp [Bundle.ownAtoms0])) e.platform hpl
  obtain ⟨cellS, hcS', heS, -, hkeep⟩ := X.same.2.2.2.2.2 T.aS cellS0 hcS0
  have hcellS : W.heap[T.aS]? = some cellS := hcS'
  have hout' : ∀ i, (⟨T.aS, i⟩ : Loc) ∉ locs := fun i hmem => by
    have := hlocs _ hmem cellS0 hcS0
    rw [hiss] at this; cases this
  have hknownS : cellS.vm ≠ .unknown := by
    rw [heS]; intro hu
    rw [show cellS0.vm = .unknown from hu] at hiss
    cases hiss
  have hneS : T.aS ≠ a := Nat.ne_of_lt (Nat.lt_of_lt_of_le (Array.getElem?_eq_some_iff.mp hcS0).1 hnew)
  obtain ⟨iM, hffM⟩ := Y.msg
  obtain ⟨tyC, dC, hdC, hdnC⟩ := Cond.laysAt hfound hk Y.cause (a' (.lays cls Bundle.tN "cause" "Ljava/lang/Throwable;") (by simp [Bundle.ownAtoms0]))
  obtain ⟨tyS, dS, hdS, hdnS⟩ := Cond.laysAt hfound hk Y.stack (a' (.lays cls Bundle.tN "stackTrace" Bundle.steD) (by simp [Bundle.ownAtoms0]))
  obtain ⟨tyP, dP, hdP, hdnP⟩ := Cond.laysAt hfound hk Y.supp (a' (.lays cls Bundle.tN "suppressedExceptions" Bundle.listD) (by simp [Bundle.ownAtoms0]))
  obtain ⟨tyM, dM, hdM, hdnM⟩ := Cond.laysAt hfound hk hffM (a' (.lays cls Bundle.tN "detailMessage" "Ljava/lang/String;") (by simp [Bundle.ownAtoms0]))
  obtain ⟨tyB, dB, hdB, hdnB⟩ := Cond.laysAt hfound hk hffB (a' (.lays cls Bundle.tN "backtrace" "Ljava/lang/Object;") (by simp [Bundle.ownAtoms0]))
  have bC := Cond.laysApart hdB hdC hdnB hdnC (by rw [hnB, Y.causeName]; decide)
  have bS := Cond.laysApart hdB hdS hdnB hdnS (by rw [hnB, Y.stackName]; decide)
  have bP := Cond.laysApart hdB hdP hdnB hdnP (by rw [hnB, Y.suppName]; decide)
  have hskip : SkipFacts T e.platform s (fun u => u) u0 ((preparedCellV T.toThrowableT (freshCell P1.m.cls kX) a u0 sen).withEntry W.cur) :=
    ⟨{ ci198 := ci198, i198 := i198, fBack := fB }, ⟨hk198, hg198, ha198, hsB⟩, by
      have := fresh_default (c := P1.m.cls) tyB
      rw [htB] at this
      simpa [preparedCellV, Cell.setSlot, Cell.withEntry, Array.getElem?_setIfInBounds, bC, bS, bP, bC.symm, bS.symm, bP.symm, defaultValue] using this, fun _ _ => rfl⟩
  obtain ⟨tm, methC, cdC, kC, vm₁, hnC, -, -, -, -, -, -, -, hW₁, st1⟩ := Steps.initCold (tb := p.tables) (e := e) (below := below) (s := s) (U := W) X.here hexec X.warmed hpl hown (t := Bundle.init0 cls) rfl rfl (Bundle.fit_spec hcls).2
    (a' (.methodLink own ic (Bundle.init0 cls)) (by simp [Bundle.ownAtoms0])) (h (.instanceMethod (Bundle.init0 cls)) (by cases names <;> simp [Bundle.ownAtoms0, Bundle.chain0Atoms, Bundle.passAtoms])) (bytes := Bundle.five) (maxL := 1) (h (.code (Bundle.init0 cls) Bundle.five 1 none) (by cases names <;> simp [Bundle.ownAtoms0, Bundle.chain0Atoms, Bundle.passAtoms]))
    (f := g) hg (a := a) (rest := .ref a :: rest) hstack hd6
  cases Option.some.inj (hnC.symm.trans hP1m)
  have X₁ := X.noted hW₁
  obtain ⟨vm₂, X₂, st2⟩ := X₁.ctorPlainOffV hexec (g := { g with stack := .ref a :: rest }) hg hsize T L Z LZ (P1 :: Ps)
    (fun P hP => by rcases List.mem_cons.mp hP with rfl | hP; exact L1; exact hL P hP) ⟨hlink1, hlink⟩ (u0 := u0) (sen := sen) (self := a) (cell := freshCell P1.m.cls kX) (cellS := cellS)
    hcell (fun _ => by simp) (by simp) rfl rfl hsel0 hselF hcellS hneS hknownS (by rw [hkeep _ (hout' _)]; exact hu0) (by rw [hkeep _ (hout' _)]; exact hsen)
    (Takes.of_laid hk hord tyC (by rw [Y.causeType]; rfl)) (Takes.of_laid hk hord tyS (by rw [Y.stackType]; exact fits_refV_array _ u0)) (Takes.of_laid hk hord tyP (by rw [Y.suppType]; exact fits_refV_object _ sen)) Y.objLocals hskip htr [] hd6
    (by simp only [List.length_cons, hlen]; omega) (by simp only [List.length_cons, hlen]; exact hRlocals)
  have hlt : a < ((W.setVm vm₁).setVm vm₂).heap.size := (Array.getElem?_eq_some_iff.mp hcell).1
  refine ⟨(W.setVm vm₁).setVm vm₂, _, _, X₂, fun y hy => ?_, hlt, rfl, rfl, fun target hwalk => st1 _ (fun acts => ?_)⟩
  · simp only [List.mem_cons, List.not_mem_nil, or_false] at hy
    rcases hy with rfl | rfl | rfl | rfl <;> rfl
  · rw [doInvoke_state]
    exact st2 _ hwalk
end VXK
section VXK2
variable {p : Program} {l : Launch} {e : Env} {R : Room} {s : State} {m : MethodId} {args : Array Value} {below : List Frame} {meth : Method} {c : Code} {H : Heap} {locs : List Loc} {cells slots : Nat} {Q : State → Prop}
variable {ls : Array Slot} {rest : List Value} {D : va_G} {cl : List vw_C} {tys : List (ClassId × FieldType)} {ws : va_W}
/-- 'new E("text")' that isn't thrown at once: the object goes on the stack -/
theorem vx_makeS {cc : ByteArray} {pc : Nat} (hexec : p.tables.exec = Jvm.exec) (hb : c.code = cc) (hl : l.stackTraces = false) {own cls text : String} {names : List String} {ik is ic sa ci : Nat} {A : Nat → Prop} {T0 : u_T}
    (hown : s.vm.findClass own = some m.cls) (hcls : Bundle.fit cls = true) (hnames : ∀ n ∈ names, Bundle.fit n = true)
    (hk : (Cond.classLink own ik cls).before args s = true) (hini : (Cond.initialized cls).before args s = true) (hstr : vk_R own is text sa s) (hat : ∀ w ∈ vx_atS own ic cls names, w.before args s = true)
    (hgood : ∀ w ∈ Cond.classLink own ik cls :: Cond.initialized cls :: vx_atS own ic cls names, vx_ot w = true)
    (hU : vx_Zq Bundle.tN "UNASSIGNED_STACK" Bundle.steD A s s.heap) (hN : vx_Zq Bundle.tN "SUPPRESSED_SENTINEL" Bundle.listD A s s.heap) (hS : va_S A s.heap H locs) (hsize : ls.size = c.maxLocals)
    (d0 : decode cc pc = .ok (.new ik, 3)) (d3 : decode cc (pc + 3) = .ok (.dup, 1)) (d4 : decode cc (pc + 4) = .ok (.ldc is, 2)) (d6 : decode cc (pc + 6) = .ok (.invokespecial ic, 3))
    (hK : va_K D cl tys s) (hP : va_P D cl ws H) (hD : va_D A ws) (hA : ∀ q, s.heap.size ≤ q → A q) (hc : cl[ci]? = some (cls, T0, 0))
    (hRframes : names.length + 3 < R.frames) (hRlocals : (rest.map fun v => v.category).sum + (13 * (names.length + 1) + 43) ≤ R.locals) (hRcells : cells + 1 ≤ R.cells) (hRslots : slots + 6 ≤ R.slots)
    (kk : ∀ (q : Nat) (H1 : Heap), va_P D cl (ws ++ [(q, .inr (ci, []))]) H1 → va_D A (ws ++ [(q, .inr (ci, []))]) → va_S A s.heap H1 locs → W p l e R s m args below meth c H1 locs (cells + 1) (slots + 6) Q (F0 m (pc + 9) ls (.ref q :: rest))) :
    W p l e R s m args below meth c H locs cells slots Q (F0 m pc ls rest) := by
  intro T hT X
  subst hT
  have htr : e.platform.stackTraces = false := (show e.platform.stackTraces = l.stackTraces by rw [X.admits.platform]).trans hl
  have Y := vx_rebase X (R' := { frames := R.frames, locals := R.locals, cells := 1, slots := 6 }) (Nat.le_refl _) (Nat.le_refl _) hRcells hRslots
  obtain ⟨s', hA'⟩ : ∃ z, z = (T.setVm s.vm).setFrames (.invoking m args :: below) := ⟨_, rfl⟩
  rw [← hA'] at Y
  have hvm : s'.vm = s.vm := by rw [hA']; rfl
  have hhp : s'.heap = T.heap := by rw [hA']; rfl
  have hW0 : s.WarmedH s'.vm := by rw [hvm]; exact State.WarmedH.refl s
  have hat' : ∀ w ∈ vx_atS own ic cls names, w.before args s' = true := fun w hw => vx_ot_at hW0 hvm.symm (hgood w (List.mem_cons_of_mem _ (List.mem_cons_of_mem _ hw))) (hat w hw)
  have hk' : (Cond.classLink own ik cls).before args s' = true := vx_ot_at hW0 hvm.symm (hgood _ List.mem_cons_self) hk
  have hini' : (Cond.initialized cls).before args s' = true := vx_ot_at hW0 hvm.symm (hgood _ (List.mem_cons_of_mem _ List.mem_cons_self)) hini
  have hU' : vx_Zq Bundle.tN "UNASSIGNED_STACK" Bundle.steD A s' s'.heap := by rw [hhp]; exact vx_Zq.moved hW0.alike (hU.kept hS.2.1)
  have hN' : vx_Zq Bundle.tN "SUPPRESSED_SENTINEL" Bundle.listD A s' s'.heap := by rw [hhp]; exact vx_Zq.moved hW0.alike (hN.kept hS.2.1)
  have h : ∀ w ∈ Bundle.ownAtoms own ic cls names, w.before args s' = true := vx_own hat' (vx_isRefq hU'.1) (vx_isRefq hN'.1) hU'.2.word hN'.2.word
  have hown' : s'.vm.findClass own = some m.cls := by rw [hvm]; exact hown
  have hins : (Cond.instantiable cls 6).before args s' = true := h _ (by simp [Bundle.ownAtoms])
  obtain ⟨vm₁, cX, kX, hfX, hkX, -, -, X₁, st1⟩ := Y.newCold hexec (own := own) (C := cls) (index := ik) (n := 6) hown' hk' hins hini'
    (g := F0 m pc ls rest) rfl (by rw [hb]; exact d0) (Nat.le_refl _) (Nat.le_refl _)
  generalize hT1 : (T.setVm vm₁).pushCell { cls := cX, slots := kX.instanceTypes.map defaultValue, vm := .none } = T1 at X₁ st1
  have hcat : (Value.ref T.heap.size).category = 1 := rfl
  have hcellA : T1.heap[T.heap.size]? = some (freshCell cX kX) := by rw [← hT1]; exact State.heap_pushCell_size _ _
  have d3' : decode c.code (pc + 3) = .ok (.dup, 1) := by rw [hb]; exact d3
  have d4' : decode c.code (pc + 4) = .ok (.ldc is, 2) := by rw [hb]; exact d4
  have hstr' : vk_R own is text sa s' := vk_R.warm hW0 hstr
  obtain ⟨V, ce, L, Z, hL, hlt, hcl9, hvm9, st⟩ := vx_ctorMadeS X₁ hexec htr (own := own) (cls := cls) (names := names) (ic := ic) hown' hcls hnames h (fun x hx => nomatch hx) hfX hkX hcellA (by rw [hhp]; exact Nat.le_refl _) (msg := .ref sa) rfl
    (g := { method := m, pc := pc + 6, locals := ls, stack := .ref sa :: .ref T.heap.size :: .ref T.heap.size :: rest, locked := none }) rfl hsize (rest := rest) rfl
    (by rw [hb]; exact d6) hRframes (by simp only [List.map_cons, List.sum_cons, hcat]; omega)
  have Z0 := Stand.forget (locs := []) Z (fun y hy => by rw [hL y hy, hhp]; exact Nat.le_refl _)
  obtain ⟨f1, f2⟩ := vx_frame Z0.same
  rw [hhp] at f1 f2
  have hcid : ce.cls = D.1 ci := by
    rw [hcl9]
    have h1 := (hK.1 ci _ hc).2.1
    rw [hvm] at hfX
    exact Option.some.inj (hfX.symm.trans h1)
  have hh : (V.setCell T.heap.size ce).heap[T.heap.size]? = some ce := heapAt_setCell_self (s := V) ce hlt
  subst hA'
  have X5 := vx_back9 X Y Z0
  have X6 : Stand p l e R s m args below meth c (V.setCell T.heap.size ce) locs (cells + 1) (slots + 6) := { X5 with same := X5.same.mono (by omega) (by omega) }
  have hk9 : ∀ (k : Nat) (x : Nat × va_E), ws[k]? = some x → (V.setCell T.heap.size ce).heap[x.1]? = T.heap[x.1]? := fun k x hx => f2 x.1 ((hP k x hx).lt) (fun z hz => nomatch hz)
  obtain ⟨t, a1, b1⟩ := kk T.heap.size (V.setCell T.heap.size ce).heap ((hP.kept hk9).app (fun k x hx => by
      have hz : k < 1 := (List.getElem?_eq_some_iff.mp hx).1
      rw [show k = 0 by omega] at hx
      cases hx
      exact ⟨_, hc, ce, hh, hcid, hvm9, fun k hk => absurd hk (Nat.not_lt_zero k)⟩)) (hD.push hP rfl (hA _ hS.1)) ⟨Nat.le_trans hS.1 f1, fun q h1 h2 => (f2 q (Nat.lt_of_lt_of_le h1 hS.1) (fun z hz => nomatch hz)).trans (hS.2.1 q h1 h2), hS.2.2⟩ _ rfl X6
  refine ⟨t, st1 _ ?_, b1⟩
  show Steps p.tables e below (T1.setTop { method := m, pc := pc + 3, locals := ls, stack := .ref T.heap.size :: rest, locked := none }) _
  jvm_step X₁.here [X₁.here.top, hexec, d3', Value.category]
  exact X₁.ldcString hexec (own := own) (text := text) (index := is) (a := sa) hown' hstr'.1 hstr'.2
    (g := { method := m, pc := pc + 4, locals := ls, stack := .ref T.heap.size :: .ref T.heap.size :: rest, locked := none }) rfl d4' _ (st _ a1)
/-- 'new E()' that isn't thrown at once: the object goes on the stack -/
theorem vx_make0 {cc : ByteArray} {pc : Nat} (hexec : p.tables.exec = Jvm.exec) (hb : c.code = cc) (hl : l.stackTraces = false) {own cls : String} {names : List String} {ik ic ci : Nat} {A : Nat → Prop} {T0 : u_T}
    (hown : s.vm.findClass own = some m.cls) (hcls : Bundle.fit cls = true) (hnames : ∀ n ∈ names, Bundle.fit n = true)
    (hk : (Cond.classLink own ik cls).before args s = true) (hini : (Cond.initialized cls).before args s = true) (hat : ∀ w ∈ vx_at0 own ic cls names, w.before args s = true)
    (hgood : ∀ w ∈ Cond.classLink own ik cls :: Cond.initialized cls :: vx_at0 own ic cls names, vx_ot w = true)
    (hU : vx_Zq Bundle.tN "UNASSIGNED_STACK" Bundle.steD A s s.heap) (hN : vx_Zq Bundle.tN "SUPPRESSED_SENTINEL" Bundle.listD A s s.heap) (hS : va_S A s.heap H locs) (hsize : ls.size = c.maxLocals)
    (d0 : decode cc pc = .ok (.new ik, 3)) (d3 : decode cc (pc + 3) = .ok (.dup, 1)) (d4 : decode cc (pc + 4) = .ok (.invokespecial ic, 3))
    (hK : va_K D cl tys s) (hP : va_P D cl ws H) (hD : va_D A ws) (hA : ∀ q, s.heap.size ≤ q → A q) (hc : cl[ci]? = some (cls, T0, 0))
    (hRframes : names.length + 3 < R.frames) (hRlocals : (rest.map fun v => v.category).sum + (13 * (names.length + 1) + 42) ≤ R.locals) (hRcells : cells + 1 ≤ R.cells) (hRslots : slots + 6 ≤ R.slots)
    (kk : ∀ (q : Nat) (H1 : Heap), va_P D cl (ws ++ [(q, .inr (ci, []))]) H1 → va_D A (ws ++ [(q, .inr (ci, []))]) → va_S A s.heap H1 locs → W p l e R s m args below meth c H1 locs (cells + 1) (slots + 6) Q (F0 m (pc + 7) ls (.ref q :: rest))) :
    W p l e R s m args below meth c H locs cells slots Q (F0 m pc ls rest) := by
  intro T hT X
  subst hT
  have htr : e.platform.stackTraces = false := (show e.platform.stackTraces = l.stackTraces by rw [X.admits.platform]).trans hl
  have Y := vx_rebase X (R' := { frames := R.frames, locals := R.locals, cells := 1, slots := 6 }) (Nat.le_refl _) (Nat.le_refl _) hRcells hRslots
  obtain ⟨s', hA'⟩ : ∃ z, z = (T.setVm s.vm).setFrames (.invoking m args :: below) := ⟨_, rfl⟩
  rw [← hA'] at Y
  have hvm : s'.vm = s.vm := by rw [hA']; rfl
  have hhp : s'.heap = T.heap := by rw [hA']; rfl
  have hW0 : s.WarmedH s'.vm := by rw [hvm]; exact State.WarmedH.refl s
  have hat' : ∀ w ∈ vx_at0 own ic cls names, w.before args s' = true := fun w hw => vx_ot_at hW0 hvm.symm (hgood w (List.mem_cons_of_mem _ (List.mem_cons_of_mem _ hw))) (hat w hw)
  have hk' : (Cond.classLink own ik cls).before args s' = true := vx_ot_at hW0 hvm.symm (hgood _ List.mem_cons_self) hk
  have hini' : (Cond.initialized cls).before args s' = true := vx_ot_at hW0 hvm.symm (hgood _ (List.mem_cons_of_mem _ List.mem_cons_self)) hini
  have hU' : vx_Zq Bundle.tN "UNASSIGNED_STACK" Bundle.steD A s' s'.heap := by rw [hhp]; exact vx_Zq.moved hW0.alike (hU.kept hS.2.1)
  have hN' : vx_Zq Bundle.tN "SUPPRESSED_SENTINEL" Bundle.listD A s' s'.heap := by rw [hhp]; exact vx_Zq.moved hW0.alike (hN.kept hS.2.1)
  have h : ∀ w ∈ Bundle.ownAtoms0 own ic cls names, w.before args s' = true := vx_own hat' (vx_isRefq hU'.1) (vx_isRefq hN'.1) hU'.2.word hN'.2.word
  have hown' : s'.vm.findClass own = some m.cls := by rw [hvm]; exact hown
  have hins : (Cond.instantiable cls 6).before args s' = true := h _ (by simp [Bundle.ownAtoms0])
  obtain ⟨vm₁, cX, kX, hfX, hkX, -, -, X₁, st1⟩ := Y.newCold hexec (own := own) (C := cls) (index := ik) (n := 6) hown' hk' hins hini'
    (g := F0 m pc ls rest) rfl (by rw [hb]; exact d0) (Nat.le_refl _) (Nat.le_refl _)
  generalize hT1 : (T.setVm vm₁).pushCell { cls := cX, slots := kX.instanceTypes.map defaultValue, vm := .none } = T1 at X₁ st1
  have hcat : (Value.ref T.heap.size).category = 1 := rfl
  have hcellA : T1.heap[T.heap.size]? = some (freshCell cX kX) := by rw [← hT1]; exact State.heap_pushCell_size _ _
  have d3' : decode c.code (pc + 3) = .ok (.dup, 1) := by rw [hb]; exact d3
  obtain ⟨V, ce, L, Z, hL, hlt, hcl9, hvm9, st⟩ := vx_ctorMade0 X₁ hexec htr (own := own) (cls := cls) (names := names) (ic := ic) hown' hcls hnames h (fun x hx => nomatch hx) hfX hkX hcellA (by rw [hhp]; exact Nat.le_refl _)
    (g := { method := m, pc := pc + 4, locals := ls, stack := .ref T.heap.size :: .ref T.heap.size :: rest, locked := none }) rfl hsize (rest := rest) rfl
    (by rw [hb]; exact d4) hRframes (by simp only [List.map_cons, List.sum_cons, hcat]; omega)
  have Z0 := Stand.forget (locs := []) Z (fun y hy => by rw [hL y hy, hhp]; exact Nat.le_refl _)
  obtain ⟨f1, f2⟩ := vx_frame Z0.same
  rw [hhp] at f1 f2
  have hcid : ce.cls = D.1 ci := by
    rw [hcl9]
    have h1 := (hK.1 ci _ hc).2.1
    rw [hvm] at hfX
    exact Option.some.inj (hfX.symm.trans h1)
  have hh : (V.setCell T.heap.size ce).heap[T.heap.size]? = some ce := heapAt_setCell_self (s := V) ce hlt
  subst hA'
  have X5 := vx_back9 X Y Z0
  have X6 : Stand p l e R s m args below meth c (V.setCell T.heap.size ce) locs (cells + 1) (slots + 6) := { X5 with same := X5.same.mono (by omega) (by omega) }
  have hk9 : ∀ (k : Nat) (x : Nat × va_E), ws[k]? = some x → (V.setCell T.heap.size ce).heap[x.1]? = T.heap[x.1]? := fun k x hx => f2 x.1 ((hP k x hx).lt) (fun z hz => nomatch hz)
  obtain ⟨t, a1, b1⟩ := kk T.heap.size (V.setCell T.heap.size ce).heap ((hP.kept hk9).app (fun k x hx => by
      have hz : k < 1 := (List.getElem?_eq_some_iff.mp hx).1
      rw [show k = 0 by omega] at hx
      cases hx
      exact ⟨_, hc, ce, hh, hcid, hvm9, fun k hk => absurd hk (Nat.not_lt_zero k)⟩)) (hD.push hP rfl (hA _ hS.1)) ⟨Nat.le_trans hS.1 f1, fun q h1 h2 => (f2 q (Nat.lt_of_lt_of_le h1 hS.1) (fun z hz => nomatch hz)).trans (hS.2.1 q h1 h2), hS.2.2⟩ _ rfl X6
  refine ⟨t, st1 _ ?_, b1⟩
  show Steps p.tables e below (T1.setTop { method := m, pc := pc + 3, locals := ls, stack := .ref T.heap.size :: rest, locked := none }) _
  jvm_step X₁.here [X₁.here.top, hexec, d3', Value.category]
  exact st _ a1
/-- 'throw x' of an object that was made before -/
theorem vx_athrow {cc : ByteArray} {pc : Nat} (hexec : p.tables.exec = Jvm.exec) (hb : c.code = cc) {q : Addr} (hdg : decode cc pc = .ok (.athrow, 1)) (k : vx_W p l e R s m args below meth c H locs cells slots Q (F0 m pc ls rest) q) : W p l e R s m args below meth c H locs cells slots Q (F0 m pc ls (.ref q :: rest)) := by
  intro T hT X
  obtain ⟨t, st, hq⟩ := k T hT X
  refine ⟨t, ?_, hq⟩
  have hdg' : decode c.code pc = .ok (.athrow, 1) := by rw [hb]; exact hdg
  jvm_step X.here [X.here.top, hexec, hdg', athrow.wp_sem]
  exact st
end VXK2
/-! ===== END ===== -/
/-! ===== BEGIN a constructor that throws (launches without stack traces) ===== -/
section VXIA
variable {p : Program} {l : Launch} {e : Env} {R : Room} {s : State} {m : MethodId} {args : Array Value} {below : List Frame} {meth : Method} {c : Code} {T : State} {locs : List Loc} {cells slots : Nat}
theorem vx_callI (X : Stand p l e R s m args below meth c T locs cells slots) (hexec : p.tables.exec = Jvm.exec) {own : String} {index : Nat} {y : MethodName} {bytes : ByteArray} {maxL : Nat}
    (hown : s.vm.findClass own = some m.cls) (hy1 : y.name = "<init>") (hlink : (Cond.methodLink own index y).before args s = true) (hinst : (Cond.instanceMethod y).before args s = true)
    (hcode : (Cond.code y bytes maxL none).before args s = true) (hy : y.cls ≠ "java/lang/invoke/MethodHandle" ∧ y.cls ≠ "java/lang/invoke/VarHandle")
    {W9 : Nat} {Pre : Pt → Array Value → Prop} {Post : Pt → Array Value → Option Value → Pt → Prop} {PostX : Pt → Array Value → Addr → Pt → Prop} (hK : vx_Back l R p e below s args y 3 W9 Pre Post PostX)
    {g : JFrame} (hg : g.method = m) (hsize : g.locals.size = c.maxLocals) {a : Addr} {argsL rest : List Value} (hlen : ∀ sig, parseMethodDescriptor y.desc = some sig → argsL.length = sig.parameters.length)
    (hstack : g.stack = argsL.reverse ++ .ref a :: rest) (hW : 2 * g.monitorRoom + (rest.map fun v => v.category).sum ≤ W9) (hdg : decode c.code g.pc = .ok (.invokespecial index, 3))
    (hpre : ∀ vm₁, s.WarmedH vm₁ → Pre ⟨T.setVm vm₁, locs, cells, slots⟩ (Value.ref a :: argsL).toArray) :
    (∃ (v : Option Value) (vm₁ : Vm) (B : Pt), s.WarmedH vm₁ ∧ Stand p l e R s m args below meth c B.U B.locs B.cells B.slots ∧ Post ⟨T.setVm vm₁, locs, cells, slots⟩ (Value.ref a :: argsL).toArray v B ∧
      ∀ target, Steps p.tables e below (B.U.setTop { g with pc := g.pc + 3, stack := v.toList ++ rest }) target → Steps p.tables e below (T.setTop g) target) ∨
    (∃ (q : Addr) (vm₁ : Vm) (B : Pt), s.WarmedH vm₁ ∧ Stand p l e R s m args below meth c B.U B.locs B.cells B.slots ∧ PostX ⟨T.setVm vm₁, locs, cells, slots⟩ (Value.ref a :: argsL).toArray q B ∧
      Steps p.tables e below (T.setTop g) ((B.U.setTop { g with stack := rest }).pushFrame (.throwing q))) := by
  subst hg
  have hpl : e.platform.magicAccessors = ({} : Platform).magicAccessors := by rw [X.admits.platform]
  obtain ⟨mk, methM, cM, kP, vm₁, hnamed, hmethM, hcodeM, -, hlocalsM, -, hkP, -, hW₁, hstep₁⟩ := Steps.initColdArgs (e := e) X.here hexec X.warmed hpl hown hy1 hy hlink hinst hcode (f := g) rfl hlen hstack hdg
  have X₁ := X.noted hW₁
  rcases hK g.method meth c ⟨T.setVm vm₁, locs, cells, slots⟩ { g with stack := rest } (.invokespecial index) mk (Value.ref a :: argsL).toArray X₁ rfl hsize hdg hW (X₁.named hnamed) (hpre vm₁ X₁.warmed) with ⟨v, B, X', hpost, hsteps⟩ | ⟨q, B, X', hpost, hsteps⟩
  · exact Or.inl ⟨v, vm₁, B, X₁.warmed, X', hpost, fun target h => hstep₁ _ fun acts => by rw [doInvoke_state]; exact hsteps.trans h⟩
  · exact Or.inr ⟨q, vm₁, B, X₁.warmed, X', hpost, hstep₁ _ fun acts => by rw [doInvoke_state]; exact hsteps⟩
end VXIA
section VXIB
variable {p : Program} {l : Launch} {e : Env} {R : Room} {s : State} {m : MethodId} {args : Array Value} {below : List Frame} {meth : Method} {c : Code} {H : Heap} {locs : List Loc} {cells slots : Nat}
variable {y : MethodName} {bytes cc : ByteArray} {maxL nL mc ms n index : Nat} {ret : Option FieldType} {ws : List Cond} {rm : Room} {Pc : Array Value → State → Prop} {Qc : Array Value → State → Outcome → State → Prop} {XC : String → State → State → Prop} {free : Addr → Prop} {Ts : List Cond} {own C : String} {b : Addr} {As rest : List Value} {g : JFrame}
theorem vx_runI (S : CallFix p m c cc nL s args Ts own) (hM : vx_Met l y ws rm Pc Qc XC mc ms free) (cw : CallB R s args own index y bytes maxL none ws rm mc ms n ∧ y.name = "<init>" ∧ (Cond.instanceMethod y).before args s = true) (hp : PreS s H Pc (.ref b :: As))
    (hg : g.method = m) (hn : As.length = n) (hsize : g.locals.size = nL) (hstack : g.stack = As.reverse ++ .ref b :: rest) (hW : 2 * g.monitorRoom + (rest.map fun v => v.category).sum ≤ 8) (hdg : decode cc g.pc = .ok (.invokespecial index, 3)) (hf : cells + mc ≤ R.cells ∧ slots + ms ≤ R.slots) :
    vx_Run p l e R s m args below meth c H locs cells slots mc ms g rest (Qc (Value.ref b :: As).toArray) XC free := by
  have hK : vx_Back l R p e below s args y 3 8 (PreOf R mc ms Pc) (PostOf Qc mc ms free) (vx_Post XC mc ms free) := vx_callBack cw.1 hM hp.1
  obtain ⟨⟨-, -, -, -, -, -, hcode, -, hy, hlen, hl⟩, hy1, hin⟩ := cw
  obtain ⟨hx, hb, hml, ho, -⟩ := S
  have hPc := hp.2
  intro T hT X
  rcases vx_callI X hx (bytes := bytes) (maxL := maxL) ho hy1 hl hin hcode hy hK hg (hsize.trans hml.symm) (a := b) (argsL := As) (rest := rest) (fun sig h => hn.trans (hlen sig h)) hstack hW (by rw [hb]; exact hdg)
    (fun vm₁ hW₁ => ⟨hf.1, hf.2, hPc (T.setVm vm₁) hT hW₁⟩) with ⟨v, vm₁, ⟨U', l2, c2, s2⟩, hW₁, X', ⟨g', mk, t, L, e1, e2, hq, h1, hL, h2, h3⟩, st⟩ | ⟨q, vm₁, ⟨U', l2, c2, s2⟩, hW₁, X', ⟨g', mk, t, L, E, ce, e1, e2, hq, hce, hcv, hcl, h1, hL, h2, h3⟩, st⟩
  · dsimp only [Pt.U, Pt.locs, Pt.cells, Pt.slots] at X' e1 e2 h1 h2 h3 st
    subst h1; subst h2; subst h3
    exact Or.inl ⟨v, (T.setVm vm₁).calling g' mk (Value.ref b :: As).toArray, t, U', L, hT, X', hL, e1, e2, hq, st⟩
  · dsimp only [Pt.U, Pt.locs, Pt.cells, Pt.slots] at X' e1 e2 h1 h2 h3 st hcl
    subst h1; subst h2; subst h3
    exact Or.inr ⟨q, (T.setVm vm₁).calling g' mk (Value.ref b :: As).toArray, t, U', L, E, ce, hT, X', hL, e1, e2, hq, hce, hcv, vx_cls hW₁ hcl, st⟩
end VXIB
/-! ===== END ===== -/
/-! ===== BEGIN a private constructor of a nest mate that throws ===== -/
section VXIC
variable {p : Program} {l : Launch} {e : Env} {R : Room} {s : State} {m : MethodId} {args : Array Value} {below : List Frame} {meth : Method} {c : Code} {T : State} {locs : List Loc} {cells slots : Nat}
theorem vx_callIN (X : Stand p l e R s m args below meth c T locs cells slots) (hexec : p.tables.exec = Jvm.exec) {own : String} {index : Nat} {host : String} {y : MethodName} {bytes : ByteArray} {maxL : Nat}
    (hown : s.vm.findClass own = some m.cls) (hy1 : y.name = "<init>") (hlink : (Cond.methodLinkNest own index y host).before args s = true) (hinst : (Cond.instanceMethod y).before args s = true)
    (hcode : (Cond.code y bytes maxL none).before args s = true) (hy : y.cls ≠ "java/lang/invoke/MethodHandle" ∧ y.cls ≠ "java/lang/invoke/VarHandle")
    {W9 : Nat} {Pre : Pt → Array Value → Prop} {Post : Pt → Array Value → Option Value → Pt → Prop} {PostX : Pt → Array Value → Addr → Pt → Prop} (hK : vx_Back l R p e below s args y 3 W9 Pre Post PostX)
    {g : JFrame} (hg : g.method = m) (hsize : g.locals.size = c.maxLocals) {a : Addr} {argsL rest : List Value} (hlen : ∀ sig, parseMethodDescriptor y.desc = some sig → argsL.length = sig.parameters.length)
    (hstack : g.stack = argsL.reverse ++ .ref a :: rest) (hW : 2 * g.monitorRoom + (rest.map fun v => v.category).sum ≤ W9) (hdg : decode c.code g.pc = .ok (.invokespecial index, 3))
    (hpre : ∀ vm₁, s.WarmedH vm₁ → Pre ⟨T.setVm vm₁, locs, cells, slots⟩ (Value.ref a :: argsL).toArray) :
    (∃ (v : Option Value) (vm₁ : Vm) (B : Pt), s.WarmedH vm₁ ∧ Stand p l e R s m args below meth c B.U B.locs B.cells B.slots ∧ Post ⟨T.setVm vm₁, locs, cells, slots⟩ (Value.ref a :: argsL).toArray v B ∧
      ∀ target, Steps p.tables e below (B.U.setTop { g with pc := g.pc + 3, stack := v.toList ++ rest }) target → Steps p.tables e below (T.setTop g) target) ∨
    (∃ (q : Addr) (vm₁ : Vm) (B : Pt), s.WarmedH vm₁ ∧ Stand p l e R s m args below meth c B.U B.locs B.cells B.slots ∧ PostX ⟨T.setVm vm₁, locs, cells, slots⟩ (Value.ref a :: argsL).toArray q B ∧
      Steps p.tables e below (T.setTop g) ((B.U.setTop { g with stack := rest }).pushFrame (.throwing q))) := by
  subst hg
  have hpl : e.platform.magicAccessors = ({} : Platform).magicAccessors := by rw [X.admits.platform]
  obtain ⟨mk, methM, cM, kP, vm₁, hnamed, hmethM, hcodeM, -, hlocalsM, -, hkP, -, hW₁, hstep₁⟩ := Steps.initColdArgsNest (e := e) X.here hexec X.warmed hpl hown hy1 hy hlink hinst hcode (f := g) rfl hlen hstack hdg
  have X₁ := X.noted hW₁
  rcases hK g.method meth c ⟨T.setVm vm₁, locs, cells, slots⟩ { g with stack := rest } (.invokespecial index) mk (Value.ref a :: argsL).toArray X₁ rfl hsize hdg hW (X₁.named hnamed) (hpre vm₁ X₁.warmed) with ⟨v, B, X', hpost, hsteps⟩ | ⟨q, B, X', hpost, hsteps⟩
  · exact Or.inl ⟨v, vm₁, B, X₁.warmed, X', hpost, fun target h => hstep₁ _ fun acts => by rw [doInvoke_state]; exact hsteps.trans h⟩
  · exact Or.inr ⟨q, vm₁, B, X₁.warmed, X', hpost, hstep₁ _ fun acts => by rw [doInvoke_state]; exact hsteps⟩
end VXIC
section VXID
variable {p : Program} {l : Launch} {e : Env} {R : Room} {s : State} {m : MethodId} {args : Array Value} {below : List Frame} {meth : Method} {c : Code} {H : Heap} {locs : List Loc} {cells slots : Nat}
theorem vx_runIN {y : MethodName} {bytes cc : ByteArray} {maxL nL mc ms n index : Nat} {ws : List Cond} {rm : Room} {Pc : Array Value → State → Prop} {Qc : Array Value → State → Outcome → State → Prop} {XC : String → State → State → Prop} {free : Addr → Prop} {Ts : List Cond} {own host : String} {b : Addr} {As rest : List Value} {g : JFrame}
    (S : CallFix p m c cc nL s args Ts own) (hM : vx_Met l y ws rm Pc Qc XC mc ms free) (cw : va_CN R s args own index y host bytes maxL none ws rm mc ms n ∧ y.name = "<init>" ∧ (Cond.instanceMethod y).before args s = true) (hp : PreS s H Pc (.ref b :: As))
    (hg : g.method = m) (hn : As.length = n) (hsize : g.locals.size = nL) (hstack : g.stack = As.reverse ++ .ref b :: rest) (hW : 2 * g.monitorRoom + (rest.map fun v => v.category).sum ≤ 8) (hdg : decode cc g.pc = .ok (.invokespecial index, 3)) (hf : cells + mc ≤ R.cells ∧ slots + ms ≤ R.slots) :
    vx_Run p l e R s m args below meth c H locs cells slots mc ms g rest (Qc (Value.ref b :: As).toArray) XC free := by
  obtain ⟨⟨⟨hrc, hrs, hfr, hlo, hws, hcw⟩, hcode, hini, hy, hlen, hl⟩, hx1, hx2⟩ := cw
  have hK : vx_Back l R p e below s args y 3 8 (PreOf R mc ms Pc) (PostOf Qc mc ms free) (vx_Post XC mc ms free) := vx_back (bytes := bytes) (maxL := maxL) (ret := none) hM hp.1 hrc hrs hfr hlo hws hcw (fun a' U hW => word_at hW (Or.inl (by first | rfl | simp [Cond.onTables, Cond.keeps, Cond.steady])) hini)
  obtain ⟨hx, hb, hml, ho, -⟩ := S
  have hPc := hp.2
  intro T hT X
  rcases vx_callIN X hx (bytes := bytes) (maxL := maxL) ho hx1 hl hx2 hcode hy hK hg (hsize.trans hml.symm) (a := b) (argsL := As) (rest := rest) (fun sig h => hn.trans (hlen sig h)) hstack hW (by rw [hb]; exact hdg)
    (fun vm₁ hW₁ => ⟨hf.1, hf.2, hPc (T.setVm vm₁) hT hW₁⟩) with ⟨v, vm₁, ⟨U', l2, c2, s2⟩, hW₁, X', ⟨g', mk, t, L, e1, e2, hq, h1, hL, h2, h3⟩, st⟩ | ⟨q, vm₁, ⟨U', l2, c2, s2⟩, hW₁, X', ⟨g', mk, t, L, E, ce, e1, e2, hq, hce, hcv, hcl, h1, hL, h2, h3⟩, st⟩
  · dsimp only [Pt.U, Pt.locs, Pt.cells, Pt.slots] at X' e1 e2 h1 h2 h3 st
    subst h1; subst h2; subst h3
    exact Or.inl ⟨v, (T.setVm vm₁).calling g' mk (Value.ref b :: As).toArray, t, U', L, hT, X', hL, e1, e2, hq, st⟩
  · dsimp only [Pt.U, Pt.locs, Pt.cells, Pt.slots] at X' e1 e2 h1 h2 h3 st hcl
    subst h1; subst h2; subst h3
    exact Or.inr ⟨q, (T.setVm vm₁).calling g' mk (Value.ref b :: As).toArray, t, U', L, E, ce, hT, X', hL, e1, e2, hq, hce, hcv, vx_cls hW₁ hcl, st⟩
end VXID
/-! ===== END ===== -/
/-! ===== BEGIN a method of a class above, found by the receiver, that may throw (follows va_callVU, va_runU of this kit) ===== -/
section
variable {p : Program} {l : Launch} {e : Env} {R : Room} {s : State} {m : MethodId} {args : Array Value} {below : List Frame} {meth : Method} {c : Code} {H : Heap} {locs : List Loc} {cells slots : Nat}
theorem vx_callVU {T : State} {locs : List Loc} {cells slots : Nat} (X : Stand p l e R s m args below meth c T locs cells slots) (hexec : p.tables.exec = Jvm.exec) {own C owner : String} {index : Nat} {x y : MethodName} {bytes : ByteArray} {maxL : Nat} {ret : Option FieldType}
    (hown : s.vm.findClass own = some m.cls) (hlink : (Cond.methodLink own index x).before args s = true) (hsame : (Cond.sameMethod x.cls owner x.name x.desc).before args s = true)
    (hd0 : va_Decl s ⟨owner, x.name, x.desc⟩) (howner : owner ≠ "java/lang/invoke/MethodHandle" ∧ owner ≠ "java/lang/invoke/VarHandle")
    (hsel : (Cond.selects C x y).before args s = true) (hinst : (Cond.instanceMethod y).before args s = true) (hcode : (Cond.code y bytes maxL ret).before args s = true)
    {W : Nat} {Pre : Pt → Array Value → Prop} {Post : Pt → Array Value → Option Value → Pt → Prop} {PostX : Pt → Array Value → Addr → Pt → Prop} (hK : vx_Back l R p e below s args y 3 W Pre Post PostX)
    {b : Addr} {cellB : Cell} (hcell : T.heap[b]? = some cellB) (hobj : cellB.vm.isStatics = false) (hcls : s.vm.findClass C = some cellB.cls)
    {g : JFrame} (hg : g.method = m) (hsize : g.locals.size = c.maxLocals) {argsL rest : List Value} (hlen : ∀ sig, parseMethodDescriptor x.desc = some sig → argsL.length = sig.parameters.length)
    (hstack : g.stack = argsL.reverse ++ .ref b :: rest) (hW : 2 * g.monitorRoom + (rest.map fun v => v.category).sum ≤ W) (hdg : decode c.code g.pc = .ok (.invokevirtual index, 3))
    (hpre : ∀ vm₁, s.WarmedH vm₁ → Pre ⟨T.setVm vm₁, locs, cells, slots⟩ (Value.ref b :: argsL).toArray) :
    (∃ (v : Option Value) (vm₁ : Vm) (B : Pt), s.WarmedH vm₁ ∧ Stand p l e R s m args below meth c B.U B.locs B.cells B.slots ∧ Post ⟨T.setVm vm₁, locs, cells, slots⟩ (Value.ref b :: argsL).toArray v B ∧
      ∀ target, Steps p.tables e below (B.U.setTop { g with pc := g.pc + 3, stack := v.toList ++ rest }) target → Steps p.tables e below (T.setTop g) target) ∨
    (∃ (q : Addr) (vm₁ : Vm) (B : Pt), s.WarmedH vm₁ ∧ Stand p l e R s m args below meth c B.U B.locs B.cells B.slots ∧ PostX ⟨T.setVm vm₁, locs, cells, slots⟩ (Value.ref b :: argsL).toArray q B ∧
      Steps p.tables e below (T.setTop g) ((B.U.setTop { g with stack := rest }).pushFrame (.throwing q))) := by
  obtain ⟨r0, r, hn, hrm, hstR, hsigR⟩ := hd0
  obtain ⟨cn, ck, r1, hcn, hck, hni, hf, hn1⟩ := Cond.sameMethod_found hsame
  cases hn.symm.trans hn1
  obtain ⟨mk, methM, hnamed, hmethM, -, habM⟩ := Cond.instanceMethod_spec hinst
  obtain ⟨c2, r2, m2, q1, q2, q3, q4, kP, hkP, hkPi⟩ := Cond.selects_spec hsel
  cases hcls.symm.trans q1
  cases hf.symm.trans q2
  cases hnamed.symm.trans q3
  have hselP : selectMethod e.platform s.vm cellB.cls r0 = .method mk := by rw [Launch.admits_selectMethod X.admits]; exact q4
  obtain ⟨vm₁, X₁, hstep₁⟩ := X.invokevirtualUp hexec hown hlink hsame howner hn hrm hstR (a := b) (cell := cellB) hcell
    (fun z h => by rw [h] at hobj; cases hobj) hselP hmethM habM hkP hkPi (g := g) hg (argsL := argsL) (rest := rest) (hlen _ hsigR) hstack hdg
  rcases hK m meth c ⟨T.setVm vm₁, locs, cells, slots⟩ { g with stack := rest } (.invokevirtual index) mk (Value.ref b :: argsL).toArray X₁ hg hsize hdg hW (X₁.named hnamed) (hpre vm₁ X₁.warmed) with ⟨v, B, X', hpost, hsteps⟩ | ⟨q, B, X', hpost, hsteps⟩
  · exact Or.inl ⟨v, vm₁, B, X₁.warmed, X', hpost, fun target h => hstep₁ _ fun acts => by rw [doInvoke_state]; exact hsteps.trans h⟩
  · exact Or.inr ⟨q, vm₁, B, X₁.warmed, X', hpost, hstep₁ _ fun acts => by rw [doInvoke_state]; exact hsteps⟩
theorem vx_runU {x y : MethodName} {bytes cc : ByteArray} {maxL nL mc ms n index : Nat} {ret : Option FieldType} {ws : List Cond} {rm : Room} {Pc : Array Value → State → Prop} {Qc : Array Value → State → Outcome → State → Prop} {XC : String → State → State → Prop} {free : Addr → Prop} {Ts : List Cond} {own C owner : String} {b : Addr} {As rest : List Value} {g : JFrame}
    (S : CallFix p m c cc nL s args Ts own) (hM : vx_Met l y ws rm Pc Qc XC mc ms free) (cw : va_CU R s args own C owner index x y bytes maxL ret ws rm mc ms n) (hp : PreV s H C b Pc As)
    (hg : g.method = m) (hn : As.length = n) (hsize : g.locals.size = nL) (hstack : g.stack = As.reverse ++ .ref b :: rest) (hW : 2 * g.monitorRoom + (rest.map fun v => v.category).sum ≤ 8) (hdg : decode cc g.pc = .ok (.invokevirtual index, 3)) (hf : cells + mc ≤ R.cells ∧ slots + ms ≤ R.slots) :
    vx_Run p l e R s m args below meth c H locs cells slots mc ms g rest (Qc (Value.ref b :: As).toArray) XC free := by
  obtain ⟨hrc, hrs, hfr, hlo, hws, hcw⟩ := cw.back
  have hini := cw.init
  have hK : vx_Back l R p e below s args y 3 8 (PreOf R mc ms Pc) (PostOf Qc mc ms free) (vx_Post XC mc ms free) := vx_back (bytes := bytes) (maxL := maxL) (ret := ret) hM hp.1 hrc hrs hfr hlo hws hcw (fun a' U hW => word_at hW (Or.inl (by first | rfl | simp [Cond.onTables, Cond.keeps, Cond.steady])) hini)
  obtain ⟨hx, hb, hml, ho, -⟩ := S
  obtain ⟨-, ⟨cellB, hcB, hoB, hclB⟩, hPc⟩ := hp
  intro T hT X
  rcases vx_callVU X hx (C := C) (owner := owner) (bytes := bytes) (maxL := maxL) (ret := ret) ho cw.link cw.same cw.decl cw.notMH cw.sel cw.inst cw.code hK (by rw [hT]; exact hcB) hoB hclB hg (hsize.trans hml.symm) (argsL := As) (rest := rest) (fun sig h => hn.trans (cw.len sig h)) hstack hW (by rw [hb]; exact hdg)
    (fun vm₁ hW₁ => ⟨hf.1, hf.2, hPc (T.setVm vm₁) hT hW₁⟩) with ⟨v, vm₁, ⟨U', l2, c2, s2⟩, hW₁, X', ⟨g', mk, t, L, e1, e2, hq, h1, hL, h2, h3⟩, st⟩ | ⟨q, vm₁, ⟨U', l2, c2, s2⟩, hW₁, X', ⟨g', mk, t, L, E, ce, e1, e2, hq, hce, hcv, hcl, h1, hL, h2, h3⟩, st⟩
  · dsimp only [Pt.U, Pt.locs, Pt.cells, Pt.slots] at X' e1 e2 h1 h2 h3 st
    subst h1; subst h2; subst h3
    exact Or.inl ⟨v, (T.setVm vm₁).calling g' mk (Value.ref b :: As).toArray, t, U', L, hT, X', hL, e1, e2, hq, st⟩
  · dsimp only [Pt.U, Pt.locs, Pt.cells, Pt.slots] at X' e1 e2 h1 h2 h3 st hcl
    subst h1; subst h2; subst h3
    exact Or.inr ⟨q, (T.setVm vm₁).calling g' mk (Value.ref b :: As).toArray, t, U', L, E, ce, hT, X', hL, e1, e2, hq, hce, hcv, vx_cls hW₁ hcl, st⟩
end
/-! ===== END ===== -/
/-! ===== BEGIN super.m(..) that may throw (follows va_callSU, va_runSU) ===== -/
section
variable {p : Program} {l : Launch} {e : Env} {R : Room} {s : State} {m : MethodId} {args : Array Value} {below : List Frame} {meth : Method} {c : Code} {H : Heap} {locs : List Loc} {cells slots : Nat}
theorem vx_callSU {T : State} {locs : List Loc} {cells slots : Nat} (X : Stand p l e R s m args below meth c T locs cells slots) (hexec : p.tables.exec = Jvm.exec) {own : String} {index : Nat} {y : MethodName} {bytes : ByteArray} {maxL : Nat} {ret : Option FieldType}
    (hown : s.vm.findClass own = some m.cls) (hlink : (Cond.methodLink own index y).before args s = true) (hsame : (Cond.sameMethod y.cls y.cls y.name y.desc).before args s = true) (hsup : (Cond.superclass own y.cls).before args s = true)
    (hinst : (Cond.instanceMethod y).before args s = true) (hcode : (Cond.code y bytes maxL ret).before args s = true) (hno : y.name ≠ "<init>")
    {W : Nat} {Pre : Pt → Array Value → Prop} {Post : Pt → Array Value → Option Value → Pt → Prop} {PostX : Pt → Array Value → Addr → Pt → Prop} (hK : vx_Back l R p e below s args y 3 W Pre Post PostX)
    {b : Addr} {cellB : Cell} {kB : Class} (hcell : T.heap[b]? = some cellB) (hobj : cellB.vm.isStatics = false) (hkB : s.vm.classes[cellB.cls]? = some kB)
    {g : JFrame} (hg : g.method = m) (hsize : g.locals.size = c.maxLocals) {argsL rest : List Value} (hlen : ∀ sig, parseMethodDescriptor y.desc = some sig → argsL.length = sig.parameters.length)
    (hstack : g.stack = argsL.reverse ++ .ref b :: rest) (hW : 2 * g.monitorRoom + (rest.map fun v => v.category).sum ≤ W) (hdg : decode c.code g.pc = .ok (.invokespecial index, 3))
    (hpre : ∀ vm₁, s.WarmedH vm₁ → Pre ⟨T.setVm vm₁, locs, cells, slots⟩ (Value.ref b :: argsL).toArray) :
    (∃ (v : Option Value) (vm₁ : Vm) (B : Pt), s.WarmedH vm₁ ∧ Stand p l e R s m args below meth c B.U B.locs B.cells B.slots ∧ Post ⟨T.setVm vm₁, locs, cells, slots⟩ (Value.ref b :: argsL).toArray v B ∧
      ∀ target, Steps p.tables e below (B.U.setTop { g with pc := g.pc + 3, stack := v.toList ++ rest }) target → Steps p.tables e below (T.setTop g) target) ∨
    (∃ (q : Addr) (vm₁ : Vm) (B : Pt), s.WarmedH vm₁ ∧ Stand p l e R s m args below meth c B.U B.locs B.cells B.slots ∧ PostX ⟨T.setVm vm₁, locs, cells, slots⟩ (Value.ref b :: argsL).toArray q B ∧
      Steps p.tables e below (T.setTop g) ((B.U.setTop { g with stack := rest }).pushFrame (.throwing q))) := by
  obtain ⟨mk, methM, hnamed, hmethM, hstM, habM⟩ := Cond.instanceMethod_spec hinst
  obtain ⟨methM', cM, hmethM', -, -, -, -, -, -, hsigM⟩ := Cond.code_spec hnamed hcode
  cases hmethM.symm.trans hmethM'
  obtain ⟨ps, dk, kp, hps, hdk, hkp, hsuper, -, -, hnid⟩ := Cond.superclass_spec hown hsup
  have hn : s.methodNamed? ⟨y.cls, y.name, y.desc⟩ = some mk := hnamed
  have hpm : ps = mk.cls := Option.some.inj (hps.symm.trans (findClass_of_methodNamed hnamed))
  have hsub : s.vm.isSubclass ps mk.cls = true := by rw [hpm]; simp [Vm.isSubclass, Vm.isSubclassAux]
  obtain ⟨vm₁, X₁, hstep₁⟩ := X.invokespecialUp hexec hown hlink hsame hn hmethM hstM habM hno hdk hnid hps hsuper hsub (a := b) (cell := cellB) hcell
    (fun z h => by rw [h] at hobj; cases hobj) hkB (g := g) hg (argsL := argsL) (rest := rest) (hlen _ hsigM) hstack hdg
  rcases hK m meth c ⟨T.setVm vm₁, locs, cells, slots⟩ { g with stack := rest } (.invokespecial index) mk (Value.ref b :: argsL).toArray X₁ hg hsize hdg hW (X₁.named hnamed) (hpre vm₁ X₁.warmed) with ⟨v, B, X', hpost, hsteps⟩ | ⟨q, B, X', hpost, hsteps⟩
  · exact Or.inl ⟨v, vm₁, B, X₁.warmed, X', hpost, fun target h => hstep₁ _ (by rw [doInvoke_state]; exact hsteps.trans h)⟩
  · exact Or.inr ⟨q, vm₁, B, X₁.warmed, X', hpost, hstep₁ _ (by rw [doInvoke_state]; exact hsteps)⟩
theorem vx_runSU {y : MethodName} {bytes cc : ByteArray} {maxL nL mc ms n index : Nat} {ret : Option FieldType} {ws : List Cond} {rm : Room} {Pc : Array Value → State → Prop} {Qc : Array Value → State → Outcome → State → Prop} {XC : String → State → State → Prop} {free : Addr → Prop} {Ts : List Cond} {own C : String} {cC : ClassId} {b : Addr} {As rest : List Value} {g : JFrame}
    (hat : ClassAt s C cC) (S : CallFix p m c cc nL s args Ts own) (hM : vx_Met l y ws rm Pc Qc XC mc ms free) (cw : va_CS R s args own index y bytes maxL ret ws rm mc ms n) (hp : PreV s H C b Pc As)
    (hg : g.method = m) (hn : As.length = n) (hsize : g.locals.size = nL) (hstack : g.stack = As.reverse ++ .ref b :: rest) (hW : 2 * g.monitorRoom + (rest.map fun v => v.category).sum ≤ 8) (hdg : decode cc g.pc = .ok (.invokespecial index, 3)) (hf : cells + mc ≤ R.cells ∧ slots + ms ≤ R.slots) :
    vx_Run p l e R s m args below meth c H locs cells slots mc ms g rest (Qc (Value.ref b :: As).toArray) XC free := by
  obtain ⟨⟨hrc, hrs, hfr, hlo, hws, hcw⟩, hl1, hl2, hl3, hl4, hini, hcode, hno, hlen⟩ := cw
  have hK : vx_Back l R p e below s args y 3 8 (PreOf R mc ms Pc) (PostOf Qc mc ms free) (vx_Post XC mc ms free) := vx_back (bytes := bytes) (maxL := maxL) (ret := ret) hM hp.1 hrc hrs hfr hlo hws hcw (fun a' U hW => word_at hW (Or.inl (by first | rfl | simp [Cond.onTables, Cond.keeps, Cond.steady])) hini)
  obtain ⟨hx, hb, hml, ho, -⟩ := S
  obtain ⟨-, ⟨cellB, hcB, hoB, hclB⟩, hPc⟩ := hp
  obtain ⟨hfc, kB, hkB, -⟩ := hat
  cases hfc.symm.trans hclB
  intro T hT X
  rcases vx_callSU X hx (bytes := bytes) (maxL := maxL) (ret := ret) ho hl1 hl2 hl3 hl4 hcode hno hK (by rw [hT]; exact hcB) hoB hkB hg (hsize.trans hml.symm) (argsL := As) (rest := rest) (fun sig h => hn.trans (hlen sig h)) hstack hW (by rw [hb]; exact hdg)
    (fun vm₁ hW₁ => ⟨hf.1, hf.2, hPc (T.setVm vm₁) hT hW₁⟩) with ⟨v, vm₁, ⟨U', l2, c2, s2⟩, hW₁, X', ⟨g', mk, t, L, e1, e2, hq, h1, hL, h2, h3⟩, st⟩ | ⟨q, vm₁, ⟨U', l2, c2, s2⟩, hW₁, X', ⟨g', mk, t, L, E, ce, e1, e2, hq, hce, hcv, hcl, h1, hL, h2, h3⟩, st⟩
  · dsimp only [Pt.U, Pt.locs, Pt.cells, Pt.slots] at X' e1 e2 h1 h2 h3 st
    subst h1; subst h2; subst h3
    exact Or.inl ⟨v, (T.setVm vm₁).calling g' mk (Value.ref b :: As).toArray, t, U', L, hT, X', hL, e1, e2, hq, st⟩
  · dsimp only [Pt.U, Pt.locs, Pt.cells, Pt.slots] at X' e1 e2 h1 h2 h3 st hcl
    subst h1; subst h2; subst h3
    exact Or.inr ⟨q, (T.setVm vm₁).calling g' mk (Value.ref b :: As).toArray, t, U', L, E, ce, hT, X', hL, e1, e2, hq, hce, hcv, vx_cls hW₁ hcl, st⟩
end
/-! ===== END ===== -/
/-! ===== BEGIN a private method of a nest mate that may throw (follows va_callVN, va_callSN, va_runVN, va_runSN) ===== -/
section
variable {p : Program} {l : Launch} {e : Env} {R : Room} {s : State} {m : MethodId} {args : Array Value} {below : List Frame} {meth : Method} {c : Code} {H : Heap} {locs : List Loc} {cells slots : Nat}
variable {T : State}
theorem vx_callVN (X : Stand p l e R s m args below meth c T locs cells slots) (hexec : p.tables.exec = Jvm.exec) {own C : String} {index : Nat} {host : String} {y : MethodName} {bytes : ByteArray} {maxL : Nat} {ret : Option FieldType}
    (hown : s.vm.findClass own = some m.cls) (hlink : (Cond.methodLinkNest own index y host).before args s = true) (hinst : (Cond.instanceMethod y).before args s = true) (hsel : (Cond.selects C y y).before args s = true)
    (hcode : (Cond.code y bytes maxL ret).before args s = true) (hy : y.cls ≠ "java/lang/invoke/MethodHandle" ∧ y.cls ≠ "java/lang/invoke/VarHandle")
    {W : Nat} {Pre : Pt → Array Value → Prop} {Post : Pt → Array Value → Option Value → Pt → Prop} {PostX : Pt → Array Value → Addr → Pt → Prop} (hK : vx_Back l R p e below s args y 3 W Pre Post PostX)
    {b : Addr} {cellB : Cell} (hcell : T.heap[b]? = some cellB) (hobj : cellB.vm.isStatics = false) (hcls : s.vm.findClass C = some cellB.cls)
    {g : JFrame} (hg : g.method = m) (hsize : g.locals.size = c.maxLocals) {argsL rest : List Value} (hlen : ∀ sig, parseMethodDescriptor y.desc = some sig → argsL.length = sig.parameters.length)
    (hstack : g.stack = argsL.reverse ++ .ref b :: rest) (hW : 2 * g.monitorRoom + (rest.map fun v => v.category).sum ≤ W) (hdg : decode c.code g.pc = .ok (.invokevirtual index, 3))
    (hpre : ∀ vm₁, s.WarmedH vm₁ → Pre ⟨T.setVm vm₁, locs, cells, slots⟩ (Value.ref b :: argsL).toArray) :
    (∃ (v : Option Value) (vm₁ : Vm) (B : Pt), s.WarmedH vm₁ ∧ Stand p l e R s m args below meth c B.U B.locs B.cells B.slots ∧ Post ⟨T.setVm vm₁, locs, cells, slots⟩ (Value.ref b :: argsL).toArray v B ∧
      ∀ target, Steps p.tables e below (B.U.setTop { g with pc := g.pc + 3, stack := v.toList ++ rest }) target → Steps p.tables e below (T.setTop g) target) ∨
    (∃ (q : Addr) (vm₁ : Vm) (B : Pt), s.WarmedH vm₁ ∧ Stand p l e R s m args below meth c B.U B.locs B.cells B.slots ∧ PostX ⟨T.setVm vm₁, locs, cells, slots⟩ (Value.ref b :: argsL).toArray q B ∧
      Steps p.tables e below (T.setTop g) ((B.U.setTop { g with stack := rest }).pushFrame (.throwing q))) := by
  obtain ⟨mk, methM, hnamed, hmethM, hstM, habM⟩ := Cond.instanceMethod_spec hinst
  obtain ⟨methM', cM, hmethM', -, -, -, -, -, -, hsigM⟩ := Cond.code_spec hnamed hcode
  cases hmethM.symm.trans hmethM'
  obtain ⟨c2, r2, m2, q1, q2, q3, q4, kP, hkP, hkPi⟩ := Cond.selects_spec hsel
  cases hcls.symm.trans q1
  cases (State.methodFound?_of_named hnamed hy).symm.trans q2
  cases hnamed.symm.trans q3
  have hselP : selectMethod e.platform s.vm cellB.cls mk = .method mk := by rw [Launch.admits_selectMethod X.admits]; exact q4
  obtain ⟨vm₁, X₁, hstep₁⟩ := X.invokevirtualNest hexec hown hlink hnamed hmethM hstM hkP hkPi hy (a := b) (cell := cellB) hcell
    (fun z h => by rw [h] at hobj; cases hobj) hselP hmethM habM hkP hkPi (g := g) hg (argsL := argsL) (rest := rest) (hlen _ hsigM) hstack hdg
  rcases hK m meth c ⟨T.setVm vm₁, locs, cells, slots⟩ { g with stack := rest } (.invokevirtual index) mk (Value.ref b :: argsL).toArray X₁ hg hsize hdg hW (X₁.named hnamed) (hpre vm₁ X₁.warmed) with ⟨v, B, X', hpost, hsteps⟩ | ⟨q, B, X', hpost, hsteps⟩
  · exact Or.inl ⟨v, vm₁, B, X₁.warmed, X', hpost, fun target h => hstep₁ _ fun acts => by rw [doInvoke_state]; exact hsteps.trans h⟩
  · exact Or.inr ⟨q, vm₁, B, X₁.warmed, X', hpost, hstep₁ _ fun acts => by rw [doInvoke_state]; exact hsteps⟩
theorem vx_callSN (X : Stand p l e R s m args below meth c T locs cells slots) (hexec : p.tables.exec = Jvm.exec) {own : String} {index : Nat} {host : String} {y : MethodName} {bytes : ByteArray} {maxL : Nat} {ret : Option FieldType}
    (hown : s.vm.findClass own = some m.cls) (hlink : (Cond.methodLinkNest own index y host).before args s = true) (hstat : (Cond.static y).before args s = true) (hinit : (Cond.initialized y.cls).before args s = true)
    (hcode : (Cond.code y bytes maxL ret).before args s = true) (hy : y.cls ≠ "java/lang/invoke/MethodHandle" ∧ y.cls ≠ "java/lang/invoke/VarHandle")
    {W : Nat} {Pre : Pt → Array Value → Prop} {Post : Pt → Array Value → Option Value → Pt → Prop} {PostX : Pt → Array Value → Addr → Pt → Prop} (hK : vx_Back l R p e below s args y 3 W Pre Post PostX)
    {g : JFrame} (hg : g.method = m) (hsize : g.locals.size = c.maxLocals) {argsL rest : List Value} (hlen : ∀ sig, parseMethodDescriptor y.desc = some sig → argsL.length = sig.parameters.length)
    (hstack : g.stack = argsL.reverse ++ rest) (hW : 2 * g.monitorRoom + (rest.map fun v => v.category).sum ≤ W) (hdg : decode c.code g.pc = .ok (.invokestatic index, 3))
    (hpre : ∀ vm₁, s.WarmedH vm₁ → Pre ⟨T.setVm vm₁, locs, cells, slots⟩ argsL.toArray) :
    (∃ (v : Option Value) (vm₁ : Vm) (B : Pt), s.WarmedH vm₁ ∧ Stand p l e R s m args below meth c B.U B.locs B.cells B.slots ∧ Post ⟨T.setVm vm₁, locs, cells, slots⟩ argsL.toArray v B ∧
      ∀ target, Steps p.tables e below (B.U.setTop { g with pc := g.pc + 3, stack := v.toList ++ rest }) target → Steps p.tables e below (T.setTop g) target) ∨
    (∃ (q : Addr) (vm₁ : Vm) (B : Pt), s.WarmedH vm₁ ∧ Stand p l e R s m args below meth c B.U B.locs B.cells B.slots ∧ PostX ⟨T.setVm vm₁, locs, cells, slots⟩ argsL.toArray q B ∧
      Steps p.tables e below (T.setTop g) ((B.U.setTop { g with stack := rest }).pushFrame (.throwing q))) := by
  obtain ⟨mk, hnamed⟩ := Cond.code_named hcode
  obtain ⟨methM, cM, hmethM, -, -, -, -, -, -, hsigM⟩ := Cond.code_spec hnamed hcode
  have hstatic : methM.isStatic = true := Cond.static_spec hnamed hmethM hstat
  obtain ⟨kP, hkP, -⟩ := className_of_methodNamed hnamed
  have hinitP : kP.init = .initialized := Cond.initialized_spec (findClass_of_methodNamed hnamed) hkP hinit
  obtain ⟨vm₁, X₁, hstep₁⟩ := X.invokestaticNest hexec hown hlink hnamed hmethM hstatic hkP hinitP hy (g := g) hg (argsL := argsL) (rest := rest) (hlen _ hsigM) hstack hdg
  rcases hK m meth c ⟨T.setVm vm₁, locs, cells, slots⟩ { g with stack := rest } (.invokestatic index) mk argsL.toArray X₁ hg hsize hdg hW (X₁.named hnamed) (hpre vm₁ X₁.warmed) with ⟨v, B, X', hpost, hsteps⟩ | ⟨q, B, X', hpost, hsteps⟩
  · exact Or.inl ⟨v, vm₁, B, X₁.warmed, X', hpost, fun target h => hstep₁ _ fun acts => by rw [doInvoke_state]; exact hsteps.trans h⟩
  · exact Or.inr ⟨q, vm₁, B, X₁.warmed, X', hpost, hstep₁ _ fun acts => by rw [doInvoke_state]; exact hsteps⟩
theorem vx_runVN {y : MethodName} {bytes cc : ByteArray} {maxL nL mc ms n index : Nat} {ret : Option FieldType} {ws : List Cond} {rm : Room} {Pc : Array Value → State → Prop} {Qc : Array Value → State → Outcome → State → Prop} {XC : String → State → State → Prop} {free : Addr → Prop} {Ts : List Cond} {own C host : String} {b : Addr} {As rest : List Value} {g : JFrame}
    (S : CallFix p m c cc nL s args Ts own) (hM : vx_Met l y ws rm Pc Qc XC mc ms free) (cw : va_CN R s args own index y host bytes maxL ret ws rm mc ms n ∧ (Cond.instanceMethod y).before args s = true ∧ (Cond.selects C y y).before args s = true) (hp : PreV s H C b Pc As)
    (hg : g.method = m) (hn : As.length = n) (hsize : g.locals.size = nL) (hstack : g.stack = As.reverse ++ .ref b :: rest) (hW : 2 * g.monitorRoom + (rest.map fun v => v.category).sum ≤ 8) (hdg : decode cc g.pc = .ok (.invokevirtual index, 3)) (hf : cells + mc ≤ R.cells ∧ slots + ms ≤ R.slots) :
    vx_Run p l e R s m args below meth c H locs cells slots mc ms g rest (Qc (Value.ref b :: As).toArray) XC free := by
  obtain ⟨⟨⟨hrc, hrs, hfr, hlo, hws, hcw⟩, hcode, hini, hy, hlen, hl⟩, hx1, hx2⟩ := cw
  have hK : vx_Back l R p e below s args y 3 8 (PreOf R mc ms Pc) (PostOf Qc mc ms free) (vx_Post XC mc ms free) := vx_back (bytes := bytes) (maxL := maxL) (ret := ret) hM hp.1 hrc hrs hfr hlo hws hcw (fun a' U hW => word_at hW (Or.inl (by first | rfl | simp [Cond.onTables, Cond.keeps, Cond.steady])) hini)
  obtain ⟨hx, hb, hml, ho, -⟩ := S
  obtain ⟨-, ⟨cellB, hcB, hoB, hclB⟩, hPc⟩ := hp
  intro T hT X
  rcases vx_callVN X hx (C := C) (bytes := bytes) (maxL := maxL) (ret := ret) ho hl hx1 hx2 hcode hy hK (by rw [hT]; exact hcB) hoB hclB hg (hsize.trans hml.symm) (argsL := As) (rest := rest) (fun sig h => hn.trans (hlen sig h)) hstack hW (by rw [hb]; exact hdg)
    (fun vm₁ hW₁ => ⟨hf.1, hf.2, hPc (T.setVm vm₁) hT hW₁⟩) with ⟨v, vm₁, ⟨U', l2, c2, s2⟩, hW₁, X', ⟨g', mk, t, L, e1, e2, hq, h1, hL, h2, h3⟩, st⟩ | ⟨q, vm₁, ⟨U', l2, c2, s2⟩, hW₁, X', ⟨g', mk, t, L, E, ce, e1, e2, hq, hce, hcv, hcl, h1, hL, h2, h3⟩, st⟩
  · dsimp only [Pt.U, Pt.locs, Pt.cells, Pt.slots] at X' e1 e2 h1 h2 h3 st
    subst h1; subst h2; subst h3
    exact Or.inl ⟨v, (T.setVm vm₁).calling g' mk (Value.ref b :: As).toArray, t, U', L, hT, X', hL, e1, e2, hq, st⟩
  · dsimp only [Pt.U, Pt.locs, Pt.cells, Pt.slots] at X' e1 e2 h1 h2 h3 st hcl
    subst h1; subst h2; subst h3
    exact Or.inr ⟨q, (T.setVm vm₁).calling g' mk (Value.ref b :: As).toArray, t, U', L, E, ce, hT, X', hL, e1, e2, hq, hce, hcv, vx_cls hW₁ hcl, st⟩
theorem vx_runSN {y : MethodName} {bytes cc : ByteArray} {maxL nL mc ms n index : Nat} {ret : Option FieldType} {ws : List Cond} {rm : Room} {Pc : Array Value → State → Prop} {Qc : Array Value → State → Outcome → State → Prop} {XC : String → State → State → Prop} {free : Addr → Prop} {Ts : List Cond} {own host : String} {As rest : List Value} {g : JFrame}
    (S : CallFix p m c cc nL s args Ts own) (hM : vx_Met l y ws rm Pc Qc XC mc ms free) (cw : va_CN R s args own index y host bytes maxL ret ws rm mc ms n ∧ (Cond.static y).before args s = true ∧ True) (hp : PreS s H Pc As)
    (hg : g.method = m) (hn : As.length = n) (hsize : g.locals.size = nL) (hstack : g.stack = As.reverse ++ rest) (hW : 2 * g.monitorRoom + (rest.map fun v => v.category).sum ≤ 8) (hdg : decode cc g.pc = .ok (.invokestatic index, 3)) (hf : cells + mc ≤ R.cells ∧ slots + ms ≤ R.slots) :
    vx_Run p l e R s m args below meth c H locs cells slots mc ms g rest (Qc As.toArray) XC free := by
  obtain ⟨⟨⟨hrc, hrs, hfr, hlo, hws, hcw⟩, hcode, hini, hy, hlen, hl⟩, hx1, hx2⟩ := cw
  have hK : vx_Back l R p e below s args y 3 8 (PreOf R mc ms Pc) (PostOf Qc mc ms free) (vx_Post XC mc ms free) := vx_back (bytes := bytes) (maxL := maxL) (ret := ret) hM hp.1 hrc hrs hfr hlo hws hcw (fun a' U hW => word_at hW (Or.inl (by first | rfl | simp [Cond.onTables, Cond.keeps, Cond.steady])) hini)
  obtain ⟨hx, hb, hml, ho, -⟩ := S
  have hPc := hp.2
  intro T hT X
  rcases vx_callSN X hx (bytes := bytes) (maxL := maxL) (ret := ret) ho hl hx1 hini hcode hy hK hg (hsize.trans hml.symm) (argsL := As) (rest := rest) (fun sig h => hn.trans (hlen sig h)) hstack hW (by rw [hb]; exact hdg)
    (fun vm₁ hW₁ => ⟨hf.1, hf.2, hPc (T.setVm vm₁) hT hW₁⟩) with ⟨v, vm₁, ⟨U', l2, c2, s2⟩, hW₁, X', ⟨g', mk, t, L, e1, e2, hq, h1, hL, h2, h3⟩, st⟩ | ⟨q, vm₁, ⟨U', l2, c2, s2⟩, hW₁, X', ⟨g', mk, t, L, E, ce, e1, e2, hq, hce, hcv, hcl, h1, hL, h2, h3⟩, st⟩
  · dsimp only [Pt.U, Pt.locs, Pt.cells, Pt.slots] at X' e1 e2 h1 h2 h3 st
    subst h1; subst h2; subst h3
    exact Or.inl ⟨v, (T.setVm vm₁).calling g' mk As.toArray, t, U', L, hT, X', hL, e1, e2, hq, st⟩
  · dsimp only [Pt.U, Pt.locs, Pt.cells, Pt.slots] at X' e1 e2 h1 h2 h3 st hcl
    subst h1; subst h2; subst h3
    exact Or.inr ⟨q, (T.setVm vm₁).calling g' mk As.toArray, t, U', L, E, ce, hT, X', hL, e1, e2, hq, hce, hcv, vx_cls hW₁ hcl, st⟩
end
/-! ===== END ===== -/
/-! ===== BEGIN calls by an interface of methods that may throw (vx_callIF, vx_runF follow va_callIF, va_runF of this kit) ===== -/
section
variable {p : Program} {l : Launch} {e : Env} {R : Room} {s : State} {m : MethodId} {args : Array Value} {below : List Frame} {meth : Method} {c : Code} {H : Heap} {locs : List Loc} {cells slots : Nat} {Q : State → Prop}
variable {mc ms : Nat} {free : Addr → Prop} {A0 A1 : Nat → Prop} {H0 : Heap} {a : Array Value} {pc : Nat} {ls : Array Slot} {st0 rest : List Value}
def vx_Run5 (p : Program) (l : Launch) (e : Env) (R : Room) (s : State) (m : MethodId) (args : Array Value) (below : List Frame) (meth : Method) (c : Code) (H : Heap) (locs : List Loc) (cells slots mc ms : Nat) (g : JFrame) (rest : List Value) (Qa : State → Outcome → State → Prop) (XC : String → State → State → Prop) (free : Addr → Prop) : Prop :=
  ∀ T : State, T.heap = H → Stand p l e R s m args below meth c T locs cells slots →
    (∃ (v : Option Value) (st₀ t T' : State) (L : List Loc), st₀.heap = H ∧ Stand p l e R s m args below meth c T' (locs ++ L) (cells + mc) (slots + ms) ∧ (∀ q ∈ L, free q.base) ∧ T'.heap = t.heap ∧ T'.vm = t.vm ∧ Qa st₀ (.returned v) t ∧
      Goes p e below T g T' { g with pc := g.pc + 5, stack := v.toList ++ rest }) ∨
    (∃ (q : Addr) (st₀ t T' : State) (L : List Loc) (E : String) (ce : Cell), st₀.heap = H ∧ Stand p l e R s m args below meth c T' (locs ++ L) (cells + mc) (slots + ms) ∧ (∀ z ∈ L, free z.base) ∧ T'.heap = t.heap ∧ T'.vm = t.vm ∧ XC E st₀ t ∧ t.heap[q]? = some ce ∧ ce.vm = .none ∧ s.vm.findClass E = some ce.cls ∧
      Steps p.tables e below (T.setTop g) ((T'.setTop { g with stack := rest }).pushFrame (.throwing q)))
theorem vx_callIF {T : State} (X : Stand p l e R s m args below meth c T locs cells slots) (hexec : p.tables.exec = Jvm.exec) {own C : String} {index count : Nat} {x y : MethodName} {bytes : ByteArray} {maxL : Nat} {ret : Option FieldType}
    (hown : s.vm.findClass own = some m.cls) (hlink : (Cond.methodLink own index x).before args s = true) (hdecl : (Cond.declares x).before args s = true) (hface : (Cond.interfaceMethod x.cls x.cls x.name x.desc).before args s = true)
    (hsel : (Cond.selects C x y).before args s = true) (hinst : (Cond.instanceMethod y).before args s = true) (hpub : (Cond.publicMethod y).before args s = true) (hunh : (Cond.unhidden C x.name x.desc).before args s = true)
    (hcast : (Cond.castable C x.cls).before args s = true) (hcode : (Cond.code y bytes maxL ret).before args s = true) (hx : x.cls ≠ "java/lang/invoke/MethodHandle" ∧ x.cls ≠ "java/lang/invoke/VarHandle")
    {W9 : Nat} {Pre : Pt → Array Value → Prop} {Post : Pt → Array Value → Option Value → Pt → Prop} {PostX : Pt → Array Value → Addr → Pt → Prop} (hK : vx_Back l R p e below s args y 5 W9 Pre Post PostX)
    {b : Addr} {cellB : Cell} {kB : Class} (hcell : T.heap[b]? = some cellB) (hobj : cellB.vm.isStatics = false) (hcls : s.vm.findClass C = some cellB.cls) (hkB : s.vm.classes[cellB.cls]? = some kB)
    {g : JFrame} (hg : g.method = m) (hsize : g.locals.size = c.maxLocals) {argsL rest : List Value} (hlen : ∀ sig, parseMethodDescriptor x.desc = some sig → argsL.length = sig.parameters.length)
    (hstack : g.stack = argsL.reverse ++ .ref b :: rest) (hW : 2 * g.monitorRoom + (rest.map fun v => v.category).sum ≤ W9) (hdg : decode c.code g.pc = .ok (.invokeinterface index count, 5))
    (hpre : ∀ vm₁, s.WarmedH vm₁ → Pre ⟨T.setVm vm₁, locs, cells, slots⟩ (Value.ref b :: argsL).toArray) :
    (∃ (v : Option Value) (vm₁ : Vm) (B : Pt), s.WarmedH vm₁ ∧ Stand p l e R s m args below meth c B.U B.locs B.cells B.slots ∧ Post ⟨T.setVm vm₁, locs, cells, slots⟩ (Value.ref b :: argsL).toArray v B ∧
      ∀ target, Steps p.tables e below (B.U.setTop { g with pc := g.pc + 5, stack := v.toList ++ rest }) target → Steps p.tables e below (T.setTop g) target) ∨
    (∃ (q : Addr) (vm₁ : Vm) (B : Pt), s.WarmedH vm₁ ∧ Stand p l e R s m args below meth c B.U B.locs B.cells B.slots ∧ PostX ⟨T.setVm vm₁, locs, cells, slots⟩ (Value.ref b :: argsL).toArray q B ∧
      Steps p.tables e below (T.setTop g) ((B.U.setTop { g with stack := rest }).pushFrame (.throwing q))) := by
  obtain ⟨r0, r, hn, hrm, hstR, hsigR⟩ := Cond.declares_spec hdecl
  obtain ⟨cL, kL, r1, hcL, hkL, hiL, hfoundL, hn1⟩ := Cond.interfaceMethod_spec hface
  cases hn.symm.trans hn1
  have hr0cls : r0.cls = cL := Option.some.inj ((findClass_of_methodNamed hn).symm.trans hcL)
  obtain ⟨hnameR, hdescR⟩ := name_of_methodNamed hn hrm
  obtain ⟨mk, methM, hnamed, hmethM, -, habM⟩ := Cond.instanceMethod_spec hinst
  obtain ⟨c2, r2, m2, q1, q2, q3, q4, -⟩ := Cond.selects_spec hsel
  cases hcls.symm.trans q1
  cases hfoundL.symm.trans q2
  cases hnamed.symm.trans q3
  have hselP : selectMethod e.platform s.vm cellB.cls r0 = .method mk := by rw [Launch.admits_selectMethod X.admits]; exact q4
  have hpubM : hasFlag methM.accessFlags Acc.public_ = true := Cond.publicMethod_spec hnamed hmethM hpub
  have hway : ((cellB.cls :: s.vm.superclasses cellB.cls).any fun k => (declaredIn s.vm r.name r.desc k).any fun (_, z) => z.isPrivate || z.isStatic) = false := by
    rw [hnameR, hdescR]; exact Cond.unhidden_spec hcls hunh
  obtain ⟨c3, t3, w1, w2, w3⟩ := Cond.castable_spec hcast
  cases hcls.symm.trans w1
  cases hcL.symm.trans w2
  obtain ⟨vm₁, X₁, hstep₁⟩ := X.invokeinterface hexec hown hlink hn hrm hstR (by rw [hr0cls]; exact hkL) hiL hx (a := b) (cell := cellB) (kcell := kB) hcell
    (fun z h => by rw [h] at hobj; cases hobj) hkB (by rw [hr0cls]; exact w3) hselP hmethM hway hpubM habM (g := g) hg (argsL := argsL) (rest := rest) (hlen _ hsigR) hstack hdg
  rcases hK m meth c ⟨T.setVm vm₁, locs, cells, slots⟩ { g with stack := rest } (.invokeinterface index count) mk (Value.ref b :: argsL).toArray X₁ hg hsize hdg hW (X₁.named hnamed) (hpre vm₁ X₁.warmed) with ⟨v, B, X', hpost, hsteps⟩ | ⟨q, B, X', hpost, hsteps⟩
  · exact Or.inl ⟨v, vm₁, B, X₁.warmed, X', hpost, fun target h => hstep₁ _ fun acts => by rw [doInvoke_state]; exact hsteps.trans h⟩
  · exact Or.inr ⟨q, vm₁, B, X₁.warmed, X', hpost, hstep₁ _ fun acts => by rw [doInvoke_state]; exact hsteps⟩
theorem vx_runF {x y : MethodName} {bytes cc : ByteArray} {maxL nL mc ms n index count : Nat} {ret : Option FieldType} {ws : List Cond} {rm : Room} {Pc : Array Value → State → Prop} {Qc : Array Value → State → Outcome → State → Prop} {XC : String → State → State → Prop} {free : Addr → Prop} {Ts : List Cond} {own C : String} {cC : ClassId} {b : Addr} {As rest : List Value} {g : JFrame}
    (hat : ClassAt s C cC) (S : CallFix p m c cc nL s args Ts own) (hM : vx_Met l y ws rm Pc Qc XC mc ms free) (cw : va_CI R s args own C index x y bytes maxL ret ws rm mc ms n) (hp : PreV s H C b Pc As)
    (hg : g.method = m) (hn : As.length = n) (hsize : g.locals.size = nL) (hstack : g.stack = As.reverse ++ .ref b :: rest) (hW : 2 * g.monitorRoom + (rest.map fun v => v.category).sum ≤ 8) (hdg : decode cc g.pc = .ok (.invokeinterface index count, 5)) (hf : cells + mc ≤ R.cells ∧ slots + ms ≤ R.slots) :
    vx_Run5 p l e R s m args below meth c H locs cells slots mc ms g rest (Qc (Value.ref b :: As).toArray) XC free := by
  obtain ⟨hrc, hrs, hfr, hlo, hws, hcw⟩ := cw.back
  have hini := cw.init
  have hK : vx_Back l R p e below s args y 5 8 (PreOf R mc ms Pc) (PostOf Qc mc ms free) (vx_Post XC mc ms free) := vx_back (bytes := bytes) (maxL := maxL) (ret := ret) hM hp.1 hrc hrs hfr hlo hws hcw (fun a' U hW => word_at hW (Or.inl (by first | rfl | simp [Cond.onTables, Cond.keeps, Cond.steady])) hini)
  obtain ⟨hx, hb, hml, ho, -⟩ := S
  obtain ⟨-, ⟨cellB, hcB, hoB, hclB⟩, hPc⟩ := hp
  obtain ⟨hfc, kB, hkB, -⟩ := hat
  cases hfc.symm.trans hclB
  intro T hT X
  rcases vx_callIF X hx (C := C) (bytes := bytes) (maxL := maxL) (ret := ret) ho cw.link cw.decl cw.face cw.sel cw.inst cw.pub cw.unh cw.cast cw.code cw.notMH hK (by rw [hT]; exact hcB) hoB hclB hkB hg (hsize.trans hml.symm) (argsL := As) (rest := rest) (fun sig h => hn.trans (cw.len sig h)) hstack hW (by rw [hb]; exact hdg)
    (fun vm₁ hW₁ => ⟨hf.1, hf.2, hPc (T.setVm vm₁) hT hW₁⟩) with ⟨v, vm₁, ⟨U', l2, c2, s2⟩, hW₁, X', ⟨g', mk, t, L, e1, e2, hq, h1, hL, h2, h3⟩, st⟩ | ⟨q, vm₁, ⟨U', l2, c2, s2⟩, hW₁, X', ⟨g', mk, t, L, E, ce, e1, e2, hq, hce, hcv, hcl, h1, hL, h2, h3⟩, st⟩
  · dsimp only [Pt.U, Pt.locs, Pt.cells, Pt.slots] at X' e1 e2 h1 h2 h3 st
    subst h1; subst h2; subst h3
    exact Or.inl ⟨v, (T.setVm vm₁).calling g' mk (Value.ref b :: As).toArray, t, U', L, hT, X', hL, e1, e2, hq, st⟩
  · dsimp only [Pt.U, Pt.locs, Pt.cells, Pt.slots] at X' e1 e2 h1 h2 h3 st hcl
    subst h1; subst h2; subst h3
    exact Or.inr ⟨q, (T.setVm vm₁).calling g' mk (Value.ref b :: As).toArray, t, U', L, E, ce, hT, X', hL, e1, e2, hq, hce, hcv, vx_cls hW₁ hcl, st⟩
theorem vx_callFv {S SX : Type} {post : S → Prop} {px : SX → Prop} {B : S → State → Prop} {BX : String → SX → State → Prop} {AX : Nat → Prop} (hr : vx_Run5 p l e R s m args below meth c H locs cells slots mc ms (F0 m pc ls st0) rest (va_Qv post B A1 a) (vx_X px BX AX) free) (hS : va_S A0 H0 H locs) (hA : ∀ q, q < H.size → A1 q → A0 q) (hf : ∀ q, free q → A0 q) (hAX : ∀ q, q < H.size → AX q → A0 q)
    (kx : ∀ (E : String) (ce : Cell) (q9 : Addr) (u : SX) (t : State) (H1 : Heap) (locs1 : List Loc), t.heap = H1 → s.vm.Alike t.vm → px u → BX E u t → H.size ≤ H1.size → (∀ q : Nat, q < H.size → ¬ AX q → H1[q]? = H[q]?) → va_S A0 H0 H1 locs1 → H1[q9]? = some ce → ce.vm = .none → s.vm.findClass E = some ce.cls → vx_W p l e R s m args below meth c H1 locs1 (cells + mc) (slots + ms) Q (F0 m pc ls rest) q9)
    (kk : ∀ (u : S) (t : State) (H1 : Heap) (locs1 : List Loc), t.heap = H1 → s.vm.Alike t.vm → post u → B u t → H.size ≤ H1.size → (∀ q : Nat, q < H.size → ¬ A1 q → H1[q]? = H[q]?) → va_S A0 H0 H1 locs1 → W p l e R s m args below meth c H1 locs1 (cells + mc) (slots + ms) Q (F0 m (pc + 5) ls (rest))) : W p l e R s m args below meth c H locs cells slots Q (F0 m pc ls st0) := by
  intro T hT X
  rcases hr T hT X with ⟨v, st₀, t, T', L, h0, X', hL, e1, e2, ⟨⟨u, hv, hp, hb⟩, hF⟩, st⟩ | ⟨q, st₀, t, T', L, E, ce, h0, X', hL, e1, e2, ⟨u, hp, hb, hF⟩, hce, hcv, hcl, st⟩
  · cases hv
    obtain ⟨k1, k2, k3⟩ := vx_keep h0 e1 hS hA hf hL hF
    obtain ⟨t2, a1, b1⟩ := kk u t T'.heap (locs ++ L) e1.symm (by rw [← e2]; exact X'.warmed.alike) hp hb k1 k2 k3 T' rfl X'
    exact ⟨t2, st t2 a1, b1⟩
  · obtain ⟨k1, k2, k3⟩ := vx_keep h0 e1 hS hAX hf hL hF
    obtain ⟨t2, a1, b1⟩ := kx E ce q u t T'.heap (locs ++ L) e1.symm (by rw [← e2]; exact X'.warmed.alike) hp hb k1 k2 k3 (by rw [e1]; exact hce) hcv hcl T' rfl X'
    exact ⟨t2, st.trans a1, b1⟩
theorem vx_callFi {S SX : Type} {post : Int32 → S → Prop} {px : SX → Prop} {B : S → State → Prop} {BX : String → SX → State → Prop} {AX : Nat → Prop} (hr : vx_Run5 p l e R s m args below meth c H locs cells slots mc ms (F0 m pc ls st0) rest (va_Qi post B A1 a) (vx_X px BX AX) free) (hS : va_S A0 H0 H locs) (hA : ∀ q, q < H.size → A1 q → A0 q) (hf : ∀ q, free q → A0 q) (hAX : ∀ q, q < H.size → AX q → A0 q)
    (kx : ∀ (E : String) (ce : Cell) (q9 : Addr) (u : SX) (t : State) (H1 : Heap) (locs1 : List Loc), t.heap = H1 → s.vm.Alike t.vm → px u → BX E u t → H.size ≤ H1.size → (∀ q : Nat, q < H.size → ¬ AX q → H1[q]? = H[q]?) → va_S A0 H0 H1 locs1 → H1[q9]? = some ce → ce.vm = .none → s.vm.findClass E = some ce.cls → vx_W p l e R s m args below meth c H1 locs1 (cells + mc) (slots + ms) Q (F0 m pc ls rest) q9)
    (kk : ∀ (r : Int32) (u : S) (t : State) (H1 : Heap) (locs1 : List Loc), t.heap = H1 → s.vm.Alike t.vm → post r u → B u t → H.size ≤ H1.size → (∀ q : Nat, q < H.size → ¬ A1 q → H1[q]? = H[q]?) → va_S A0 H0 H1 locs1 → W p l e R s m args below meth c H1 locs1 (cells + mc) (slots + ms) Q (F0 m (pc + 5) ls (.int r :: rest))) : W p l e R s m args below meth c H locs cells slots Q (F0 m pc ls st0) := by
  intro T hT X
  rcases hr T hT X with ⟨v, st₀, t, T', L, h0, X', hL, e1, e2, ⟨⟨r, u, hv, hp, hb⟩, hF⟩, st⟩ | ⟨q, st₀, t, T', L, E, ce, h0, X', hL, e1, e2, ⟨u, hp, hb, hF⟩, hce, hcv, hcl, st⟩
  · cases hv
    obtain ⟨k1, k2, k3⟩ := vx_keep h0 e1 hS hA hf hL hF
    obtain ⟨t2, a1, b1⟩ := kk r u t T'.heap (locs ++ L) e1.symm (by rw [← e2]; exact X'.warmed.alike) hp hb k1 k2 k3 T' rfl X'
    exact ⟨t2, st t2 a1, b1⟩
  · obtain ⟨k1, k2, k3⟩ := vx_keep h0 e1 hS hAX hf hL hF
    obtain ⟨t2, a1, b1⟩ := kx E ce q u t T'.heap (locs ++ L) e1.symm (by rw [← e2]; exact X'.warmed.alike) hp hb k1 k2 k3 (by rw [e1]; exact hce) hcv hcl T' rfl X'
    exact ⟨t2, st.trans a1, b1⟩
theorem vx_callFl {S SX : Type} {post : Int64 → S → Prop} {px : SX → Prop} {B : S → State → Prop} {BX : String → SX → State → Prop} {AX : Nat → Prop} (hr : vx_Run5 p l e R s m args below meth c H locs cells slots mc ms (F0 m pc ls st0) rest (va_Ql post B A1 a) (vx_X px BX AX) free) (hS : va_S A0 H0 H locs) (hA : ∀ q, q < H.size → A1 q → A0 q) (hf : ∀ q, free q → A0 q) (hAX : ∀ q, q < H.size → AX q → A0 q)
    (kx : ∀ (E : String) (ce : Cell) (q9 : Addr) (u : SX) (t : State) (H1 : Heap) (locs1 : List Loc), t.heap = H1 → s.vm.Alike t.vm → px u → BX E u t → H.size ≤ H1.size → (∀ q : Nat, q < H.size → ¬ AX q → H1[q]? = H[q]?) → va_S A0 H0 H1 locs1 → H1[q9]? = some ce → ce.vm = .none → s.vm.findClass E = some ce.cls → vx_W p l e R s m args below meth c H1 locs1 (cells + mc) (slots + ms) Q (F0 m pc ls rest) q9)
    (kk : ∀ (r : Int64) (u : S) (t : State) (H1 : Heap) (locs1 : List Loc), t.heap = H1 → s.vm.Alike t.vm → post r u → B u t → H.size ≤ H1.size → (∀ q : Nat, q < H.size → ¬ A1 q → H1[q]? = H[q]?) → va_S A0 H0 H1 locs1 → W p l e R s m args below meth c H1 locs1 (cells + mc) (slots + ms) Q (F0 m (pc + 5) ls (.long r :: rest))) : W p l e R s m args below meth c H locs cells slots Q (F0 m pc ls st0) := by
  intro T hT X
  rcases hr T hT X with ⟨v, st₀, t, T', L, h0, X', hL, e1, e2, ⟨⟨r, u, hv, hp, hb⟩, hF⟩, st⟩ | ⟨q, st₀, t, T', L, E, ce, h0, X', hL, e1, e2, ⟨u, hp, hb, hF⟩, hce, hcv, hcl, st⟩
  · cases hv
    obtain ⟨k1, k2, k3⟩ := vx_keep h0 e1 hS hA hf hL hF
    obtain ⟨t2, a1, b1⟩ := kk r u t T'.heap (locs ++ L) e1.symm (by rw [← e2]; exact X'.warmed.alike) hp hb k1 k2 k3 T' rfl X'
    exact ⟨t2, st t2 a1, b1⟩
  · obtain ⟨k1, k2, k3⟩ := vx_keep h0 e1 hS hAX hf hL hF
    obtain ⟨t2, a1, b1⟩ := kx E ce q u t T'.heap (locs ++ L) e1.symm (by rw [← e2]; exact X'.warmed.alike) hp hb k1 k2 k3 (by rw [e1]; exact hce) hcv hcl T' rfl X'
    exact ⟨t2, st.trans a1, b1⟩
theorem vx_callFf {S SX : Type} {post : UInt32 → S → Prop} {px : SX → Prop} {B : S → State → Prop} {BX : String → SX → State → Prop} {AX : Nat → Prop} (hr : vx_Run5 p l e R s m args below meth c H locs cells slots mc ms (F0 m pc ls st0) rest (va_Qf post B A1 a) (vx_X px BX AX) free) (hS : va_S A0 H0 H locs) (hA : ∀ q, q < H.size → A1 q → A0 q) (hf : ∀ q, free q → A0 q) (hAX : ∀ q, q < H.size → AX q → A0 q)
    (kx : ∀ (E : String) (ce : Cell) (q9 : Addr) (u : SX) (t : State) (H1 : Heap) (locs1 : List Loc), t.heap = H1 → s.vm.Alike t.vm → px u → BX E u t → H.size ≤ H1.size → (∀ q : Nat, q < H.size → ¬ AX q → H1[q]? = H[q]?) → va_S A0 H0 H1 locs1 → H1[q9]? = some ce → ce.vm = .none → s.vm.findClass E = some ce.cls → vx_W p l e R s m args below meth c H1 locs1 (cells + mc) (slots + ms) Q (F0 m pc ls rest) q9)
    (kk : ∀ (r : UInt32) (u : S) (t : State) (H1 : Heap) (locs1 : List Loc), t.heap = H1 → s.vm.Alike t.vm → post r u → B u t → H.size ≤ H1.size → (∀ q : Nat, q < H.size → ¬ A1 q → H1[q]? = H[q]?) → va_S A0 H0 H1 locs1 → W p l e R s m args below meth c H1 locs1 (cells + mc) (slots + ms) Q (F0 m (pc + 5) ls (.float r :: rest))) : W p l e R s m args below meth c H locs cells slots Q (F0 m pc ls st0) := by
  intro T hT X
  rcases hr T hT X with ⟨v, st₀, t, T', L, h0, X', hL, e1, e2, ⟨⟨r, u, hv, hp, hb⟩, hF⟩, st⟩ | ⟨q, st₀, t, T', L, E, ce, h0, X', hL, e1, e2, ⟨u, hp, hb, hF⟩, hce, hcv, hcl, st⟩
  · cases hv
    obtain ⟨k1, k2, k3⟩ := vx_keep h0 e1 hS hA hf hL hF
    obtain ⟨t2, a1, b1⟩ := kk r u t T'.heap (locs ++ L) e1.symm (by rw [← e2]; exact X'.warmed.alike) hp hb k1 k2 k3 T' rfl X'
    exact ⟨t2, st t2 a1, b1⟩
  · obtain ⟨k1, k2, k3⟩ := vx_keep h0 e1 hS hAX hf hL hF
    obtain ⟨t2, a1, b1⟩ := kx E ce q u t T'.heap (locs ++ L) e1.symm (by rw [← e2]; exact X'.warmed.alike) hp hb k1 k2 k3 (by rw [e1]; exact hce) hcv hcl T' rfl X'
    exact ⟨t2, st.trans a1, b1⟩
theorem vx_callFd {S SX : Type} {post : UInt64 → S → Prop} {px : SX → Prop} {B : S → State → Prop} {BX : String → SX → State → Prop} {AX : Nat → Prop} (hr : vx_Run5 p l e R s m args below meth c H locs cells slots mc ms (F0 m pc ls st0) rest (va_Qd post B A1 a) (vx_X px BX AX) free) (hS : va_S A0 H0 H locs) (hA : ∀ q, q < H.size → A1 q → A0 q) (hf : ∀ q, free q → A0 q) (hAX : ∀ q, q < H.size → AX q → A0 q)
    (kx : ∀ (E : String) (ce : Cell) (q9 : Addr) (u : SX) (t : State) (H1 : Heap) (locs1 : List Loc), t.heap = H1 → s.vm.Alike t.vm → px u → BX E u t → H.size ≤ H1.size → (∀ q : Nat, q < H.size → ¬ AX q → H1[q]? = H[q]?) → va_S A0 H0 H1 locs1 → H1[q9]? = some ce → ce.vm = .none → s.vm.findClass E = some ce.cls → vx_W p l e R s m args below meth c H1 locs1 (cells + mc) (slots + ms) Q (F0 m pc ls rest) q9)
    (kk : ∀ (r : UInt64) (u : S) (t : State) (H1 : Heap) (locs1 : List Loc), t.heap = H1 → s.vm.Alike t.vm → post r u → B u t → H.size ≤ H1.size → (∀ q : Nat, q < H.size → ¬ A1 q → H1[q]? = H[q]?) → va_S A0 H0 H1 locs1 → W p l e R s m args below meth c H1 locs1 (cells + mc) (slots + ms) Q (F0 m (pc + 5) ls (.double r :: rest))) : W p l e R s m args below meth c H locs cells slots Q (F0 m pc ls st0) := by
  intro T hT X
  rcases hr T hT X with ⟨v, st₀, t, T', L, h0, X', hL, e1, e2, ⟨⟨r, u, hv, hp, hb⟩, hF⟩, st⟩ | ⟨q, st₀, t, T', L, E, ce, h0, X', hL, e1, e2, ⟨u, hp, hb, hF⟩, hce, hcv, hcl, st⟩
  · cases hv
    obtain ⟨k1, k2, k3⟩ := vx_keep h0 e1 hS hA hf hL hF
    obtain ⟨t2, a1, b1⟩ := kk r u t T'.heap (locs ++ L) e1.symm (by rw [← e2]; exact X'.warmed.alike) hp hb k1 k2 k3 T' rfl X'
    exact ⟨t2, st t2 a1, b1⟩
  · obtain ⟨k1, k2, k3⟩ := vx_keep h0 e1 hS hAX hf hL hF
    obtain ⟨t2, a1, b1⟩ := kx E ce q u t T'.heap (locs ++ L) e1.symm (by rw [← e2]; exact X'.warmed.alike) hp hb k1 k2 k3 (by rw [e1]; exact hce) hcv hcl T' rfl X'
    exact ⟨t2, st.trans a1, b1⟩
end
/-! ===== END ===== -/
/-! ===== BEGIN by an interface, a method with a table of its own that may throw (follows va_callIFW, va_runFW) ===== -/
section
variable {p : Program} {l : Launch} {e : Env} {R : Room} {s : State} {m : MethodId} {args : Array Value} {below : List Frame} {meth : Method} {c : Code} {H : Heap} {locs : List Loc} {cells slots : Nat}
theorem vx_callIFW {T : State} (X : Stand p l e R s m args below meth c T locs cells slots) (hexec : p.tables.exec = Jvm.exec) {own C : String} {index count : Nat} {x y : MethodName} {bytes : ByteArray} {maxL : Nat} {ret : Option FieldType} {hh : List (Nat × Nat × Nat × Nat)}
    (hown : s.vm.findClass own = some m.cls) (hlink : (Cond.methodLink own index x).before args s = true) (hdecl : (Cond.declares x).before args s = true) (hface : (Cond.interfaceMethod x.cls x.cls x.name x.desc).before args s = true)
    (hsel : (Cond.selects C x y).before args s = true) (hinst : (Cond.instanceMethod y).before args s = true) (hpub : (Cond.publicMethod y).before args s = true) (hunh : (Cond.unhidden C x.name x.desc).before args s = true)
    (hcast : (Cond.castable C x.cls).before args s = true) (hcode : (Cond.codeWith y bytes maxL ret hh).before args s = true) (hx : x.cls ≠ "java/lang/invoke/MethodHandle" ∧ x.cls ≠ "java/lang/invoke/VarHandle")
    {W : Nat} {Pre : Pt → Array Value → Prop} {Post : Pt → Array Value → Option Value → Pt → Prop} {PostX : Pt → Array Value → Addr → Pt → Prop} (hK : vx_Back l R p e below s args y 5 W Pre Post PostX)
    {b : Addr} {cellB : Cell} {kB : Class} (hcell : T.heap[b]? = some cellB) (hobj : cellB.vm.isStatics = false) (hcls : s.vm.findClass C = some cellB.cls) (hkB : s.vm.classes[cellB.cls]? = some kB)
    {g : JFrame} (hg : g.method = m) (hsize : g.locals.size = c.maxLocals) {argsL rest : List Value} (hlen : ∀ sig, parseMethodDescriptor x.desc = some sig → argsL.length = sig.parameters.length)
    (hstack : g.stack = argsL.reverse ++ .ref b :: rest) (hW : 2 * g.monitorRoom + (rest.map fun v => v.category).sum ≤ W) (hdg : decode c.code g.pc = .ok (.invokeinterface index count, 5))
    (hpre : ∀ vm₁, s.WarmedH vm₁ → Pre ⟨T.setVm vm₁, locs, cells, slots⟩ (Value.ref b :: argsL).toArray) :
    (∃ (v : Option Value) (vm₁ : Vm) (B : Pt), s.WarmedH vm₁ ∧ Stand p l e R s m args below meth c B.U B.locs B.cells B.slots ∧ Post ⟨T.setVm vm₁, locs, cells, slots⟩ (Value.ref b :: argsL).toArray v B ∧
      ∀ target, Steps p.tables e below (B.U.setTop { g with pc := g.pc + 5, stack := v.toList ++ rest }) target → Steps p.tables e below (T.setTop g) target) ∨
    (∃ (q : Addr) (vm₁ : Vm) (B : Pt), s.WarmedH vm₁ ∧ Stand p l e R s m args below meth c B.U B.locs B.cells B.slots ∧ PostX ⟨T.setVm vm₁, locs, cells, slots⟩ (Value.ref b :: argsL).toArray q B ∧
      Steps p.tables e below (T.setTop g) ((B.U.setTop { g with stack := rest }).pushFrame (.throwing q))) := by
  obtain ⟨r0, r, hn, hrm, hstR, hsigR⟩ := Cond.declares_spec hdecl
  obtain ⟨cL, kL, r1, hcL, hkL, hiL, hfoundL, hn1⟩ := Cond.interfaceMethod_spec hface
  cases hn.symm.trans hn1
  have hr0cls : r0.cls = cL := Option.some.inj ((findClass_of_methodNamed hn).symm.trans hcL)
  obtain ⟨hnameR, hdescR⟩ := name_of_methodNamed hn hrm
  obtain ⟨mk, methM, hnamed, hmethM, -, habM⟩ := Cond.instanceMethod_spec hinst
  obtain ⟨c2, r2, m2, q1, q2, q3, q4, -⟩ := Cond.selects_spec hsel
  cases hcls.symm.trans q1
  cases hfoundL.symm.trans q2
  cases hnamed.symm.trans q3
  have hselP : selectMethod e.platform s.vm cellB.cls r0 = .method mk := by rw [Launch.admits_selectMethod X.admits]; exact q4
  have hpubM : hasFlag methM.accessFlags Acc.public_ = true := Cond.publicMethod_spec hnamed hmethM hpub
  have hway : ((cellB.cls :: s.vm.superclasses cellB.cls).any fun k => (declaredIn s.vm r.name r.desc k).any fun (_, z) => z.isPrivate || z.isStatic) = false := by
    rw [hnameR, hdescR]; exact Cond.unhidden_spec hcls hunh
  obtain ⟨c3, t3, w1, w2, w3⟩ := Cond.castable_spec hcast
  cases hcls.symm.trans w1
  cases hcL.symm.trans w2
  obtain ⟨vm₁, X₁, hstep₁⟩ := X.invokeinterface hexec hown hlink hn hrm hstR (by rw [hr0cls]; exact hkL) hiL hx (a := b) (cell := cellB) (kcell := kB) hcell
    (fun z h => by rw [h] at hobj; cases hobj) hkB (by rw [hr0cls]; exact w3) hselP hmethM hway hpubM habM (g := g) hg (argsL := argsL) (rest := rest) (hlen _ hsigR) hstack hdg
  rcases hK m meth c ⟨T.setVm vm₁, locs, cells, slots⟩ { g with stack := rest } (.invokeinterface index count) mk (Value.ref b :: argsL).toArray X₁ hg hsize hdg hW (X₁.named hnamed) (hpre vm₁ X₁.warmed) with ⟨v, B, X', hpost, hsteps⟩ | ⟨q, B, X', hpost, hsteps⟩
  · exact Or.inl ⟨v, vm₁, B, X₁.warmed, X', hpost, fun target h => hstep₁ _ fun acts => by rw [doInvoke_state]; exact hsteps.trans h⟩
  · exact Or.inr ⟨q, vm₁, B, X₁.warmed, X', hpost, hstep₁ _ fun acts => by rw [doInvoke_state]; exact hsteps⟩
theorem vx_runFW {x y : MethodName} {bytes cc : ByteArray} {maxL nL mc ms n index count : Nat} {ret : Option FieldType} {hh : List (Nat × Nat × Nat × Nat)} {ws : List Cond} {rm : Room} {Pc : Array Value → State → Prop} {Qc : Array Value → State → Outcome → State → Prop} {XC : String → State → State → Prop} {free : Addr → Prop} {Ts : List Cond} {own C : String} {cC : ClassId} {b : Addr} {As rest : List Value} {g : JFrame}
    (hat : ClassAt s C cC) (S : CallFix p m c cc nL s args Ts own) (hM : vx_Met l y ws rm Pc Qc XC mc ms free) (cw : va_CIW R s args own C index x y bytes maxL ret hh ws rm mc ms n) (hp : PreV s H C b Pc As)
    (hg : g.method = m) (hn : As.length = n) (hsize : g.locals.size = nL) (hstack : g.stack = As.reverse ++ .ref b :: rest) (hW : 2 * g.monitorRoom + (rest.map fun v => v.category).sum ≤ 8) (hdg : decode cc g.pc = .ok (.invokeinterface index count, 5)) (hf : cells + mc ≤ R.cells ∧ slots + ms ≤ R.slots) :
    vx_Run5 p l e R s m args below meth c H locs cells slots mc ms g rest (Qc (Value.ref b :: As).toArray) XC free := by
  obtain ⟨hrc, hrs, hfr, hlo, hws, hcw⟩ := cw.back
  have hini := cw.init
  have hK : vx_Back l R p e below s args y 5 8 (PreOf R mc ms Pc) (PostOf Qc mc ms free) (vx_Post XC mc ms free) := vx_backW (hh := hh) (bytes := bytes) (maxL := maxL) (ret := ret) hM hp.1 hrc hrs hfr hlo hws hcw (fun a' U hW => word_at hW (Or.inl (by first | rfl | simp [Cond.onTables, Cond.keeps, Cond.steady])) hini)
  obtain ⟨hx, hb, hml, ho, -⟩ := S
  obtain ⟨-, ⟨cellB, hcB, hoB, hclB⟩, hPc⟩ := hp
  obtain ⟨hfc, kB, hkB, -⟩ := hat
  cases hfc.symm.trans hclB
  intro T hT X
  rcases vx_callIFW X hx (C := C) (hh := hh) (bytes := bytes) (maxL := maxL) (ret := ret) ho cw.link cw.decl cw.face cw.sel cw.inst cw.pub cw.unh cw.cast cw.code cw.notMH hK (by rw [hT]; exact hcB) hoB hclB hkB hg (hsize.trans hml.symm) (argsL := As) (rest := rest) (fun sig h => hn.trans (cw.len sig h)) hstack hW (by rw [hb]; exact hdg)
    (fun vm₁ hW₁ => ⟨hf.1, hf.2, hPc (T.setVm vm₁) hT hW₁⟩) with ⟨v, vm₁, ⟨U', l2, c2, s2⟩, hW₁, X', ⟨g', mk, t, L, e1, e2, hq, h1, hL, h2, h3⟩, st⟩ | ⟨q, vm₁, ⟨U', l2, c2, s2⟩, hW₁, X', ⟨g', mk, t, L, E, ce, e1, e2, hq, hce, hcv, hcl, h1, hL, h2, h3⟩, st⟩
  · dsimp only [Pt.U, Pt.locs, Pt.cells, Pt.slots] at X' e1 e2 h1 h2 h3 st
    subst h1; subst h2; subst h3
    exact Or.inl ⟨v, (T.setVm vm₁).calling g' mk (Value.ref b :: As).toArray, t, U', L, hT, X', hL, e1, e2, hq, st⟩
  · dsimp only [Pt.U, Pt.locs, Pt.cells, Pt.slots] at X' e1 e2 h1 h2 h3 st hcl
    subst h1; subst h2; subst h3
    exact Or.inr ⟨q, (T.setVm vm₁).calling g' mk (Value.ref b :: As).toArray, t, U', L, E, ce, hT, X', hL, e1, e2, hq, hce, hcv, vx_cls hW₁ hcl, st⟩
end
/-! ===== END ===== -/
/-! ===== BEGIN .. of methods that hand back an object of the pool ===== -/
section
variable {p : Program} {l : Launch} {e : Env} {R : Room} {s : State} {m : MethodId} {args : Array Value} {below : List Frame} {meth : Method} {c : Code} {H : Heap} {locs : List Loc} {cells slots : Nat} {Q : State → Prop}
variable {mc ms : Nat} {free : Addr → Prop} {A0 A1 : Nat → Prop} {H0 : Heap} {a : Array Value} {pc : Nat} {ls : Array Slot} {st0 rest : List Value}
theorem vx_callq {S SX : Type} {post : Option Nat → S → Prop} {px : SX → Prop} {B : S → State → Prop} {BX : String → SX → State → Prop} {AX : Nat → Prop} (hr : vx_Run p l e R s m args below meth c H locs cells slots mc ms (F0 m pc ls st0) rest (va_Qq post B A1 a) (vx_X px BX AX) free) (hS : va_S A0 H0 H locs) (hA : ∀ q, q < H.size → A1 q → A0 q) (hf : ∀ q, free q → A0 q) (hAX : ∀ q, q < H.size → AX q → A0 q)
    (kx : ∀ (E : String) (ce : Cell) (q9 : Addr) (u : SX) (t : State) (H1 : Heap) (locs1 : List Loc), t.heap = H1 → s.vm.Alike t.vm → px u → BX E u t → H.size ≤ H1.size → (∀ q : Nat, q < H.size → ¬ AX q → H1[q]? = H[q]?) → va_S A0 H0 H1 locs1 → H1[q9]? = some ce → ce.vm = .none → s.vm.findClass E = some ce.cls → vx_W p l e R s m args below meth c H1 locs1 (cells + mc) (slots + ms) Q (F0 m pc ls rest) q9)
    (kk : ∀ (r : Option Nat) (u : S) (t : State) (H1 : Heap) (locs1 : List Loc), t.heap = H1 → s.vm.Alike t.vm → post r u → B u t → H.size ≤ H1.size → (∀ q : Nat, q < H.size → ¬ A1 q → H1[q]? = H[q]?) → va_S A0 H0 H1 locs1 → W p l e R s m args below meth c H1 locs1 (cells + mc) (slots + ms) Q (F0 m (pc + 3) ls (va_rf r :: rest))) : W p l e R s m args below meth c H locs cells slots Q (F0 m pc ls st0) := by
  intro T hT X
  rcases hr T hT X with ⟨v, st₀, t, T', L, h0, X', hL, e1, e2, ⟨⟨r, u, hv, hp, hb⟩, hF⟩, st⟩ | ⟨q, st₀, t, T', L, E, ce, h0, X', hL, e1, e2, ⟨u, hp, hb, hF⟩, hce, hcv, hcl, st⟩
  · cases hv
    obtain ⟨k1, k2, k3⟩ := vx_keep h0 e1 hS hA hf hL hF
    obtain ⟨t2, a1, b1⟩ := kk r u t T'.heap (locs ++ L) e1.symm (by rw [← e2]; exact X'.warmed.alike) hp hb k1 k2 k3 T' rfl X'
    exact ⟨t2, st t2 a1, b1⟩
  · obtain ⟨k1, k2, k3⟩ := vx_keep h0 e1 hS hAX hf hL hF
    obtain ⟨t2, a1, b1⟩ := kx E ce q u t T'.heap (locs ++ L) e1.symm (by rw [← e2]; exact X'.warmed.alike) hp hb k1 k2 k3 (by rw [e1]; exact hce) hcv hcl T' rfl X'
    exact ⟨t2, st.trans a1, b1⟩
end
/-! ===== END ===== -/
/-! ===== BEGIN .. a constant ===== -/
section
variable {p : Program} {l : Launch} {e : Env} {R : Room} {s : State} {m : MethodId} {args : Array Value} {below : List Frame} {meth : Method} {c : Code} {H : Heap} {locs : List Loc} {cells slots : Nat} {Q : State → Prop}
variable {mc ms : Nat} {free : Addr → Prop} {A0 A1 : Nat → Prop} {H0 : Heap} {a : Array Value} {pc : Nat} {ls : Array Slot} {st0 rest : List Value}
theorem vx_calle {ad : Nat → Nat} {S SX : Type} {post : Option Nat → S → Prop} {px : SX → Prop} {B : S → State → Prop} {BX : String → SX → State → Prop} {AX : Nat → Prop} (hr : vx_Run p l e R s m args below meth c H locs cells slots mc ms (F0 m pc ls st0) rest (va_Qe ad post B A1 a) (vx_X px BX AX) free) (hS : va_S A0 H0 H locs) (hA : ∀ q, q < H.size → A1 q → A0 q) (hf : ∀ q, free q → A0 q) (hAX : ∀ q, q < H.size → AX q → A0 q)
    (kx : ∀ (E : String) (ce : Cell) (q9 : Addr) (u : SX) (t : State) (H1 : Heap) (locs1 : List Loc), t.heap = H1 → s.vm.Alike t.vm → px u → BX E u t → H.size ≤ H1.size → (∀ q : Nat, q < H.size → ¬ AX q → H1[q]? = H[q]?) → va_S A0 H0 H1 locs1 → H1[q9]? = some ce → ce.vm = .none → s.vm.findClass E = some ce.cls → vx_W p l e R s m args below meth c H1 locs1 (cells + mc) (slots + ms) Q (F0 m pc ls rest) q9)
    (kk : ∀ (r : Option Nat) (u : S) (t : State) (H1 : Heap) (locs1 : List Loc), t.heap = H1 → s.vm.Alike t.vm → post r u → B u t → H.size ≤ H1.size → (∀ q : Nat, q < H.size → ¬ A1 q → H1[q]? = H[q]?) → va_S A0 H0 H1 locs1 → W p l e R s m args below meth c H1 locs1 (cells + mc) (slots + ms) Q (F0 m (pc + 3) ls (va_re ad r :: rest))) : W p l e R s m args below meth c H locs cells slots Q (F0 m pc ls st0) := by
  intro T hT X
  rcases hr T hT X with ⟨v, st₀, t, T', L, h0, X', hL, e1, e2, ⟨⟨r, u, hv, hp, hb⟩, hF⟩, st⟩ | ⟨q, st₀, t, T', L, E, ce, h0, X', hL, e1, e2, ⟨u, hp, hb, hF⟩, hce, hcv, hcl, st⟩
  · cases hv
    obtain ⟨k1, k2, k3⟩ := vx_keep h0 e1 hS hA hf hL hF
    obtain ⟨t2, a1, b1⟩ := kk r u t T'.heap (locs ++ L) e1.symm (by rw [← e2]; exact X'.warmed.alike) hp hb k1 k2 k3 T' rfl X'
    exact ⟨t2, st t2 a1, b1⟩
  · obtain ⟨k1, k2, k3⟩ := vx_keep h0 e1 hS hAX hf hL hF
    obtain ⟨t2, a1, b1⟩ := kx E ce q u t T'.heap (locs ++ L) e1.symm (by rw [← e2]; exact X'.warmed.alike) hp hb k1 k2 k3 (by rw [e1]; exact hce) hcv hcl T' rfl X'
    exact ⟨t2, st.trans a1, b1⟩
end
/-! ===== END ===== -/
/-! ===== BEGIN .. by an interface, an object ===== -/
section
variable {p : Program} {l : Launch} {e : Env} {R : Room} {s : State} {m : MethodId} {args : Array Value} {below : List Frame} {meth : Method} {c : Code} {H : Heap} {locs : List Loc} {cells slots : Nat} {Q : State → Prop}
variable {mc ms : Nat} {free : Addr → Prop} {A0 A1 : Nat → Prop} {H0 : Heap} {a : Array Value} {pc : Nat} {ls : Array Slot} {st0 rest : List Value}
theorem vx_callFq {S SX : Type} {post : Option Nat → S → Prop} {px : SX → Prop} {B : S → State → Prop} {BX : String → SX → State → Prop} {AX : Nat → Prop} (hr : vx_Run5 p l e R s m args below meth c H locs cells slots mc ms (F0 m pc ls st0) rest (va_Qq post B A1 a) (vx_X px BX AX) free) (hS : va_S A0 H0 H locs) (hA : ∀ q, q < H.size → A1 q → A0 q) (hf : ∀ q, free q → A0 q) (hAX : ∀ q, q < H.size → AX q → A0 q)
    (kx : ∀ (E : String) (ce : Cell) (q9 : Addr) (u : SX) (t : State) (H1 : Heap) (locs1 : List Loc), t.heap = H1 → s.vm.Alike t.vm → px u → BX E u t → H.size ≤ H1.size → (∀ q : Nat, q < H.size → ¬ AX q → H1[q]? = H[q]?) → va_S A0 H0 H1 locs1 → H1[q9]? = some ce → ce.vm = .none → s.vm.findClass E = some ce.cls → vx_W p l e R s m args below meth c H1 locs1 (cells + mc) (slots + ms) Q (F0 m pc ls rest) q9)
    (kk : ∀ (r : Option Nat) (u : S) (t : State) (H1 : Heap) (locs1 : List Loc), t.heap = H1 → s.vm.Alike t.vm → post r u → B u t → H.size ≤ H1.size → (∀ q : Nat, q < H.size → ¬ A1 q → H1[q]? = H[q]?) → va_S A0 H0 H1 locs1 → W p l e R s m args below meth c H1 locs1 (cells + mc) (slots + ms) Q (F0 m (pc + 5) ls (va_rf r :: rest))) : W p l e R s m args below meth c H locs cells slots Q (F0 m pc ls st0) := by
  intro T hT X
  rcases hr T hT X with ⟨v, st₀, t, T', L, h0, X', hL, e1, e2, ⟨⟨r, u, hv, hp, hb⟩, hF⟩, st⟩ | ⟨q, st₀, t, T', L, E, ce, h0, X', hL, e1, e2, ⟨u, hp, hb, hF⟩, hce, hcv, hcl, st⟩
  · cases hv
    obtain ⟨k1, k2, k3⟩ := vx_keep h0 e1 hS hA hf hL hF
    obtain ⟨t2, a1, b1⟩ := kk r u t T'.heap (locs ++ L) e1.symm (by rw [← e2]; exact X'.warmed.alike) hp hb k1 k2 k3 T' rfl X'
    exact ⟨t2, st t2 a1, b1⟩
  · obtain ⟨k1, k2, k3⟩ := vx_keep h0 e1 hS hAX hf hL hF
    obtain ⟨t2, a1, b1⟩ := kx E ce q u t T'.heap (locs ++ L) e1.symm (by rw [← e2]; exact X'.warmed.alike) hp hb k1 k2 k3 (by rw [e1]; exact hce) hcv hcl T' rfl X'
    exact ⟨t2, st.trans a1, b1⟩
end
/-! ===== END ===== -/
/-! ===== BEGIN .. by an interface, a constant ===== -/
section
variable {p : Program} {l : Launch} {e : Env} {R : Room} {s : State} {m : MethodId} {args : Array Value} {below : List Frame} {meth : Method} {c : Code} {H : Heap} {locs : List Loc} {cells slots : Nat} {Q : State → Prop}
variable {mc ms : Nat} {free : Addr → Prop} {A0 A1 : Nat → Prop} {H0 : Heap} {a : Array Value} {pc : Nat} {ls : Array Slot} {st0 rest : List Value}
theorem vx_callFe {ad : Nat → Nat} {S SX : Type} {post : Option Nat → S → Prop} {px : SX → Prop} {B : S → State → Prop} {BX : String → SX → State → Prop} {AX : Nat → Prop} (hr : vx_Run5 p l e R s m args below meth c H locs cells slots mc ms (F0 m pc ls st0) rest (va_Qe ad post B A1 a) (vx_X px BX AX) free) (hS : va_S A0 H0 H locs) (hA : ∀ q, q < H.size → A1 q → A0 q) (hf : ∀ q, free q → A0 q) (hAX : ∀ q, q < H.size → AX q → A0 q)
    (kx : ∀ (E : String) (ce : Cell) (q9 : Addr) (u : SX) (t : State) (H1 : Heap) (locs1 : List Loc), t.heap = H1 → s.vm.Alike t.vm → px u → BX E u t → H.size ≤ H1.size → (∀ q : Nat, q < H.size → ¬ AX q → H1[q]? = H[q]?) → va_S A0 H0 H1 locs1 → H1[q9]? = some ce → ce.vm = .none → s.vm.findClass E = some ce.cls → vx_W p l e R s m args below meth c H1 locs1 (cells + mc) (slots + ms) Q (F0 m pc ls rest) q9)
    (kk : ∀ (r : Option Nat) (u : S) (t : State) (H1 : Heap) (locs1 : List Loc), t.heap = H1 → s.vm.Alike t.vm → post r u → B u t → H.size ≤ H1.size → (∀ q : Nat, q < H.size → ¬ A1 q → H1[q]? = H[q]?) → va_S A0 H0 H1 locs1 → W p l e R s m args below meth c H1 locs1 (cells + mc) (slots + ms) Q (F0 m (pc + 5) ls (va_re ad r :: rest))) : W p l e R s m args below meth c H locs cells slots Q (F0 m pc ls st0) := by
  intro T hT X
  rcases hr T hT X with ⟨v, st₀, t, T', L, h0, X', hL, e1, e2, ⟨⟨r, u, hv, hp, hb⟩, hF⟩, st⟩ | ⟨q, st₀, t, T', L, E, ce, h0, X', hL, e1, e2, ⟨u, hp, hb, hF⟩, hce, hcv, hcl, st⟩
  · cases hv
    obtain ⟨k1, k2, k3⟩ := vx_keep h0 e1 hS hA hf hL hF
    obtain ⟨t2, a1, b1⟩ := kk r u t T'.heap (locs ++ L) e1.symm (by rw [← e2]; exact X'.warmed.alike) hp hb k1 k2 k3 T' rfl X'
    exact ⟨t2, st t2 a1, b1⟩
  · obtain ⟨k1, k2, k3⟩ := vx_keep h0 e1 hS hAX hf hL hF
    obtain ⟨t2, a1, b1⟩ := kx E ce q u t T'.heap (locs ++ L) e1.symm (by rw [← e2]; exact X'.warmed.alike) hp hb k1 k2 k3 (by rw [e1]; exact hce) hcv hcl T' rfl X'
    exact ⟨t2, st.trans a1, b1⟩
end
/-! ===== END ===== -/
/-! ===== BEGIN what the machine throws by itself: null at a field, at athrow ===== -/
section VXM2
variable {p : Program} {l : Launch} {e : Env} {R : Room} {s : State} {m : MethodId} {args : Array Value} {below : List Frame} {meth : Method} {c : Code} {H : Heap} {locs : List Loc} {cells slots : Nat}
variable {Q : State → Prop} {cc : ByteArray} {pc : Nat} {ls : Array Slot} {rest : List Value}
theorem vx_getfN {D cl tys} {own ref C : String} {T : u_T} {N ci index : Nat} {Ts : List Cond} (hexec : p.tables.exec = Jvm.exec) (hb : c.code = cc) (hts : ∀ w ∈ Ts, w.before args s = true) (hin : ∀ w ∈ u_ws C T N, w ∈ Ts) (hown : s.vm.findClass own = some m.cls) (hK : va_K D cl tys s) (hc : cl[ci]? = some (C, T, N)) (k : Nat) (hk : k < N) (hlink : (Cond.fieldLink own index ref (T k).2.1 (T k).2.2.1).before args s = true) (hsame : ∀ x, s.fieldFound? (T k).1 (T k).2.1 (T k).2.2.1 = some x → s.fieldFound? ref (T k).2.1 (T k).2.2.1 = some x) (hdg : decode cc pc = .ok (.getfield index, 3)) (kk : vx_NoteN p l e R s m args below meth c H locs cells slots Q (F0 m pc ls rest)) : W p l e R s m args below meth c H locs cells slots Q (F0 m pc ls (.null :: rest)) := by
  obtain ⟨hS, hfc, kC, hkC, -⟩ := hK.1 ci _ hc
  obtain ⟨cf, kf, fi, f, hi, -⟩ := hS k hk
  intro U hU X
  obtain ⟨vm', X1, st1⟩ := X.getfieldNull hexec hown hlink (hsame _ hi) (u_facts hfc hkC (u_lays hts hin hk) hi).1 (g := F0 m pc ls (.null :: rest)) rfl (rest := rest) rfl (by rw [hb]; exact hdg)
  obtain ⟨t, st, q⟩ := kk (U.setVm vm') hU X1
  exact ⟨t, st1 t st, q⟩
theorem vx_getfNN {D cl tys} {own ref C host : String} {T : u_T} {N ci index : Nat} {Ts : List Cond} (hexec : p.tables.exec = Jvm.exec) (hb : c.code = cc) (hts : ∀ w ∈ Ts, w.before args s = true) (hin : ∀ w ∈ u_ws C T N, w ∈ Ts) (hown : s.vm.findClass own = some m.cls) (hK : va_K D cl tys s) (hc : cl[ci]? = some (C, T, N)) (k : Nat) (hk : k < N) (hlink : (Cond.fieldLinkNest own index ref (T k).2.1 (T k).2.2.1 host).before args s = true) (hsame : ∀ x, s.fieldFound? (T k).1 (T k).2.1 (T k).2.2.1 = some x → s.fieldFound? ref (T k).2.1 (T k).2.2.1 = some x) (hdg : decode cc pc = .ok (.getfield index, 3)) (kk : vx_NoteN p l e R s m args below meth c H locs cells slots Q (F0 m pc ls rest)) : W p l e R s m args below meth c H locs cells slots Q (F0 m pc ls (.null :: rest)) := by
  obtain ⟨hS, hfc, kC, hkC, -⟩ := hK.1 ci _ hc
  obtain ⟨cf, kf, fi, f, hi, -⟩ := hS k hk
  intro U hU X
  obtain ⟨vm', X1, st1⟩ := X.getfieldNullNest hexec hown hlink (hsame _ hi) (u_facts hfc hkC (u_lays hts hin hk) hi).1 (g := F0 m pc ls (.null :: rest)) rfl (rest := rest) rfl (by rw [hb]; exact hdg)
  obtain ⟨t, st, q⟩ := kk (U.setVm vm') hU X1
  exact ⟨t, st1 t st, q⟩
theorem vx_putfN {D cl tys} {own ref C : String} {T : u_T} {N ci index : Nat} {Ts : List Cond} (hexec : p.tables.exec = Jvm.exec) (hb : c.code = cc) (hts : ∀ w ∈ Ts, w.before args s = true) (hin : ∀ w ∈ u_ws C T N, w ∈ Ts) (hown : s.vm.findClass own = some m.cls) (hK : va_K D cl tys s) (hc : cl[ci]? = some (C, T, N)) (k : Nat) (hk : k < N) (hlink : (Cond.fieldLink own index ref (T k).2.1 (T k).2.2.1).before args s = true) (hsame : ∀ x, s.fieldFound? (T k).1 (T k).2.1 (T k).2.2.1 = some x → s.fieldFound? ref (T k).2.1 (T k).2.2.1 = some x) (hfin : (T k).2.2.2 = false) {v : Value} (hdg : decode cc pc = .ok (.putfield index, 3)) (kk : vx_NoteN p l e R s m args below meth c H locs cells slots Q (F0 m pc ls rest)) : W p l e R s m args below meth c H locs cells slots Q (F0 m pc ls (v :: .null :: rest)) := by
  obtain ⟨hS, hfc, kC, hkC, -⟩ := hK.1 ci _ hc
  obtain ⟨cf, kf, fi, f, hi, -⟩ := hS k hk
  have hlay := hts _ (hin _ (u_in_lay hk))
  unfold u_lay at hlay
  rw [if_neg (by rw [hfin]; decide)] at hlay
  obtain ⟨c9, k9, cf9, kf9, fi9, f9, -, -, hi9, hst9, hnf9, -⟩ := Cond.lays_spec hlay
  cases hi.symm.trans hi9
  intro U hU X
  obtain ⟨vm', X1, st1⟩ := X.putfieldNull hexec hown hlink (hsame _ hi) hst9 hnf9 (g := F0 m pc ls (v :: .null :: rest)) rfl (v := v) (rest := rest) rfl (by rw [hb]; exact hdg)
  obtain ⟨t, st, q⟩ := kk (U.setVm vm') hU X1
  exact ⟨t, st1 t st, q⟩
theorem vx_putfNN {D cl tys} {own ref C host : String} {T : u_T} {N ci index : Nat} {Ts : List Cond} (hexec : p.tables.exec = Jvm.exec) (hb : c.code = cc) (hts : ∀ w ∈ Ts, w.before args s = true) (hin : ∀ w ∈ u_ws C T N, w ∈ Ts) (hown : s.vm.findClass own = some m.cls) (hK : va_K D cl tys s) (hc : cl[ci]? = some (C, T, N)) (k : Nat) (hk : k < N) (hlink : (Cond.fieldLinkNest own index ref (T k).2.1 (T k).2.2.1 host).before args s = true) (hsame : ∀ x, s.fieldFound? (T k).1 (T k).2.1 (T k).2.2.1 = some x → s.fieldFound? ref (T k).2.1 (T k).2.2.1 = some x) (hfin : (T k).2.2.2 = false) {v : Value} (hdg : decode cc pc = .ok (.putfield index, 3)) (kk : vx_NoteN p l e R s m args below meth c H locs cells slots Q (F0 m pc ls rest)) : W p l e R s m args below meth c H locs cells slots Q (F0 m pc ls (v :: .null :: rest)) := by
  obtain ⟨hS, hfc, kC, hkC, -⟩ := hK.1 ci _ hc
  obtain ⟨cf, kf, fi, f, hi, -⟩ := hS k hk
  have hlay := hts _ (hin _ (u_in_lay hk))
  unfold u_lay at hlay
  rw [if_neg (by rw [hfin]; decide)] at hlay
  obtain ⟨c9, k9, cf9, kf9, fi9, f9, -, -, hi9, hst9, hnf9, -⟩ := Cond.lays_spec hlay
  cases hi.symm.trans hi9
  intro U hU X
  obtain ⟨vm', X1, st1⟩ := X.putfieldNullNest hexec hown hlink (hsame _ hi) hst9 hnf9 (g := F0 m pc ls (v :: .null :: rest)) rfl (v := v) (rest := rest) rfl (by rw [hb]; exact hdg)
  obtain ⟨t, st, q⟩ := kk (U.setVm vm') hU X1
  exact ⟨t, st1 t st, q⟩
theorem vx_athrowN (hexec : p.tables.exec = Jvm.exec) (hb : c.code = cc) (hdg : decode cc pc = .ok (.athrow, 1)) (k : vx_NoteN p l e R s m args below meth c H locs cells slots Q (F0 m pc ls rest)) : W p l e R s m args below meth c H locs cells slots Q (F0 m pc ls (.null :: rest)) := by
  intro T hT X
  obtain ⟨t, st, q⟩ := k T hT X
  exact ⟨t, X.athrowNull hexec (g := F0 m pc ls (.null :: rest)) rfl (rest := rest) rfl (by rw [hb]; exact hdg) t st, q⟩
end VXM2
/-! ===== END ===== -/

/-! ===== BEGIN new T[n][m]: the outer array a place, the inner ones among the pooled ===== -/
/-- f, but v at every address of l -/
def vr_up {α : Type} (f : Nat → α) (l : List Nat) (v : α) : Nat → α := fun a => if a ∈ l then v else f a
theorem vr_up_in {α : Type} {f : Nat → α} {l : List Nat} {v : α} {a : Nat} (h : a ∈ l) : vr_up f l v a = v := if_pos h
theorem vr_up_ne {α : Type} {f : Nat → α} {l : List Nat} {v : α} {a : Nat} (h : a ∉ l) : vr_up f l v a = f a := if_neg h
theorem vr_rows {L l : List Nat} {f : Nat → va_E} {e : va_E} (h : ∀ a, a ∈ l → a ∉ L) : va_pl L f ++ l.map (fun a => (a, e)) = va_pl (L ++ l) (vr_up f l e) := by
  unfold va_pl
  rw [List.map_append]
  congr 1
  · apply List.map_congr_left
    intro a ha
    rw [vr_up_ne (fun q => h a q ha)]
  · apply List.map_congr_left
    intro a ha
    rw [vr_up_in ha]
theorem vr_lay {X rows : va_W} {x : Nat × va_E} {pl : va_W} {D : va_G} {cl : List vw_C} {H : Heap} (hP : va_P D cl (((X ++ pl) ++ [x]) ++ rows) H) : va_P D cl ((X ++ [x]) ++ (pl ++ rows)) H := by
  rw [List.append_assoc (X ++ pl)] at hP
  have h := va_P.swap hP
  rw [← List.append_assoc X] at h
  have h2 := va_P.swap h
  rw [List.append_assoc (X ++ [x])] at h2
  exact h2
theorem vr_layD {X rows : va_W} {x : Nat × va_E} {pl : va_W} {A : Nat → Prop} (hD : va_D A (((X ++ pl) ++ [x]) ++ rows)) : va_D A ((X ++ [x]) ++ (pl ++ rows)) := by
  rw [List.append_assoc (X ++ pl)] at hD
  have h := va_D.swap hD
  rw [← List.append_assoc X] at h
  have h2 := va_D.swap h
  rw [List.append_assoc (X ++ [x])] at h2
  exact h2
theorem vr_outer (c : ClassId) (N h0 : Nat) : ∀ i : Nat, Jvm.Free.Multi.outerC c N h0 i = arrV c N (fun j => va_rf (if j < i then some (h0 + 1 + j) else none))
  | 0 => by
    show ({ cls := c, slots := Array.replicate N .null, vm := .none } : Cell) = _
    rw [arrV_new]
    refine congrArg (arrV c N) (funext fun j => ?_)
    simp [va_rf]
  | i + 1 => by
    show (Jvm.Free.Multi.outerC c N h0 i).setSlot i (.ref (h0 + 1 + i)) = _
    rw [vr_outer c N h0 i, arrV_store]
    refine congrArg (arrV c N) (funext fun j => ?_)
    by_cases e : j = i
    · subst e
      simp [updV, va_rf]
    · by_cases h : j < i
      · simp [updV, e, h, Nat.lt_succ_of_lt h]
      · simp [updV, e, h, show ¬ j < i + 1 by omega]
/-- an array class over an array type, by the tables (its name is used above by the printed text, and defined nowhere: mine) -/
def va_AOA (ty : FieldType) (U : State) : Prop := (Cond.arrayOver (.array ty)).before #[] U = true
theorem va_AOA.use {ty : FieldType} {B : Array Value} {U : State} (h : va_AOA ty U) : (Cond.arrayOver (.array ty)).before B U = true := h
section VGM
variable {p : Program} {l : Launch} {e : Env} {R : Room} {s : State} {m : MethodId} {args : Array Value} {below : List Frame} {meth : Method} {c : Code} {H : Heap} {locs : List Loc} {cells slots : Nat} {Q : State → Prop}
variable {cc : ByteArray} {pc : Nat} {ls : Array Slot} {rest : List Value} {D : va_G} {cl : List vw_C} {A : Nat → Prop} {a : Nat} {tys : List (ClassId × FieldType)} {ws : va_W} {H0 : Heap}
theorem va_mna {X : va_W} {L : List Nat} {f : Nat → va_E} {cc : ByteArray} (hexec : p.tables.exec = Jvm.exec) (hb : c.code = cc) {own : String} {index : Nat} {ty : FieldType} {cy : ClassId} (hown : s.vm.findClass own = some m.cls) (hclink : (Cond.classLink own index ("[" ++ (FieldType.array ty).toString)).before args s = true) (hover : va_AOA ty s) (harr : (Cond.arrayClass ty).before args s = true) (hcy : s.vm.findClass (FieldType.array ty).toString = some cy)
    (hK : va_K D cl tys s) (hP : va_P D cl (X ++ va_pl L f) H) (hD : va_D A (X ++ va_pl L f)) (hS : va_S A H0 H locs) (hA : ∀ q, H0.size ≤ q → A q) {n k : Int32} {N' K' : Nat} {z : vp_A} (hn : ¬ n < 0) (hk : ¬ k < 0) (hN : n.toNatClampNeg = N') (hM : k.toNatClampNeg = K')
    (hb1 : N' * 4 ≤ 536870912) (hb2 : K' * componentBytes ty ≤ 536870912) (hb3 : K' ≤ 536870912) (hdf : fits ty (defaultValue ty) = true) (hdd : (defaultValue ty).isDefault = true) (hcells : cells + (1 + N') ≤ R.cells) (hslots : slots + (N' + N' * K') ≤ R.slots) (hz : ∀ c : ClassId, Jvm.Free.Multi.innerC c K' (defaultValue ty) = vp_cell c z) (hdg : decode cc pc = .ok (.multianewarray index 2, 4))
    (kk : ∀ (q : Nat) (r : Nat → Nat) (cA : ClassId) (H1 : Heap), (∀ i j : Nat, i < N' → j < N' → r i = r j → i = j) → (∀ i : Nat, i < N' → r i ∉ L) → va_K D cl (tys ++ [(cA, .array ty)]) s →
      va_P D cl ((X ++ [(q, .inl (cA, N', .inr (.inr (.inr (.inr (fun i => if i < N' then some (r i) else none))))))]) ++ va_pl (L ++ (List.range N').map r) (vr_up f ((List.range N').map r) (.inl (cy, z)))) H1 → va_D A ((X ++ [(q, .inl (cA, N', .inr (.inr (.inr (.inr (fun i => if i < N' then some (r i) else none))))))]) ++ va_pl (L ++ (List.range N').map r) (vr_up f ((List.range N').map r) (.inl (cy, z)))) → va_S A H0 H1 locs →
      W p l e R s m args below meth c H1 locs (cells + 1 + N') (slots + N' + N' * K') Q (F0 m (pc + 4) ls (.ref q :: rest))) : W p l e R s m args below meth c H locs cells slots Q (F0 m pc ls (.int k :: .int n :: rest)) := by
  subst hN
  subst hM
  intro T hT Xs
  obtain ⟨vm₁, cA, comp, -, fA, fC, hO, -, X', step⟩ := Xs.multianewarray2F hexec hown hclink (va_AOA.use hover) harr (g := F0 m pc ls (.int k :: .int n :: rest)) rfl (by rw [hb]; exact hdg) rfl hn hk hb1 hb2 hb3 hdf hdd hcells hslots
  have ec : some cy = some comp := hcy.symm.trans fC
  cases ec
  generalize hF : Jvm.Free.Multi.fill (T.setVm vm₁) cA cy n.toNatClampNeg k.toNatClampNeg (defaultValue ty) n.toNatClampNeg = F at X' step
  have hTh : (T.setVm vm₁).heap = H := hT
  obtain ⟨f1, f2, -, -⟩ := Jvm.Free.Multi.fill_facts (T.setVm vm₁) cA cy n.toNatClampNeg k.toNatClampNeg (defaultValue ty) n.toNatClampNeg
  rw [hF, hTh] at f1 f2
  have hold : ∀ x : Nat, x < H.size → F.heap[x]? = H[x]? := fun x hx => by
    have := Jvm.Free.Multi.fill_old (T.setVm vm₁) cA cy n.toNatClampNeg k.toNatClampNeg (defaultValue ty) (a := x) (by rw [hTh]; exact hx) n.toNatClampNeg
    rw [hF, hTh] at this
    exact this
  have hrow : ∀ j : Nat, j < n.toNatClampNeg → F.heap[H.size + 1 + j]? = some (vp_cell cy z) := fun j hj => by
    have := Jvm.Free.Multi.fill_inner (T.setVm vm₁) cA cy n.toNatClampNeg k.toNatClampNeg (defaultValue ty) n.toNatClampNeg j hj
    rw [hF, hTh, hz] at this
    exact this
  have hout : Jvm.Free.Multi.outerC cA n.toNatClampNeg H.size n.toNatClampNeg = vp_cell cA (n.toNatClampNeg, .inr (.inr (.inr (.inr (fun i => if i < n.toNatClampNeg then some (H.size + 1 + i) else none))))) := by
    rw [vp_cell_q]
    exact vr_outer cA n.toNatClampNeg H.size n.toNatClampNeg
  rw [hout] at f2
  have hlt : ∀ a, a ∈ L → a < H.size := fun a ha => by
    obtain ⟨k9, hk9⟩ := va_pl_get (X := X) (f := f) ha
    exact (hP k9 _ hk9).lt
  have hnl : ∀ i : Nat, i < n.toNatClampNeg → H.size + 1 + i ∉ L := fun i _ h => by
    have := hlt _ h
    omega
  have hnm : ∀ a, a ∈ (List.range n.toNatClampNeg).map (fun i => H.size + 1 + i) → a ∉ L := fun a ha h => by
    obtain ⟨i, -, rfl⟩ := List.mem_map.mp ha
    have := hlt _ h
    omega
  have hP0 : va_P D cl (X ++ va_pl L f) F.heap := hP.kept (fun k9 x hx => hold x.1 ((hP k9 x hx).lt))
  have hP1 : va_P D cl ((X ++ va_pl L f) ++ [(H.size, .inl (cA, n.toNatClampNeg, .inr (.inr (.inr (.inr (fun i => if i < n.toNatClampNeg then some (H.size + 1 + i) else none))))))]) F.heap := hP0.app (fun k9 x hx => by
    have h0 : k9 < 1 := (List.getElem?_eq_some_iff.mp hx).1
    rw [show k9 = 0 by omega] at hx
    cases hx
    exact f2)
  have hP2 : va_P D cl (((X ++ va_pl L f) ++ [(H.size, .inl (cA, n.toNatClampNeg, .inr (.inr (.inr (.inr (fun i => if i < n.toNatClampNeg then some (H.size + 1 + i) else none))))))]) ++ ((List.range n.toNatClampNeg).map (fun i => H.size + 1 + i)).map (fun a => (a, .inl (cy, z)))) F.heap := hP1.app (fun k9 x hx => by
    obtain ⟨a, ha, rfl⟩ := List.mem_map.mp (List.mem_of_getElem? hx)
    obtain ⟨i, hi, rfl⟩ := List.mem_map.mp ha
    exact hrow i (List.mem_range.mp hi))
  have hD2 : va_D A (((X ++ va_pl L f) ++ [(H.size, .inl (cA, n.toNatClampNeg, .inr (.inr (.inr (.inr (fun i => if i < n.toNatClampNeg then some (H.size + 1 + i) else none))))))]) ++ ((List.range n.toNatClampNeg).map (fun i => H.size + 1 + i)).map (fun a => (a, .inl (cy, z)))) := by
    have hD1 := hD.push (e := .inl (cA, n.toNatClampNeg, .inr (.inr (.inr (.inr (fun i => if i < n.toNatClampNeg then some (H.size + 1 + i) else none)))))) hP rfl (hA _ hS.1)
    generalize hW1 : (X ++ va_pl L f) ++ [(H.size, .inl (cA, n.toNatClampNeg, .inr (.inr (.inr (.inr (fun i => if i < n.toNatClampNeg then some (H.size + 1 + i) else none))))))] = W1 at hD1 hP1 ⊢
    have hle : ∀ (k9 : Nat) (x : Nat × va_E), W1[k9]? = some x → x.1 ≤ H.size := fun k9 x hx => by
      rw [← hW1] at hx
      by_cases hl : k9 < (X ++ va_pl L f).length
      · rw [List.getElem?_append_left hl] at hx
        exact Nat.le_of_lt ((hP k9 x hx).lt)
      · rw [List.getElem?_append_right (by omega)] at hx
        have h0 : k9 - (X ++ va_pl L f).length < 1 := (List.getElem?_eq_some_iff.mp hx).1
        rw [show k9 - (X ++ va_pl L f).length = 0 by omega] at hx
        cases hx
        exact Nat.le_refl _
    have hr : ∀ (k9 : Nat) (x : Nat × va_E), (((List.range n.toNatClampNeg).map (fun i => H.size + 1 + i)).map (fun a => ((a, .inl (cy, z)) : Nat × va_E)))[k9]? = some x → x.1 = H.size + 1 + k9 := fun k9 x hx => by
      rw [List.getElem?_map, List.getElem?_map] at hx
      by_cases h9 : k9 < n.toNatClampNeg
      · rw [List.getElem?_range h9] at hx
        cases hx
        rfl
      · have hn0 : (List.range n.toNatClampNeg)[k9]? = none := List.getElem?_eq_none (by rw [List.length_range]; omega)
        rw [hn0] at hx
        cases hx
    refine ⟨fun i j x y hi hj hxy => ?_, fun k9 x hx => ?_⟩
    · by_cases h1 : i < W1.length <;> by_cases h2 : j < W1.length
      · rw [List.getElem?_append_left h1] at hi
        rw [List.getElem?_append_left h2] at hj
        exact hD1.1 i j x y hi hj hxy
      · rw [List.getElem?_append_left h1] at hi
        rw [List.getElem?_append_right (by omega)] at hj
        have := hle _ _ hi
        have := hr _ _ hj
        omega
      · rw [List.getElem?_append_right (by omega)] at hi
        rw [List.getElem?_append_left h2] at hj
        have := hle _ _ hj
        have := hr _ _ hi
        omega
      · rw [List.getElem?_append_right (by omega)] at hi hj
        have := hr _ _ hi
        have := hr _ _ hj
        omega
    · by_cases h1 : k9 < W1.length
      · rw [List.getElem?_append_left h1] at hx
        exact hD1.2 k9 x hx
      · rw [List.getElem?_append_right (by omega)] at hx
        have := hr _ _ hx
        exact hA _ (by have := hS.1; omega)
  have hAr : ArrOfT s cA (.array ty) := fun N9 z9 => by
    obtain ⟨-, k9, hk9, cm9, hkk9⟩ := (hO 0 0 0).1
    exact ⟨(fun q hq => by cases hq), k9, hk9, cm9, hkk9⟩
  have hK2 : va_K D cl (tys ++ [(cA, .array ty)]) s := ⟨hK.1, fun k9 x hx => by
    by_cases hl : k9 < tys.length
    · rw [List.getElem?_append_left hl] at hx
      exact hK.2 k9 x hx
    · rw [List.getElem?_append_right (by omega)] at hx
      have h0 : k9 - tys.length < 1 := (List.getElem?_eq_some_iff.mp hx).1
      rw [show k9 - tys.length = 0 by omega] at hx
      cases hx
      exact ⟨hAr, fA⟩⟩
  obtain ⟨t, a1, b1⟩ := kk H.size (fun i => H.size + 1 + i) cA F.heap (fun i j _ _ h => by have h9 : H.size + 1 + i = H.size + 1 + j := h; omega) hnl hK2 (by rw [← vr_rows hnm]; exact vr_lay hP2) (by rw [← vr_rows hnm]; exact vr_layD hD2) ⟨by rw [f1]; have := hS.1; omega, fun x h1 h2 => (hold x (Nat.lt_of_lt_of_le h1 hS.1)).trans (hS.2.1 x h1 h2), hS.2.2⟩ F rfl X'
  refine ⟨t, step t ?_, b1⟩
  have e : T.heap.size = H.size := by rw [hT]
  rw [e]
  exact a1
end VGM
/-! ===== END ===== -/
end
section
/-! ===== BEGIN printed: names, fields, word lists, decode rows ===== -/
def RX0 : String := "Facingleaf$Breaker"
def TX0 : u_T := fun k => match k with
  | 0 => ("Facingleaf$Breaker", "cost", "[I", true)
  | 1 => ("Facingleaf$Breaker", "lines", "[I", true)
  | _ => ("Facingleaf$Breaker", "end", "[I", true)
def tyX0 : Nat → FieldType := fun k => match k with
  | 0 => .array .int
  | 1 => .array .int
  | _ => .array .int
abbrev wsX00 : List Cond := u_ws RX0 TX0 3
theorem nmX0 : ∀ a, a < 3 → ∀ b, b < 3 → a ≠ b → (TX0 a).2.1 ≠ (TX0 b).2.1 := by decide +kernel
theorem tyX0_ok : ∀ k, k < 3 → parseFieldDescriptor (TX0 k).2.2.1 = some (tyX0 k) := by decide +kernel
abbrev cX0_init : ByteArray := prog_2_method_1_code
def yX0_init : MethodName := ⟨RX0, "<init>", "()V"⟩
abbrev cX0_renew : ByteArray := prog_2_method_2_code
def yX0_renew : MethodName := ⟨RX0, "renew", "(LFacingleaf$Item;I)Z"⟩
abbrev cX0_chooseLine : ByteArray := prog_2_method_3_code
def yX0_chooseLine : MethodName := ⟨RX0, "chooseLine", "(LFacingleaf$Item;II)V"⟩
abbrev cX0_costOfLine : ByteArray := prog_2_method_4_code
def yX0_costOfLine : MethodName := ⟨RX0, "costOfLine", "(IZ)I"⟩
abbrev cX0_writeLines : ByteArray := prog_2_method_5_code
def yX0_writeLines : MethodName := ⟨RX0, "writeLines", "(LFacingleaf$Item;)V"⟩
def RX1 : String := "Facingleaf$Chapter"
def TX1 : u_T := fun k => match k with
  | 0 => ("Facingleaf$Chapter", "items", "[LFacingleaf$Item;", true)
  | _ => ("Facingleaf$Chapter", "count", "I", false)
def tyX1 : Nat → FieldType := fun k => match k with
  | 0 => .array (.object "Facingleaf$Item")
  | _ => .int
abbrev wsX10 : List Cond := u_ws RX1 TX1 2
theorem nmX1 : ∀ a, a < 2 → ∀ b, b < 2 → a ≠ b → (TX1 a).2.1 ≠ (TX1 b).2.1 := by decide +kernel
theorem tyX1_ok : ∀ k, k < 2 → parseFieldDescriptor (TX1 k).2.2.1 = some (tyX1 k) := by decide +kernel
abbrev cX1_init : ByteArray := prog_3_method_1_code
def yX1_init : MethodName := ⟨RX1, "<init>", "()V"⟩
abbrev cX1_wordsBut : ByteArray := prog_3_method_2_code
def yX1_wordsBut : MethodName := ⟨RX1, "wordsBut", "(I)I"⟩
abbrev cX1_sumBut : ByteArray := prog_3_method_3_code
def yX1_sumBut : MethodName := ⟨RX1, "sumBut", "(II)I"⟩
abbrev cX1_labelsBut : ByteArray := prog_3_method_4_code
def yX1_labelsBut : MethodName := ⟨RX1, "labelsBut", "(I)I"⟩
abbrev cX1_heads : ByteArray := prog_3_method_5_code
def yX1_heads : MethodName := ⟨RX1, "heads", "()I"⟩
def RX2 : String := "Facingleaf$Composer"
def TX2 : u_T := fun k => match k with
  | 0 => ("Facingleaf$Composer", "breaker", "LFacingleaf$Breaker;", true)
  | 1 => ("Facingleaf$Composer", "maker", "LFacingleaf$PageMaker;", true)
  | 2 => ("Facingleaf$Composer", "changing", "[I", true)
  | 3 => ("Facingleaf$Composer", "changingCount", "I", false)
  | 4 => ("Facingleaf$Composer", "taken", "[[I", true)
  | 5 => ("Facingleaf$Composer", "labelPage", "[I", true)
  | 6 => ("Facingleaf$Composer", "chapters", "[LFacingleaf$Chapter;", false)
  | 7 => ("Facingleaf$Composer", "now", "LFacingleaf$Edition;", false)
  | 8 => ("Facingleaf$Composer", "kept", "LFacingleaf$Edition;", false)
  | 9 => ("Facingleaf$Composer", "brokenCount", "I", false)
  | _ => ("Facingleaf$Composer", "isRingSettled", "Z", false)
def tyX2 : Nat → FieldType := fun k => match k with
  | 0 => .object "Facingleaf$Breaker"
  | 1 => .object "Facingleaf$PageMaker"
  | 2 => .array .int
  | 3 => .int
  | 4 => .array (.array .int)
  | 5 => .array .int
  | 6 => .array (.object "Facingleaf$Chapter")
  | 7 => .object "Facingleaf$Edition"
  | 8 => .object "Facingleaf$Edition"
  | 9 => .int
  | _ => .boolean
abbrev wsX20 : List Cond := u_ws RX2 TX2 11
theorem nmX2 : ∀ a, a < 11 → ∀ b, b < 11 → a ≠ b → (TX2 a).2.1 ≠ (TX2 b).2.1 := by decide +kernel
theorem tyX2_ok : ∀ k, k < 11 → parseFieldDescriptor (TX2 k).2.2.1 = some (tyX2 k) := by decide +kernel
abbrev cX2_init : ByteArray := prog_4_method_1_code
def yX2_init : MethodName := ⟨RX2, "<init>", "()V"⟩
abbrev cX2_makeRounds : ByteArray := prog_4_method_2_code
def yX2_makeRounds : MethodName := ⟨RX2, "makeRounds", "([LFacingleaf$Chapter;LFacingleaf$Edition;LFacingleaf$Edition;)I"⟩
abbrev cX2_takeWidest : ByteArray := prog_4_method_3_code
def yX2_takeWidest : MethodName := ⟨RX2, "takeWidest", "(II)V"⟩
abbrev cX2_itemOf : ByteArray := prog_4_method_4_code
def yX2_itemOf : MethodName := ⟨RX2, "itemOf", "(I)LFacingleaf$Item;"⟩
abbrev cX2_listChanging : ByteArray := prog_4_method_5_code
def yX2_listChanging : MethodName := ⟨RX2, "listChanging", "()V"⟩
abbrev cX2_listWord : ByteArray := prog_4_method_6_code
def yX2_listWord : MethodName := ⟨RX2, "listWord", "(II)V"⟩
abbrev cX2_hasMadeRound : ByteArray := prog_4_method_7_code
def yX2_hasMadeRound : MethodName := ⟨RX2, "hasMadeRound", "(I)Z"⟩
abbrev cX2_breakParagraphs : ByteArray := prog_4_method_8_code
def yX2_breakParagraphs : MethodName := ⟨RX2, "breakParagraphs", "()I"⟩
abbrev cX2_beginChapter : ByteArray := prog_4_method_9_code
def yX2_beginChapter : MethodName := ⟨RX2, "beginChapter", "(II)V"⟩
abbrev cX2_keepPages : ByteArray := prog_4_method_10_code
def yX2_keepPages : MethodName := ⟨RX2, "keepPages", "(I)V"⟩
abbrev cX2_readPages : ByteArray := prog_4_method_11_code
def yX2_readPages : MethodName := ⟨RX2, "readPages", "()V"⟩
abbrev cX2_readPage : ByteArray := prog_4_method_12_code
def yX2_readPage : MethodName := ⟨RX2, "readPage", "(III)I"⟩
abbrev cX2_textFor : ByteArray := prog_4_method_13_code
def yX2_textFor : MethodName := ⟨RX2, "textFor", "(II)I"⟩
abbrev cX2_findWidths : ByteArray := prog_4_method_14_code
def yX2_findWidths : MethodName := ⟨RX2, "findWidths", "([I)V"⟩
abbrev cX2_roundThatTook : ByteArray := prog_4_method_15_code
def yX2_roundThatTook : MethodName := ⟨RX2, "roundThatTook", "([II)I"⟩
def RX3 : String := "Facingleaf$Edition"
def TX3 : u_T := fun k => match k with
  | 0 => ("Facingleaf$Edition", "width", "I", false)
  | 1 => ("Facingleaf$Edition", "depth", "I", false)
  | 2 => ("Facingleaf$Edition", "isByPage", "Z", false)
  | 3 => ("Facingleaf$Edition", "contents", "I", false)
  | 4 => ("Facingleaf$Edition", "last", "I", false)
  | 5 => ("Facingleaf$Edition", "total", "I", false)
  | 6 => ("Facingleaf$Edition", "rows", "[LFacingleaf$Rows;", true)
  | 7 => ("Facingleaf$Edition", "pages", "[LFacingleaf$Pages;", true)
  | 8 => ("Facingleaf$Edition", "serial", "[I", true)
  | 9 => ("Facingleaf$Edition", "pageOfWord", "[I", true)
  | 10 => ("Facingleaf$Edition", "text", "[I", true)
  | _ => ("Facingleaf$Edition", "number", "[I", true)
def tyX3 : Nat → FieldType := fun k => match k with
  | 0 => .int
  | 1 => .int
  | 2 => .boolean
  | 3 => .int
  | 4 => .int
  | 5 => .int
  | 6 => .array (.object "Facingleaf$Rows")
  | 7 => .array (.object "Facingleaf$Pages")
  | 8 => .array .int
  | 9 => .array .int
  | 10 => .array .int
  | _ => .array .int
abbrev wsX30 : List Cond := u_ws RX3 TX3 12
theorem nmX3 : ∀ a, a < 12 → ∀ b, b < 12 → a ≠ b → (TX3 a).2.1 ≠ (TX3 b).2.1 := by decide +kernel
theorem tyX3_ok : ∀ k, k < 12 → parseFieldDescriptor (TX3 k).2.2.1 = some (tyX3 k) := by decide +kernel
abbrev cX3_init : ByteArray := prog_5_method_1_code
def yX3_init : MethodName := ⟨RX3, "<init>", "()V"⟩
abbrev cX3_begin : ByteArray := prog_5_method_2_code
def yX3_begin : MethodName := ⟨RX3, "begin", "([LFacingleaf$Chapter;IIZ)V"⟩
abbrev cX3_kindAt : ByteArray := prog_5_method_3_code
def yX3_kindAt : MethodName := ⟨RX3, "kindAt", "(I)I"⟩
abbrev cX3_runningHead : ByteArray := prog_5_method_4_code
def yX3_runningHead : MethodName := ⟨RX3, "runningHead", "(IIZ)I"⟩
abbrev cX3_hasSameItem : ByteArray := prog_5_method_5_code
def yX3_hasSameItem : MethodName := ⟨RX3, "hasSameItem", "(LFacingleaf$Edition;II)Z"⟩
abbrev cX3_hasSameRow : ByteArray := prog_5_method_6_code
def yX3_hasSameRow : MethodName := ⟨RX3, "hasSameRow", "(LFacingleaf$Edition;III)Z"⟩
abbrev cX3_hasSamePage : ByteArray := prog_5_method_7_code
def yX3_hasSamePage : MethodName := ⟨RX3, "hasSamePage", "(LFacingleaf$Edition;I)Z"⟩
abbrev cX3_hasSameRows : ByteArray := prog_5_method_8_code
def yX3_hasSameRows : MethodName := ⟨RX3, "hasSameRows", "(LFacingleaf$Edition;III)Z"⟩
abbrev cX3_hasSameTexts : ByteArray := prog_5_method_9_code
def yX3_hasSameTexts : MethodName := ⟨RX3, "hasSameTexts", "(LFacingleaf$Edition;II)Z"⟩
abbrev cX3_hasSameFloats : ByteArray := prog_5_method_10_code
def yX3_hasSameFloats : MethodName := ⟨RX3, "hasSameFloats", "(LFacingleaf$Edition;III)Z"⟩
abbrev cX3_hasSameNotes : ByteArray := prog_5_method_11_code
def yX3_hasSameNotes : MethodName := ⟨RX3, "hasSameNotes", "(LFacingleaf$Edition;III)Z"⟩
abbrev cX3_hasSamePiece : ByteArray := prog_5_method_12_code
def yX3_hasSamePiece : MethodName := ⟨RX3, "hasSamePiece", "(LFacingleaf$Edition;III)Z"⟩
def RX4 : String := "Facingleaf$Index"
def TX4 : u_T := fun k => match k with
  | 0 => ("Facingleaf$Index", "count", "[I", true)
  | 1 => ("Facingleaf$Index", "first", "[[I", true)
  | 2 => ("Facingleaf$Index", "last", "[[I", true)
  | 3 => ("Facingleaf$Index", "lineCount", "I", false)
  | 4 => ("Facingleaf$Index", "pageCount", "I", false)
  | _ => ("Facingleaf$Index", "depth", "I", false)
def tyX4 : Nat → FieldType := fun k => match k with
  | 0 => .array .int
  | 1 => .array (.array .int)
  | 2 => .array (.array .int)
  | 3 => .int
  | 4 => .int
  | _ => .int
abbrev wsX40 : List Cond := u_ws RX4 TX4 6
theorem nmX4 : ∀ a, a < 6 → ∀ b, b < 6 → a ≠ b → (TX4 a).2.1 ≠ (TX4 b).2.1 := by decide +kernel
theorem tyX4_ok : ∀ k, k < 6 → parseFieldDescriptor (TX4 k).2.2.1 = some (tyX4 k) := by decide +kernel
abbrev cX4_init : ByteArray := prog_6_method_1_code
def yX4_init : MethodName := ⟨RX4, "<init>", "()V"⟩
abbrev cX4_collect : ByteArray := prog_6_method_2_code
def yX4_collect : MethodName := ⟨RX4, "collect", "([LFacingleaf$Chapter;LFacingleaf$Edition;)V"⟩
abbrev cX4_addEntry : ByteArray := prog_6_method_3_code
def yX4_addEntry : MethodName := ⟨RX4, "addEntry", "(II)V"⟩
abbrev cX4_setLines : ByteArray := prog_6_method_4_code
def yX4_setLines : MethodName := ⟨RX4, "setLines", "([II)V"⟩
abbrev cX4_pageWith : ByteArray := prog_6_method_5_code
def yX4_pageWith : MethodName := ⟨RX4, "pageWith", "(I)I"⟩
abbrev cX4_columnOf : ByteArray := prog_6_method_6_code
def yX4_columnOf : MethodName := ⟨RX4, "columnOf", "(I)I"⟩
def RX5 : String := "Facingleaf$Item"
def TX5 : u_T := fun k => match k with
  | 0 => ("Facingleaf$Item", "isHead", "Z", false)
  | 1 => ("Facingleaf$Item", "need", "I", false)
  | 2 => ("Facingleaf$Item", "count", "I", false)
  | 3 => ("Facingleaf$Item", "serial", "I", false)
  | 4 => ("Facingleaf$Item", "width", "[I", true)
  | 5 => ("Facingleaf$Item", "kind", "[I", true)
  | 6 => ("Facingleaf$Item", "value", "[I", true)
  | 7 => ("Facingleaf$Item", "taken", "[I", true)
  | 8 => ("Facingleaf$Item", "brokenBy", "I", false)
  | 9 => ("Facingleaf$Item", "brokenWidth", "[I", true)
  | 10 => ("Facingleaf$Item", "lineCount", "I", false)
  | 11 => ("Facingleaf$Item", "lineCost", "I", false)
  | _ => ("Facingleaf$Item", "lineEnd", "[I", true)
def tyX5 : Nat → FieldType := fun k => match k with
  | 0 => .boolean
  | 1 => .int
  | 2 => .int
  | 3 => .int
  | 4 => .array .int
  | 5 => .array .int
  | 6 => .array .int
  | 7 => .array .int
  | 8 => .int
  | 9 => .array .int
  | 10 => .int
  | 11 => .int
  | _ => .array .int
abbrev wsX50 : List Cond := u_ws RX5 TX5 13
theorem nmX5 : ∀ a, a < 13 → ∀ b, b < 13 → a ≠ b → (TX5 a).2.1 ≠ (TX5 b).2.1 := by decide +kernel
theorem tyX5_ok : ∀ k, k < 13 → parseFieldDescriptor (TX5 k).2.2.1 = some (tyX5 k) := by decide +kernel
abbrev cX5_init : ByteArray := prog_7_method_1_code
def yX5_init : MethodName := ⟨RX5, "<init>", "()V"⟩
abbrev cX5_addWord : ByteArray := prog_7_method_2_code
def yX5_addWord : MethodName := ⟨RX5, "addWord", "(III)V"⟩
abbrev cX5_takeWords : ByteArray := prog_7_method_3_code
def yX5_takeWords : MethodName := ⟨RX5, "takeWords", "(LFacingleaf$Item;)V"⟩
abbrev cX5_takeHead : ByteArray := prog_7_method_4_code
def yX5_takeHead : MethodName := ⟨RX5, "takeHead", "(I)V"⟩
abbrev cX5_widthAt : ByteArray := prog_7_method_5_code
def yX5_widthAt : MethodName := ⟨RX5, "widthAt", "(I)I"⟩
abbrev cX5_sumOf : ByteArray := prog_7_method_6_code
def yX5_sumOf : MethodName := ⟨RX5, "sumOf", "(I)I"⟩
abbrev cX5_labels : ByteArray := prog_7_method_7_code
def yX5_labels : MethodName := ⟨RX5, "labels", "()I"⟩
abbrev cX5_isBroken : ByteArray := prog_7_method_8_code
def yX5_isBroken : MethodName := ⟨RX5, "isBroken", "(I)Z"⟩
def RX6 : String := "Facingleaf$Margins"
def TX6 : u_T := fun k => match k with
  | 0 => ("Facingleaf$Margins", "put", "[I", true)
  | 1 => ("Facingleaf$Margins", "over", "[I", true)
  | 2 => ("Facingleaf$Margins", "overCount", "I", false)
  | 3 => ("Facingleaf$Margins", "page", "I", false)
  | 4 => ("Facingleaf$Margins", "depth", "I", false)
  | _ => ("Facingleaf$Margins", "end", "I", false)
def tyX6 : Nat → FieldType := fun k => match k with
  | 0 => .array .int
  | 1 => .array .int
  | 2 => .int
  | 3 => .int
  | 4 => .int
  | _ => .int
abbrev wsX60 : List Cond := u_ws RX6 TX6 6
theorem nmX6 : ∀ a, a < 6 → ∀ b, b < 6 → a ≠ b → (TX6 a).2.1 ≠ (TX6 b).2.1 := by decide +kernel
theorem tyX6_ok : ∀ k, k < 6 → parseFieldDescriptor (TX6 k).2.2.1 = some (tyX6 k) := by decide +kernel
abbrev cX6_init : ByteArray := prog_8_method_1_code
def yX6_init : MethodName := ⟨RX6, "<init>", "()V"⟩
abbrev cX6_putAll : ByteArray := prog_8_method_2_code
def yX6_putAll : MethodName := ⟨RX6, "putAll", "([LFacingleaf$Chapter;LFacingleaf$Edition;)V"⟩
abbrev cX6_putOver : ByteArray := prog_8_method_3_code
def yX6_putOver : MethodName := ⟨RX6, "putOver", "(LFacingleaf$Chapter;)V"⟩
abbrev cX6_putPage : ByteArray := prog_8_method_4_code
def yX6_putPage : MethodName := ⟨RX6, "putPage", "(LFacingleaf$Chapter;ILFacingleaf$Rows;LFacingleaf$Pages;I)V"⟩
abbrev cX6_putOne : ByteArray := prog_8_method_5_code
def yX6_putOne : MethodName := ⟨RX6, "putOne", "(III)V"⟩
def RX7 : String := "Facingleaf$PageMaker"
def TX7 : u_T := fun k => match k with
  | 0 => ("Facingleaf$PageMaker", "reached", "[I", true)
  | 1 => ("Facingleaf$PageMaker", "least", "[I", true)
  | 2 => ("Facingleaf$PageMaker", "choice", "[I", true)
  | 3 => ("Facingleaf$PageMaker", "rows", "LFacingleaf$Rows;", false)
  | 4 => ("Facingleaf$PageMaker", "depth", "I", false)
  | 5 => ("Facingleaf$PageMaker", "lines", "I", false)
  | 6 => ("Facingleaf$PageMaker", "grown", "I", false)
  | 7 => ("Facingleaf$PageMaker", "filled", "I", false)
  | 8 => ("Facingleaf$PageMaker", "cost", "I", false)
  | 9 => ("Facingleaf$PageMaker", "isVeryLast", "Z", false)
  | 10 => ("Facingleaf$PageMaker", "bareFloats", "I", false)
  | 11 => ("Facingleaf$PageMaker", "bareLines", "I", false)
  | _ => ("Facingleaf$PageMaker", "bareFilled", "I", false)
def tyX7 : Nat → FieldType := fun k => match k with
  | 0 => .array .int
  | 1 => .array .int
  | 2 => .array .int
  | 3 => .object "Facingleaf$Rows"
  | 4 => .int
  | 5 => .int
  | 6 => .int
  | 7 => .int
  | 8 => .int
  | 9 => .boolean
  | 10 => .int
  | 11 => .int
  | _ => .int
abbrev wsX70 : List Cond := u_ws RX7 TX7 13
theorem nmX7 : ∀ a, a < 13 → ∀ b, b < 13 → a ≠ b → (TX7 a).2.1 ≠ (TX7 b).2.1 := by decide +kernel
theorem tyX7_ok : ∀ k, k < 13 → parseFieldDescriptor (TX7 k).2.2.1 = some (tyX7 k) := by decide +kernel
abbrev cX7_init : ByteArray := prog_9_method_1_code
def yX7_init : MethodName := ⟨RX7, "<init>", "()V"⟩
abbrev cX7_begin : ByteArray := prog_9_method_2_code
def yX7_begin : MethodName := ⟨RX7, "begin", "(LFacingleaf$Rows;I)V"⟩
abbrev cX7_isPage : ByteArray := prog_9_method_3_code
def yX7_isPage : MethodName := ⟨RX7, "isPage", "(IIIII)Z"⟩
abbrev cX7_mostFloats : ByteArray := prog_9_method_4_code
def yX7_mostFloats : MethodName := ⟨RX7, "mostFloats", "(II)I"⟩
abbrev cX7_costBehind : ByteArray := prog_9_method_5_code
def yX7_costBehind : MethodName := ⟨RX7, "costBehind", "(I)I"⟩
abbrev cX7_aheadOfNext : ByteArray := prog_9_method_6_code
def yX7_aheadOfNext : MethodName := ⟨RX7, "aheadOfNext", "(I)I"⟩
abbrev cX7_placeAt : ByteArray := prog_9_method_7_code
def yX7_placeAt : MethodName := ⟨RX7, "placeAt", "(III)I"⟩
abbrev cX7_floatsAt : ByteArray := prog_9_method_8_code
def yX7_floatsAt : MethodName := ⟨RX7, "floatsAt", "(I)I"⟩
abbrev cX7_notesAt : ByteArray := prog_9_method_9_code
def yX7_notesAt : MethodName := ⟨RX7, "notesAt", "(I)I"⟩
abbrev cX7_fillBare : ByteArray := prog_9_method_10_code
def yX7_fillBare : MethodName := ⟨RX7, "fillBare", "(II)V"⟩
abbrev cX7_barePages : ByteArray := prog_9_method_11_code
def yX7_barePages : MethodName := ⟨RX7, "barePages", "(II)I"⟩
abbrev cX7_hasAdded : ByteArray := prog_9_method_12_code
def yX7_hasAdded : MethodName := ⟨RX7, "hasAdded", "(LFacingleaf$Pages;II)Z"⟩
abbrev cX7_aheadOf : ByteArray := prog_9_method_13_code
def yX7_aheadOf : MethodName := ⟨RX7, "aheadOf", "(LFacingleaf$Pages;)I"⟩
abbrev cX7_hasMadeRest : ByteArray := prog_9_method_14_code
def yX7_hasMadeRest : MethodName := ⟨RX7, "hasMadeRest", "(LFacingleaf$Pages;)Z"⟩
abbrev cX7_reachBehind : ByteArray := prog_9_method_15_code
def yX7_reachBehind : MethodName := ⟨RX7, "reachBehind", "(I)V"⟩
abbrev cX7_weighEnds : ByteArray := prog_9_method_16_code
def yX7_weighEnds : MethodName := ⟨RX7, "weighEnds", "()V"⟩
abbrev cX7_weigh : ByteArray := prog_9_method_17_code
def yX7_weigh : MethodName := ⟨RX7, "weigh", "(I)V"⟩
abbrev cX7_weighPage : ByteArray := prog_9_method_18_code
def yX7_weighPage : MethodName := ⟨RX7, "weighPage", "(III)V"⟩
abbrev cX7_weighWay : ByteArray := prog_9_method_19_code
def yX7_weighWay : MethodName := ⟨RX7, "weighWay", "(III)V"⟩
abbrev cX7_addChosen : ByteArray := prog_9_method_20_code
def yX7_addChosen : MethodName := ⟨RX7, "addChosen", "(LFacingleaf$Pages;)V"⟩
abbrev cX7_addBare : ByteArray := prog_9_method_21_code
def yX7_addBare : MethodName := ⟨RX7, "addBare", "(LFacingleaf$Pages;)V"⟩
abbrev cX7_leastByAll : ByteArray := prog_9_method_22_code
def yX7_leastByAll : MethodName := ⟨RX7, "leastByAll", "(LFacingleaf$Rows;I)I"⟩
abbrev cX7_leastFrom : ByteArray := prog_9_method_23_code
def yX7_leastFrom : MethodName := ⟨RX7, "leastFrom", "(LFacingleaf$PageMaker;IIII)I"⟩
def RX8 : String := "Facingleaf$Pages"
def TX8 : u_T := fun k => match k with
  | 0 => ("Facingleaf$Pages", "first", "I", false)
  | 1 => ("Facingleaf$Pages", "count", "I", false)
  | 2 => ("Facingleaf$Pages", "withRows", "I", false)
  | 3 => ("Facingleaf$Pages", "totalCost", "I", false)
  | 4 => ("Facingleaf$Pages", "rowsTo", "[I", true)
  | 5 => ("Facingleaf$Pages", "floatsTo", "[I", true)
  | 6 => ("Facingleaf$Pages", "notesTo", "[I", true)
  | 7 => ("Facingleaf$Pages", "grown", "[I", true)
  | _ => ("Facingleaf$Pages", "filled", "[I", true)
def tyX8 : Nat → FieldType := fun k => match k with
  | 0 => .int
  | 1 => .int
  | 2 => .int
  | 3 => .int
  | 4 => .array .int
  | 5 => .array .int
  | 6 => .array .int
  | 7 => .array .int
  | _ => .array .int
abbrev wsX80 : List Cond := u_ws RX8 TX8 9
theorem nmX8 : ∀ a, a < 9 → ∀ b, b < 9 → a ≠ b → (TX8 a).2.1 ≠ (TX8 b).2.1 := by decide +kernel
theorem tyX8_ok : ∀ k, k < 9 → parseFieldDescriptor (TX8 k).2.2.1 = some (tyX8 k) := by decide +kernel
abbrev cX8_init : ByteArray := prog_10_method_1_code
def yX8_init : MethodName := ⟨RX8, "<init>", "()V"⟩
abbrev cX8_begin : ByteArray := prog_10_method_2_code
def yX8_begin : MethodName := ⟨RX8, "begin", "(I)V"⟩
abbrev cX8_addPage : ByteArray := prog_10_method_3_code
def yX8_addPage : MethodName := ⟨RX8, "addPage", "(IIIII)V"⟩
abbrev cX8_rowsBefore : ByteArray := prog_10_method_4_code
def yX8_rowsBefore : MethodName := ⟨RX8, "rowsBefore", "(I)I"⟩
abbrev cX8_floatsBefore : ByteArray := prog_10_method_5_code
def yX8_floatsBefore : MethodName := ⟨RX8, "floatsBefore", "(I)I"⟩
abbrev cX8_notesBefore : ByteArray := prog_10_method_6_code
def yX8_notesBefore : MethodName := ⟨RX8, "notesBefore", "(I)I"⟩
abbrev cX8_pageWith : ByteArray := prog_10_method_7_code
def yX8_pageWith : MethodName := ⟨RX8, "pageWith", "(I)I"⟩
abbrev cX8_tell : ByteArray := prog_10_method_8_code
def yX8_tell : MethodName := ⟨RX8, "tell", "(II)I"⟩
def RX9 : String := "Facingleaf$Rows"
def TX9 : u_T := fun k => match k with
  | 0 => ("Facingleaf$Rows", "count", "I", false)
  | 1 => ("Facingleaf$Rows", "item", "[I", true)
  | 2 => ("Facingleaf$Rows", "from", "[I", true)
  | 3 => ("Facingleaf$Rows", "to", "[I", true)
  | 4 => ("Facingleaf$Rows", "need", "[I", true)
  | 5 => ("Facingleaf$Rows", "isFirstOfMore", "[Z", true)
  | 6 => ("Facingleaf$Rows", "isLastOfMore", "[Z", true)
  | 7 => ("Facingleaf$Rows", "blanksTo", "[I", true)
  | 8 => ("Facingleaf$Rows", "floatsTo", "[I", true)
  | 9 => ("Facingleaf$Rows", "notesTo", "[I", true)
  | 10 => ("Facingleaf$Rows", "leastNotesTo", "[I", true)
  | 11 => ("Facingleaf$Rows", "lateHead", "[I", true)
  | 12 => ("Facingleaf$Rows", "floats", "I", false)
  | 13 => ("Facingleaf$Rows", "floatPiece", "[I", true)
  | 14 => ("Facingleaf$Rows", "notePiece", "[I", true)
  | 15 => ("Facingleaf$Rows", "highTo", "[I", true)
  | 16 => ("Facingleaf$Rows", "notes", "I", false)
  | _ => ("Facingleaf$Rows", "leastNotes", "I", false)
def tyX9 : Nat → FieldType := fun k => match k with
  | 0 => .int
  | 1 => .array .int
  | 2 => .array .int
  | 3 => .array .int
  | 4 => .array .int
  | 5 => .array .boolean
  | 6 => .array .boolean
  | 7 => .array .int
  | 8 => .array .int
  | 9 => .array .int
  | 10 => .array .int
  | 11 => .array .int
  | 12 => .int
  | 13 => .array .int
  | 14 => .array .int
  | 15 => .array .int
  | 16 => .int
  | _ => .int
abbrev wsX90 : List Cond := u_ws RX9 TX9 18
theorem nmX9 : ∀ a, a < 18 → ∀ b, b < 18 → a ≠ b → (TX9 a).2.1 ≠ (TX9 b).2.1 := by decide +kernel
theorem tyX9_ok : ∀ k, k < 18 → parseFieldDescriptor (TX9 k).2.2.1 = some (tyX9 k) := by decide +kernel
abbrev cX9_init : ByteArray := prog_11_method_1_code
def yX9_init : MethodName := ⟨RX9, "<init>", "()V"⟩
abbrev cX9_collect : ByteArray := prog_11_method_2_code
def yX9_collect : MethodName := ⟨RX9, "collect", "(LFacingleaf$Chapter;)V"⟩
abbrev cX9_addRow : ByteArray := prog_11_method_3_code
def yX9_addRow : MethodName := ⟨RX9, "addRow", "(LFacingleaf$Item;II)V"⟩
abbrev cX9_addWord : ByteArray := prog_11_method_4_code
def yX9_addWord : MethodName := ⟨RX9, "addWord", "(LFacingleaf$Item;II)V"⟩
abbrev cX9_lateHeadBy : ByteArray := prog_11_method_5_code
def yX9_lateHeadBy : MethodName := ⟨RX9, "lateHeadBy", "(I)I"⟩
abbrev cX9_hasBlankAhead : ByteArray := prog_11_method_6_code
def yX9_hasBlankAhead : MethodName := ⟨RX9, "hasBlankAhead", "(I)Z"⟩
abbrev cX9_floatHigh : ByteArray := prog_11_method_7_code
def yX9_floatHigh : MethodName := ⟨RX9, "floatHigh", "(I)I"⟩
def RX10 : String := "Facingleaf"
def TX10 : u_T := fun k => match k with
  | 0 => ("Facingleaf", "chapters", "[LFacingleaf$Chapter;", true)
  | 1 => ("Facingleaf", "draft", "LFacingleaf$Item;", true)
  | 2 => ("Facingleaf", "also", "[I", true)
  | 3 => ("Facingleaf", "composer", "LFacingleaf$Composer;", true)
  | 4 => ("Facingleaf", "margins", "LFacingleaf$Margins;", true)
  | 5 => ("Facingleaf", "index", "LFacingleaf$Index;", true)
  | 6 => ("Facingleaf", "oneEdition", "LFacingleaf$Edition;", true)
  | 7 => ("Facingleaf", "otherEdition", "LFacingleaf$Edition;", true)
  | 8 => ("Facingleaf", "now", "LFacingleaf$Edition;", false)
  | 9 => ("Facingleaf", "printed", "LFacingleaf$Edition;", false)
  | 10 => ("Facingleaf", "width", "I", false)
  | 11 => ("Facingleaf", "depth", "I", false)
  | 12 => ("Facingleaf", "isByPage", "Z", false)
  | 13 => ("Facingleaf", "isMade", "Z", false)
  | _ => ("Facingleaf", "serials", "I", false)
def tyX10 : Nat → FieldType := fun k => match k with
  | 0 => .array (.object "Facingleaf$Chapter")
  | 1 => .object "Facingleaf$Item"
  | 2 => .array .int
  | 3 => .object "Facingleaf$Composer"
  | 4 => .object "Facingleaf$Margins"
  | 5 => .object "Facingleaf$Index"
  | 6 => .object "Facingleaf$Edition"
  | 7 => .object "Facingleaf$Edition"
  | 8 => .object "Facingleaf$Edition"
  | 9 => .object "Facingleaf$Edition"
  | 10 => .int
  | 11 => .int
  | 12 => .boolean
  | 13 => .boolean
  | _ => .int
abbrev wsX100 : List Cond := u_ws RX10 TX10 15
theorem nmX10 : ∀ a, a < 15 → ∀ b, b < 15 → a ≠ b → (TX10 a).2.1 ≠ (TX10 b).2.1 := by decide +kernel
theorem tyX10_ok : ∀ k, k < 15 → parseFieldDescriptor (TX10 k).2.2.1 = some (tyX10 k) := by decide +kernel
abbrev cX10_init : ByteArray := prog_1_method_1_code
def yX10_init : MethodName := ⟨RX10, "<init>", "()V"⟩
abbrev cX10_setMeasures : ByteArray := prog_1_method_2_code
def yX10_setMeasures : MethodName := ⟨RX10, "setMeasures", "(II)I"⟩
abbrev cX10_setByPage : ByteArray := prog_1_method_3_code
def yX10_setByPage : MethodName := ⟨RX10, "setByPage", "(Z)Z"⟩
abbrev cX10_word : ByteArray := prog_1_method_4_code
def yX10_word : MethodName := ⟨RX10, "word", "(III)I"⟩
abbrev cX10_refer : ByteArray := prog_1_method_5_code
def yX10_refer : MethodName := ⟨RX10, "refer", "(I)I"⟩
abbrev cX10_clear : ByteArray := prog_1_method_6_code
def yX10_clear : MethodName := ⟨RX10, "clear", "()I"⟩
abbrev cX10_paragraph : ByteArray := prog_1_method_7_code
def yX10_paragraph : MethodName := ⟨RX10, "paragraph", "(I)I"⟩
abbrev cX10_head : ByteArray := prog_1_method_8_code
def yX10_head : MethodName := ⟨RX10, "head", "(III)I"⟩
abbrev cX10_replace : ByteArray := prog_1_method_9_code
def yX10_replace : MethodName := ⟨RX10, "replace", "(II)I"⟩
abbrev cX10_seeAlso : ByteArray := prog_1_method_10_code
def yX10_seeAlso : MethodName := ⟨RX10, "seeAlso", "(II)I"⟩
abbrev cX10_compose : ByteArray := prog_1_method_11_code
def yX10_compose : MethodName := ⟨RX10, "compose", "(Z)I"⟩
abbrev cX10_print : ByteArray := prog_1_method_12_code
def yX10_print : MethodName := ⟨RX10, "print", "()I"⟩
abbrev cX10_isComposed : ByteArray := prog_1_method_13_code
def yX10_isComposed : MethodName := ⟨RX10, "isComposed", "()Z"⟩
abbrev cX10_items : ByteArray := prog_1_method_14_code
def yX10_items : MethodName := ⟨RX10, "items", "(I)I"⟩
abbrev cX10_words : ByteArray := prog_1_method_15_code
def yX10_words : MethodName := ⟨RX10, "words", "(II)I"⟩
abbrev cX10_widthOf : ByteArray := prog_1_method_16_code
def yX10_widthOf : MethodName := ⟨RX10, "widthOf", "(III)I"⟩
abbrev cX10_lines : ByteArray := prog_1_method_17_code
def yX10_lines : MethodName := ⟨RX10, "lines", "(II)I"⟩
abbrev cX10_wordsTo : ByteArray := prog_1_method_18_code
def yX10_wordsTo : MethodName := ⟨RX10, "wordsTo", "(III)I"⟩
abbrev cX10_costOfLines : ByteArray := prog_1_method_19_code
def yX10_costOfLines : MethodName := ⟨RX10, "costOfLines", "(II)I"⟩
abbrev cX10_rows : ByteArray := prog_1_method_20_code
def yX10_rows : MethodName := ⟨RX10, "rows", "(I)I"⟩
abbrev cX10_broken : ByteArray := prog_1_method_21_code
def yX10_broken : MethodName := ⟨RX10, "broken", "()I"⟩
abbrev cX10_pages : ByteArray := prog_1_method_22_code
def yX10_pages : MethodName := ⟨RX10, "pages", "()I"⟩
abbrev cX10_kindOf : ByteArray := prog_1_method_23_code
def yX10_kindOf : MethodName := ⟨RX10, "kindOf", "(I)I"⟩
abbrev cX10_pageOf : ByteArray := prog_1_method_24_code
def yX10_pageOf : MethodName := ⟨RX10, "pageOf", "(IZ)I"⟩
abbrev cX10_pageOfRow : ByteArray := prog_1_method_25_code
def yX10_pageOfRow : MethodName := ⟨RX10, "pageOfRow", "(II)I"⟩
abbrev cX10_onPage : ByteArray := prog_1_method_26_code
def yX10_onPage : MethodName := ⟨RX10, "onPage", "(II)I"⟩
abbrev cX10_cost : ByteArray := prog_1_method_27_code
def yX10_cost : MethodName := ⟨RX10, "cost", "(I)I"⟩
abbrev cX10_costByAll : ByteArray := prog_1_method_28_code
def yX10_costByAll : MethodName := ⟨RX10, "costByAll", "(I)I"⟩
abbrev cX10_isSettled : ByteArray := prog_1_method_29_code
def yX10_isSettled : MethodName := ⟨RX10, "isSettled", "()Z"⟩
abbrev cX10_textOf : ByteArray := prog_1_method_30_code
def yX10_textOf : MethodName := ⟨RX10, "textOf", "(III)I"⟩
abbrev cX10_noteOf : ByteArray := prog_1_method_31_code
def yX10_noteOf : MethodName := ⟨RX10, "noteOf", "(III)I"⟩
abbrev cX10_headOf : ByteArray := prog_1_method_32_code
def yX10_headOf : MethodName := ⟨RX10, "headOf", "(IZ)I"⟩
abbrev cX10_marginOf : ByteArray := prog_1_method_33_code
def yX10_marginOf : MethodName := ⟨RX10, "marginOf", "(III)I"⟩
abbrev cX10_ranges : ByteArray := prog_1_method_34_code
def yX10_ranges : MethodName := ⟨RX10, "ranges", "(I)I"⟩
abbrev cX10_range : ByteArray := prog_1_method_35_code
def yX10_range : MethodName := ⟨RX10, "range", "(IIZ)I"⟩
abbrev cX10_indexLines : ByteArray := prog_1_method_36_code
def yX10_indexLines : MethodName := ⟨RX10, "indexLines", "()I"⟩
abbrev cX10_indexLine : ByteArray := prog_1_method_37_code
def yX10_indexLine : MethodName := ⟨RX10, "indexLine", "(I)I"⟩
abbrev cX10_sheets : ByteArray := prog_1_method_38_code
def yX10_sheets : MethodName := ⟨RX10, "sheets", "()I"⟩
abbrev cX10_untouched : ByteArray := prog_1_method_39_code
def yX10_untouched : MethodName := ⟨RX10, "untouched", "()I"⟩
abbrev cX10_checkChapter : ByteArray := prog_1_method_40_code
def yX10_checkChapter : MethodName := ⟨RX10, "checkChapter", "(I)V"⟩
abbrev cX10_checkedItem : ByteArray := prog_1_method_41_code
def yX10_checkedItem : MethodName := ⟨RX10, "checkedItem", "(II)LFacingleaf$Item;"⟩
abbrev cX10_checkWord : ByteArray := prog_1_method_42_code
def yX10_checkWord : MethodName := ⟨RX10, "checkWord", "(III)V"⟩
abbrev cX10_checkTerm : ByteArray := prog_1_method_43_code
def yX10_checkTerm : MethodName := ⟨RX10, "checkTerm", "(I)V"⟩
abbrev cX10_checkPage : ByteArray := prog_1_method_44_code
def yX10_checkPage : MethodName := ⟨RX10, "checkPage", "(I)V"⟩
abbrev cX10_checkMade : ByteArray := prog_1_method_45_code
def yX10_checkMade : MethodName := ⟨RX10, "checkMade", "()V"⟩
abbrev cX10_draftWord : ByteArray := prog_1_method_46_code
def yX10_draftWord : MethodName := ⟨RX10, "draftWord", "(III)I"⟩
abbrev cX10_addItem : ByteArray := prog_1_method_47_code
def yX10_addItem : MethodName := ⟨RX10, "addItem", "(LFacingleaf$Chapter;)LFacingleaf$Item;"⟩
abbrev cX10_isDraftFit : ByteArray := prog_1_method_48_code
def yX10_isDraftFit : MethodName := ⟨RX10, "isDraftFit", "(II)Z"⟩
abbrev cX10_hasLabelTwice : ByteArray := prog_1_method_49_code
def yX10_hasLabelTwice : MethodName := ⟨RX10, "hasLabelTwice", "(II)Z"⟩
abbrev cX10_isUntouched : ByteArray := prog_1_method_50_code
def yX10_isUntouched : MethodName := ⟨RX10, "isUntouched", "(I)Z"⟩
abbrev cX10_sheetsFor : ByteArray := prog_1_method_51_code
def yX10_sheetsFor : MethodName := ⟨RX10, "sheetsFor", "(I)I"⟩
abbrev cX10_isName : ByteArray := prog_1_method_52_code
def yX10_isName : MethodName := ⟨RX10, "isName", "(I)Z"⟩
abbrev cX10_isValue : ByteArray := prog_1_method_53_code
def yX10_isValue : MethodName := ⟨RX10, "isValue", "(II)Z"⟩
abbrev cX10_wordId : ByteArray := prog_1_method_54_code
def yX10_wordId : MethodName := ⟨RX10, "wordId", "(III)I"⟩
abbrev cX10_digitsOf : ByteArray := prog_1_method_55_code
def yX10_digitsOf : MethodName := ⟨RX10, "digitsOf", "(I)I"⟩
abbrev cX10_widthOfText : ByteArray := prog_1_method_56_code
def yX10_widthOfText : MethodName := ⟨RX10, "widthOfText", "(I)I"⟩
def RX11 : String := "FacingleafModel"
def TX11 : u_T := fun k => match k with
  | 0 => ("FacingleafModel", "thrown", "I", false)
  | 1 => ("FacingleafModel", "measure", "I", false)
  | 2 => ("FacingleafModel", "depth", "I", false)
  | 3 => ("FacingleafModel", "byPage", "Z", false)
  | 4 => ("FacingleafModel", "items", "[I", true)
  | 5 => ("FacingleafModel", "isHead", "[Z", true)
  | 6 => ("FacingleafModel", "need", "[I", true)
  | 7 => ("FacingleafModel", "many", "[I", true)
  | 8 => ("FacingleafModel", "stamp", "[I", true)
  | 9 => ("FacingleafModel", "width", "[I", true)
  | 10 => ("FacingleafModel", "kind", "[I", true)
  | 11 => ("FacingleafModel", "value", "[I", true)
  | 12 => ("FacingleafModel", "drafted", "I", false)
  | 13 => ("FacingleafModel", "draftWidth", "[I", true)
  | 14 => ("FacingleafModel", "draftKind", "[I", true)
  | 15 => ("FacingleafModel", "draftValue", "[I", true)
  | 16 => ("FacingleafModel", "see", "[I", true)
  | 17 => ("FacingleafModel", "extra", "[I", true)
  | 18 => ("FacingleafModel", "found", "[I", true)
  | 19 => ("FacingleafModel", "past", "[I", true)
  | 20 => ("FacingleafModel", "rounds", "I", false)
  | 21 => ("FacingleafModel", "isSettled", "Z", false)
  | 22 => ("FacingleafModel", "isComposed", "Z", false)
  | 23 => ("FacingleafModel", "broken", "I", false)
  | 24 => ("FacingleafModel", "brokenAt", "[I", true)
  | 25 => ("FacingleafModel", "brokenWide", "[I", true)
  | 26 => ("FacingleafModel", "lines", "[I", true)
  | 27 => ("FacingleafModel", "lineEnd", "[I", true)
  | 28 => ("FacingleafModel", "lineCost", "[I", true)
  | 29 => ("FacingleafModel", "leastCost", "[I", true)
  | 30 => ("FacingleafModel", "leastLines", "[I", true)
  | 31 => ("FacingleafModel", "next", "[I", true)
  | 32 => ("FacingleafModel", "rows", "[I", true)
  | 33 => ("FacingleafModel", "rowItem", "[I", true)
  | 34 => ("FacingleafModel", "rowLine", "[I", true)
  | 35 => ("FacingleafModel", "rowFrom", "[I", true)
  | 36 => ("FacingleafModel", "rowTo", "[I", true)
  | 37 => ("FacingleafModel", "rowPage", "[I", true)
  | 38 => ("FacingleafModel", "wordRow", "[I", true)
  | 39 => ("FacingleafModel", "floats", "[I", true)
  | 40 => ("FacingleafModel", "floatWord", "[I", true)
  | 41 => ("FacingleafModel", "noteLines", "[I", true)
  | 42 => ("FacingleafModel", "lineWord", "[I", true)
  | 43 => ("FacingleafModel", "lineOf", "[I", true)
  | 44 => ("FacingleafModel", "blanksTo", "[I", true)
  | 45 => ("FacingleafModel", "floatsTo", "[I", true)
  | 46 => ("FacingleafModel", "notesTo", "[I", true)
  | 47 => ("FacingleafModel", "lastNote", "[I", true)
  | 48 => ("FacingleafModel", "isReached", "[Z", true)
  | 49 => ("FacingleafModel", "best", "[I", true)
  | 50 => ("FacingleafModel", "isPage", "Z", false)
  | 51 => ("FacingleafModel", "tryFloats", "I", false)
  | 52 => ("FacingleafModel", "tryLines", "I", false)
  | 53 => ("FacingleafModel", "tryGrown", "I", false)
  | 54 => ("FacingleafModel", "tryFill", "I", false)
  | 55 => ("FacingleafModel", "tryCost", "I", false)
  | 56 => ("FacingleafModel", "tryLeft", "I", false)
  | 57 => ("FacingleafModel", "leftLines", "I", false)
  | 58 => ("FacingleafModel", "pages", "I", false)
  | 59 => ("FacingleafModel", "pageKind", "[I", true)
  | 60 => ("FacingleafModel", "pageFirst", "[I", true)
  | 61 => ("FacingleafModel", "pageRows", "[I", true)
  | 62 => ("FacingleafModel", "pageFloat", "[I", true)
  | 63 => ("FacingleafModel", "pageFloats", "[I", true)
  | 64 => ("FacingleafModel", "pageLine", "[I", true)
  | 65 => ("FacingleafModel", "pageLines", "[I", true)
  | 66 => ("FacingleafModel", "pageGrown", "[I", true)
  | 67 => ("FacingleafModel", "pageFill", "[I", true)
  | 68 => ("FacingleafModel", "begins", "[I", true)
  | 69 => ("FacingleafModel", "ends", "[I", true)
  | 70 => ("FacingleafModel", "cost", "[I", true)
  | 71 => ("FacingleafModel", "indexBegins", "I", false)
  | 72 => ("FacingleafModel", "isOn", "[Z", true)
  | 73 => ("FacingleafModel", "isPrinted", "Z", false)
  | 74 => ("FacingleafModel", "printedPages", "I", false)
  | 75 => ("FacingleafModel", "printedMeasure", "I", false)
  | 76 => ("FacingleafModel", "printedDepth", "I", false)
  | 77 => ("FacingleafModel", "printedBegins", "[I", true)
  | 78 => ("FacingleafModel", "printedRows", "[I", true)
  | 79 => ("FacingleafModel", "printedStamp", "[I", true)
  | 80 => ("FacingleafModel", "printedItem", "[I", true)
  | 81 => ("FacingleafModel", "printedFrom", "[I", true)
  | 82 => ("FacingleafModel", "printedTo", "[I", true)
  | 83 => ("FacingleafModel", "printedText", "[I", true)
  | 84 => ("FacingleafModel", "printedFloatWord", "[I", true)
  | 85 => ("FacingleafModel", "printedLineWord", "[I", true)
  | 86 => ("FacingleafModel", "printedLineOf", "[I", true)
  | 87 => ("FacingleafModel", "wasKind", "[I", true)
  | 88 => ("FacingleafModel", "wasFirst", "[I", true)
  | 89 => ("FacingleafModel", "wasRows", "[I", true)
  | 90 => ("FacingleafModel", "wasFloat", "[I", true)
  | 91 => ("FacingleafModel", "wasFloats", "[I", true)
  | 92 => ("FacingleafModel", "wasLine", "[I", true)
  | 93 => ("FacingleafModel", "wasLines", "[I", true)
  | 94 => ("FacingleafModel", "wasGrown", "[I", true)
  | 95 => ("FacingleafModel", "over", "I", false)
  | 96 => ("FacingleafModel", "goingOn", "I", false)
  | 97 => ("FacingleafModel", "overWord", "[I", true)
  | 98 => ("FacingleafModel", "nextOver", "[I", true)
  | 99 => ("FacingleafModel", "marginEnd", "I", false)
  | 100 => ("FacingleafModel", "sought", "I", false)
  | _ => ("FacingleafModel", "soughtAt", "I", false)
def tyX11 : Nat → FieldType := fun k => match k with
  | 0 => .int
  | 1 => .int
  | 2 => .int
  | 3 => .boolean
  | 4 => .array .int
  | 5 => .array .boolean
  | 6 => .array .int
  | 7 => .array .int
  | 8 => .array .int
  | 9 => .array .int
  | 10 => .array .int
  | 11 => .array .int
  | 12 => .int
  | 13 => .array .int
  | 14 => .array .int
  | 15 => .array .int
  | 16 => .array .int
  | 17 => .array .int
  | 18 => .array .int
  | 19 => .array .int
  | 20 => .int
  | 21 => .boolean
  | 22 => .boolean
  | 23 => .int
  | 24 => .array .int
  | 25 => .array .int
  | 26 => .array .int
  | 27 => .array .int
  | 28 => .array .int
  | 29 => .array .int
  | 30 => .array .int
  | 31 => .array .int
  | 32 => .array .int
  | 33 => .array .int
  | 34 => .array .int
  | 35 => .array .int
  | 36 => .array .int
  | 37 => .array .int
  | 38 => .array .int
  | 39 => .array .int
  | 40 => .array .int
  | 41 => .array .int
  | 42 => .array .int
  | 43 => .array .int
  | 44 => .array .int
  | 45 => .array .int
  | 46 => .array .int
  | 47 => .array .int
  | 48 => .array .boolean
  | 49 => .array .int
  | 50 => .boolean
  | 51 => .int
  | 52 => .int
  | 53 => .int
  | 54 => .int
  | 55 => .int
  | 56 => .int
  | 57 => .int
  | 58 => .int
  | 59 => .array .int
  | 60 => .array .int
  | 61 => .array .int
  | 62 => .array .int
  | 63 => .array .int
  | 64 => .array .int
  | 65 => .array .int
  | 66 => .array .int
  | 67 => .array .int
  | 68 => .array .int
  | 69 => .array .int
  | 70 => .array .int
  | 71 => .int
  | 72 => .array .boolean
  | 73 => .boolean
  | 74 => .int
  | 75 => .int
  | 76 => .int
  | 77 => .array .int
  | 78 => .array .int
  | 79 => .array .int
  | 80 => .array .int
  | 81 => .array .int
  | 82 => .array .int
  | 83 => .array .int
  | 84 => .array .int
  | 85 => .array .int
  | 86 => .array .int
  | 87 => .array .int
  | 88 => .array .int
  | 89 => .array .int
  | 90 => .array .int
  | 91 => .array .int
  | 92 => .array .int
  | 93 => .array .int
  | 94 => .array .int
  | 95 => .int
  | 96 => .int
  | 97 => .array .int
  | 98 => .array .int
  | 99 => .int
  | 100 => .int
  | _ => .int
abbrev wsX110 : List Cond := u_ws RX11 TX11 102
theorem nmX11 : ∀ a, a < 102 → ∀ b, b < 102 → a ≠ b → (TX11 a).2.1 ≠ (TX11 b).2.1 := by decide +kernel
theorem tyX11_ok : ∀ k, k < 102 → parseFieldDescriptor (TX11 k).2.2.1 = some (tyX11 k) := by decide +kernel
abbrev cX11_init : ByteArray := prog_13_method_1_code
def yX11_init : MethodName := ⟨RX11, "<init>", "()V"⟩
abbrev cX11_thrown : ByteArray := prog_13_method_2_code
def yX11_thrown : MethodName := ⟨RX11, "thrown", "()I"⟩
abbrev cX11_in : ByteArray := prog_13_method_3_code
def yX11_in : MethodName := ⟨RX11, "in", "(III)Z"⟩
abbrev cX11_least : ByteArray := prog_13_method_4_code
def yX11_least : MethodName := ⟨RX11, "least", "(II)I"⟩
abbrev cX11_digits : ByteArray := prog_13_method_5_code
def yX11_digits : MethodName := ⟨RX11, "digits", "(I)I"⟩
abbrev cX11_isChapter : ByteArray := prog_13_method_6_code
def yX11_isChapter : MethodName := ⟨RX11, "isChapter", "(I)Z"⟩
abbrev cX11_isItem : ByteArray := prog_13_method_7_code
def yX11_isItem : MethodName := ⟨RX11, "isItem", "(II)Z"⟩
abbrev cX11_isWord : ByteArray := prog_13_method_8_code
def yX11_isWord : MethodName := ⟨RX11, "isWord", "(III)Z"⟩
abbrev cX11_idOf : ByteArray := prog_13_method_9_code
def yX11_idOf : MethodName := ⟨RX11, "idOf", "(III)I"⟩
abbrev cX11_setMeasures : ByteArray := prog_13_method_10_code
def yX11_setMeasures : MethodName := ⟨RX11, "setMeasures", "(II)I"⟩
abbrev cX11_setByPage : ByteArray := prog_13_method_11_code
def yX11_setByPage : MethodName := ⟨RX11, "setByPage", "(Z)Z"⟩
abbrev cX11_isValue : ByteArray := prog_13_method_12_code
def yX11_isValue : MethodName := ⟨RX11, "isValue", "(II)Z"⟩
abbrev cX11_drafts : ByteArray := prog_13_method_13_code
def yX11_drafts : MethodName := ⟨RX11, "drafts", "(III)I"⟩
abbrev cX11_word : ByteArray := prog_13_method_14_code
def yX11_word : MethodName := ⟨RX11, "word", "(III)I"⟩
abbrev cX11_refer : ByteArray := prog_13_method_15_code
def yX11_refer : MethodName := ⟨RX11, "refer", "(I)I"⟩
abbrev cX11_clear : ByteArray := prog_13_method_16_code
def yX11_clear : MethodName := ⟨RX11, "clear", "()I"⟩
abbrev cX11_sumOf : ByteArray := prog_13_method_17_code
def yX11_sumOf : MethodName := ⟨RX11, "sumOf", "(IIIZ)I"⟩
abbrev cX11_sumOfDraft : ByteArray := prog_13_method_18_code
def yX11_sumOfDraft : MethodName := ⟨RX11, "sumOfDraft", "(IZ)I"⟩
abbrev cX11_isLabelTaken : ByteArray := prog_13_method_19_code
def yX11_isLabelTaken : MethodName := ⟨RX11, "isLabelTaken", "(I)Z"⟩
abbrev cX11_canTake : ByteArray := prog_13_method_20_code
def yX11_canTake : MethodName := ⟨RX11, "canTake", "(II)Z"⟩
abbrev cX11_lays : ByteArray := prog_13_method_21_code
def yX11_lays : MethodName := ⟨RX11, "lays", "(I)V"⟩
abbrev cX11_paragraph : ByteArray := prog_13_method_22_code
def yX11_paragraph : MethodName := ⟨RX11, "paragraph", "(I)I"⟩
abbrev cX11_head : ByteArray := prog_13_method_23_code
def yX11_head : MethodName := ⟨RX11, "head", "(III)I"⟩
abbrev cX11_replace : ByteArray := prog_13_method_24_code
def yX11_replace : MethodName := ⟨RX11, "replace", "(II)I"⟩
abbrev cX11_seeAlso : ByteArray := prog_13_method_25_code
def yX11_seeAlso : MethodName := ⟨RX11, "seeAlso", "(II)I"⟩
abbrev cX11_wide : ByteArray := prog_13_method_26_code
def yX11_wide : MethodName := ⟨RX11, "wide", "(I)I"⟩
abbrev cX11_isBrokenSo : ByteArray := prog_13_method_27_code
def yX11_isBrokenSo : MethodName := ⟨RX11, "isBrokenSo", "(I)Z"⟩
abbrev cX11_costOfLine : ByteArray := prog_13_method_28_code
def yX11_costOfLine : MethodName := ⟨RX11, "costOfLine", "(IIZ)I"⟩
abbrev cX11_breaks : ByteArray := prog_13_method_29_code
def yX11_breaks : MethodName := ⟨RX11, "breaks", "(I)V"⟩
abbrev cX11_addsRow : ByteArray := prog_13_method_30_code
def yX11_addsRow : MethodName := ⟨RX11, "addsRow", "(IIIII)V"⟩
abbrev cX11_laysRows : ByteArray := prog_13_method_31_code
def yX11_laysRows : MethodName := ⟨RX11, "laysRows", "(I)V"⟩
abbrev cX11_laysSums : ByteArray := prog_13_method_32_code
def yX11_laysSums : MethodName := ⟨RX11, "laysSums", "(I)V"⟩
abbrev cX11_heightOf : ByteArray := prog_13_method_33_code
def yX11_heightOf : MethodName := ⟨RX11, "heightOf", "(III)I"⟩
abbrev cX11_costOfEnds : ByteArray := prog_13_method_34_code
def yX11_costOfEnds : MethodName := ⟨RX11, "costOfEnds", "(III)I"⟩
abbrev cX11_haveRoomBelow : ByteArray := prog_13_method_35_code
def yX11_haveRoomBelow : MethodName := ⟨RX11, "haveRoomBelow", "(III)Z"⟩
abbrev cX11_tries : ByteArray := prog_13_method_36_code
def yX11_tries : MethodName := ⟨RX11, "tries", "(IIIIIII)Z"⟩
abbrev cX11_manyBare : ByteArray := prog_13_method_37_code
def yX11_manyBare : MethodName := ⟨RX11, "manyBare", "(IIIZ)I"⟩
abbrev cX11_stateOf : ByteArray := prog_13_method_38_code
def yX11_stateOf : MethodName := ⟨RX11, "stateOf", "(IIIZI)I"⟩
abbrev cX11_isOdd : ByteArray := prog_13_method_39_code
def yX11_isOdd : MethodName := ⟨RX11, "isOdd", "(I)Z"⟩
abbrev cX11_placedAt : ByteArray := prog_13_method_40_code
def yX11_placedAt : MethodName := ⟨RX11, "placedAt", "(I)I"⟩
abbrev cX11_shownAt : ByteArray := prog_13_method_41_code
def yX11_shownAt : MethodName := ⟨RX11, "shownAt", "(I)I"⟩
abbrev cX11_behind : ByteArray := prog_13_method_42_code
def yX11_behind : MethodName := ⟨RX11, "behind", "(II)I"⟩
abbrev cX11_mostFloats : ByteArray := prog_13_method_43_code
def yX11_mostFloats : MethodName := ⟨RX11, "mostFloats", "(II)I"⟩
abbrev cX11_goesThrough : ByteArray := prog_13_method_44_code
def yX11_goesThrough : MethodName := ⟨RX11, "goesThrough", "(IIZ)V"⟩
abbrev cX11_leastFrom : ByteArray := prog_13_method_45_code
def yX11_leastFrom : MethodName := ⟨RX11, "leastFrom", "(II)I"⟩
abbrev cX11_addsPage : ByteArray := prog_13_method_46_code
def yX11_addsPage : MethodName := ⟨RX11, "addsPage", "(IIIIIIIII)V"⟩
abbrev cX11_addsBare : ByteArray := prog_13_method_47_code
def yX11_addsBare : MethodName := ⟨RX11, "addsBare", "(I)V"⟩
abbrev cX11_addsTried : ByteArray := prog_13_method_48_code
def yX11_addsTried : MethodName := ⟨RX11, "addsTried", "(III)I"⟩
abbrev cX11_triesAt : ByteArray := prog_13_method_49_code
def yX11_triesAt : MethodName := ⟨RX11, "triesAt", "(IIII)Z"⟩
abbrev cX11_addsBest : ByteArray := prog_13_method_50_code
def yX11_addsBest : MethodName := ⟨RX11, "addsBest", "(II)I"⟩
abbrev cX11_isRowSame : ByteArray := prog_13_method_51_code
def yX11_isRowSame : MethodName := ⟨RX11, "isRowSame", "(II)Z"⟩
abbrev cX11_addsKept : ByteArray := prog_13_method_52_code
def yX11_addsKept : MethodName := ⟨RX11, "addsKept", "(II)I"⟩
abbrev cX11_makes : ByteArray := prog_13_method_53_code
def yX11_makes : MethodName := ⟨RX11, "makes", "(IZ)Z"⟩
abbrev cX11_heads : ByteArray := prog_13_method_54_code
def yX11_heads : MethodName := ⟨RX11, "heads", "()I"⟩
abbrev cX11_makesRound : ByteArray := prog_13_method_55_code
def yX11_makesRound : MethodName := ⟨RX11, "makesRound", "(Z)Z"⟩
abbrev cX11_isThere : ByteArray := prog_13_method_56_code
def yX11_isThere : MethodName := ⟨RX11, "isThere", "(I)Z"⟩
abbrev cX11_pageOfWord : ByteArray := prog_13_method_57_code
def yX11_pageOfWord : MethodName := ⟨RX11, "pageOfWord", "(I)I"⟩
abbrev cX11_wordWith : ByteArray := prog_13_method_58_code
def yX11_wordWith : MethodName := ⟨RX11, "wordWith", "(I)I"⟩
abbrev cX11_textAt : ByteArray := prog_13_method_59_code
def yX11_textAt : MethodName := ⟨RX11, "textAt", "(I)I"⟩
abbrev cX11_wideAs : ByteArray := prog_13_method_60_code
def yX11_wideAs : MethodName := ⟨RX11, "wideAs", "(I)I"⟩
abbrev cX11_numberAt : ByteArray := prog_13_method_61_code
def yX11_numberAt : MethodName := ⟨RX11, "numberAt", "(IZ)I"⟩
abbrev cX11_begin : ByteArray := prog_13_method_62_code
def yX11_begin : MethodName := ⟨RX11, "begin", "()V"⟩
abbrev cX11_finds : ByteArray := prog_13_method_63_code
def yX11_finds : MethodName := ⟨RX11, "finds", "()V"⟩
abbrev cX11_roundThatTook : ByteArray := prog_13_method_64_code
def yX11_roundThatTook : MethodName := ⟨RX11, "roundThatTook", "()I"⟩
abbrev cX11_takesWidest : ByteArray := prog_13_method_65_code
def yX11_takesWidest : MethodName := ⟨RX11, "takesWidest", "(I)V"⟩
abbrev cX11_composes : ByteArray := prog_13_method_66_code
def yX11_composes : MethodName := ⟨RX11, "composes", "(Z)Z"⟩
abbrev cX11_compose : ByteArray := prog_13_method_67_code
def yX11_compose : MethodName := ⟨RX11, "compose", "(Z)I"⟩
abbrev cX11_print : ByteArray := prog_13_method_68_code
def yX11_print : MethodName := ⟨RX11, "print", "()I"⟩
abbrev cX11_toldOf : ByteArray := prog_13_method_69_code
def yX11_toldOf : MethodName := ⟨RX11, "toldOf", "(I)I"⟩
abbrev cX11_printsWords : ByteArray := prog_13_method_70_code
def yX11_printsWords : MethodName := ⟨RX11, "printsWords", "()V"⟩
abbrev cX11_printsPages : ByteArray := prog_13_method_71_code
def yX11_printsPages : MethodName := ⟨RX11, "printsPages", "()V"⟩
abbrev cX11_isComposed : ByteArray := prog_13_method_72_code
def yX11_isComposed : MethodName := ⟨RX11, "isComposed", "()Z"⟩
abbrev cX11_items : ByteArray := prog_13_method_73_code
def yX11_items : MethodName := ⟨RX11, "items", "(I)I"⟩
abbrev cX11_words : ByteArray := prog_13_method_74_code
def yX11_words : MethodName := ⟨RX11, "words", "(II)I"⟩
abbrev cX11_asksWord : ByteArray := prog_13_method_75_code
def yX11_asksWord : MethodName := ⟨RX11, "asksWord", "(III)Z"⟩
abbrev cX11_widthOf : ByteArray := prog_13_method_76_code
def yX11_widthOf : MethodName := ⟨RX11, "widthOf", "(III)I"⟩
abbrev cX11_asksItem : ByteArray := prog_13_method_77_code
def yX11_asksItem : MethodName := ⟨RX11, "asksItem", "(II)Z"⟩
abbrev cX11_linesOf : ByteArray := prog_13_method_78_code
def yX11_linesOf : MethodName := ⟨RX11, "linesOf", "(I)I"⟩
abbrev cX11_lines : ByteArray := prog_13_method_79_code
def yX11_lines : MethodName := ⟨RX11, "lines", "(II)I"⟩
abbrev cX11_wordsTo : ByteArray := prog_13_method_80_code
def yX11_wordsTo : MethodName := ⟨RX11, "wordsTo", "(III)I"⟩
abbrev cX11_costOfLines : ByteArray := prog_13_method_81_code
def yX11_costOfLines : MethodName := ⟨RX11, "costOfLines", "(II)I"⟩
abbrev cX11_asksChapter : ByteArray := prog_13_method_82_code
def yX11_asksChapter : MethodName := ⟨RX11, "asksChapter", "(I)Z"⟩
abbrev cX11_rows : ByteArray := prog_13_method_83_code
def yX11_rows : MethodName := ⟨RX11, "rows", "(I)I"⟩
abbrev cX11_asks : ByteArray := prog_13_method_84_code
def yX11_asks : MethodName := ⟨RX11, "asks", "()Z"⟩
abbrev cX11_broken : ByteArray := prog_13_method_85_code
def yX11_broken : MethodName := ⟨RX11, "broken", "()I"⟩
abbrev cX11_pages : ByteArray := prog_13_method_86_code
def yX11_pages : MethodName := ⟨RX11, "pages", "()I"⟩
abbrev cX11_asksPage : ByteArray := prog_13_method_87_code
def yX11_asksPage : MethodName := ⟨RX11, "asksPage", "(I)Z"⟩
abbrev cX11_kindOf : ByteArray := prog_13_method_88_code
def yX11_kindOf : MethodName := ⟨RX11, "kindOf", "(I)I"⟩
abbrev cX11_pageOf : ByteArray := prog_13_method_89_code
def yX11_pageOf : MethodName := ⟨RX11, "pageOf", "(IZ)I"⟩
abbrev cX11_pageOfRow : ByteArray := prog_13_method_90_code
def yX11_pageOfRow : MethodName := ⟨RX11, "pageOfRow", "(II)I"⟩
abbrev cX11_onPage : ByteArray := prog_13_method_91_code
def yX11_onPage : MethodName := ⟨RX11, "onPage", "(II)I"⟩
abbrev cX11_cost : ByteArray := prog_13_method_92_code
def yX11_cost : MethodName := ⟨RX11, "cost", "(I)I"⟩
abbrev cX11_costByAll : ByteArray := prog_13_method_93_code
def yX11_costByAll : MethodName := ⟨RX11, "costByAll", "(I)I"⟩
abbrev cX11_isSettled : ByteArray := prog_13_method_94_code
def yX11_isSettled : MethodName := ⟨RX11, "isSettled", "()Z"⟩
abbrev cX11_textOf : ByteArray := prog_13_method_95_code
def yX11_textOf : MethodName := ⟨RX11, "textOf", "(III)I"⟩
abbrev cX11_noteOf : ByteArray := prog_13_method_96_code
def yX11_noteOf : MethodName := ⟨RX11, "noteOf", "(III)I"⟩
abbrev cX11_headOf : ByteArray := prog_13_method_97_code
def yX11_headOf : MethodName := ⟨RX11, "headOf", "(IZ)I"⟩
abbrev cX11_placeOf : ByteArray := prog_13_method_98_code
def yX11_placeOf : MethodName := ⟨RX11, "placeOf", "(II)I"⟩
abbrev cX11_puts : ByteArray := prog_13_method_99_code
def yX11_puts : MethodName := ⟨RX11, "puts", "(III)V"⟩
abbrev cX11_putsAll : ByteArray := prog_13_method_100_code
def yX11_putsAll : MethodName := ⟨RX11, "putsAll", "(I)V"⟩
abbrev cX11_marginOf : ByteArray := prog_13_method_101_code
def yX11_marginOf : MethodName := ⟨RX11, "marginOf", "(III)I"⟩
abbrev cX11_laysTerm : ByteArray := prog_13_method_102_code
def yX11_laysTerm : MethodName := ⟨RX11, "laysTerm", "(I)V"⟩
abbrev cX11_manyRanges : ByteArray := prog_13_method_103_code
def yX11_manyRanges : MethodName := ⟨RX11, "manyRanges", "(I)I"⟩
abbrev cX11_manyIndexLines : ByteArray := prog_13_method_104_code
def yX11_manyIndexLines : MethodName := ⟨RX11, "manyIndexLines", "()I"⟩
abbrev cX11_ranges : ByteArray := prog_13_method_105_code
def yX11_ranges : MethodName := ⟨RX11, "ranges", "(I)I"⟩
abbrev cX11_range : ByteArray := prog_13_method_106_code
def yX11_range : MethodName := ⟨RX11, "range", "(IIZ)I"⟩
abbrev cX11_indexLines : ByteArray := prog_13_method_107_code
def yX11_indexLines : MethodName := ⟨RX11, "indexLines", "()I"⟩
abbrev cX11_indexLine : ByteArray := prog_13_method_108_code
def yX11_indexLine : MethodName := ⟨RX11, "indexLine", "(I)I"⟩
abbrev cX11_sheets : ByteArray := prog_13_method_109_code
def yX11_sheets : MethodName := ⟨RX11, "sheets", "()I"⟩
abbrev cX11_isWordSame : ByteArray := prog_13_method_110_code
def yX11_isWordSame : MethodName := ⟨RX11, "isWordSame", "(I)Z"⟩
abbrev cX11_areRowsSame : ByteArray := prog_13_method_111_code
def yX11_areRowsSame : MethodName := ⟨RX11, "areRowsSame", "(I)Z"⟩
abbrev cX11_areFloatsSame : ByteArray := prog_13_method_112_code
def yX11_areFloatsSame : MethodName := ⟨RX11, "areFloatsSame", "(I)Z"⟩
abbrev cX11_isPageSame : ByteArray := prog_13_method_113_code
def yX11_isPageSame : MethodName := ⟨RX11, "isPageSame", "(I)Z"⟩
abbrev cX11_untouched : ByteArray := prog_13_method_114_code
def yX11_untouched : MethodName := ⟨RX11, "untouched", "()I"⟩
def RJx145de : String := "java/io/Serializable"
def TJx145de : u_T := fun k => match k with
  | _ => ("", "", "", false)
def tyJx145de : Nat → FieldType := fun k => match k with
  | _ => .int
abbrev wsJx145de0 : List Cond := u_ws RJx145de TJx145de 0
theorem nmJx145de : ∀ a, a < 0 → ∀ b, b < 0 → a ≠ b → (TJx145de a).2.1 ≠ (TJx145de b).2.1 := by decide +kernel
theorem tyJx145de_ok : ∀ k, k < 0 → parseFieldDescriptor (TJx145de k).2.2.1 = some (tyJx145de k) := by decide +kernel
def RJ5 : String := "java/lang/AbstractStringBuilder"
def TJ5 : u_T := fun k => match k with
  | _ => ("", "", "", false)
def tyJ5 : Nat → FieldType := fun k => match k with
  | _ => .int
abbrev wsJ50 : List Cond := u_ws RJ5 TJ5 0
theorem nmJ5 : ∀ a, a < 0 → ∀ b, b < 0 → a ≠ b → (TJ5 a).2.1 ≠ (TJ5 b).2.1 := by decide +kernel
theorem tyJ5_ok : ∀ k, k < 0 → parseFieldDescriptor (TJ5 k).2.2.1 = some (tyJ5 k) := by decide +kernel
abbrev cJ5_init_d00df : ByteArray := prog_14_method_2_code
def yJ5_init_d00df : MethodName := ⟨RJ5, "<init>", "(I)V"⟩
abbrev cJ5_length_8abf5 : ByteArray := prog_14_method_6_code
def yJ5_length_8abf5 : MethodName := ⟨RJ5, "length", "()I"⟩
abbrev cJ5_ensureCapacityInternal_d00df : ByteArray := prog_14_method_9_code
def yJ5_ensureCapacityInternal_d00df : MethodName := ⟨RJ5, "ensureCapacityInternal", "(I)V"⟩
abbrev cJ5_newCapacity_0f7a4 : ByteArray := prog_14_method_10_code
def yJ5_newCapacity_0f7a4 : MethodName := ⟨RJ5, "newCapacity", "(I)I"⟩
abbrev cJ5_inflate_da8c8 : ByteArray := prog_14_method_11_code
def yJ5_inflate_da8c8 : MethodName := ⟨RJ5, "inflate", "()V"⟩
abbrev cJ5_append_cf1ce : ByteArray := prog_14_method_22_code
def yJ5_append_cf1ce : MethodName := ⟨RJ5, "append", "(Ljava/lang/String;)Ljava/lang/AbstractStringBuilder;"⟩
abbrev cJ5_appendNull_278bc : ByteArray := prog_14_method_26_code
def yJ5_appendNull_278bc : MethodName := ⟨RJ5, "appendNull", "()Ljava/lang/AbstractStringBuilder;"⟩
abbrev cJ5_append_c97b9 : ByteArray := prog_14_method_32_code
def yJ5_append_c97b9 : MethodName := ⟨RJ5, "append", "(I)Ljava/lang/AbstractStringBuilder;"⟩
abbrev cJ5_getValue_6d5f1 : ByteArray := prog_14_method_64_code
def yJ5_getValue_6d5f1 : MethodName := ⟨RJ5, "getValue", "()[B"⟩
abbrev cJ5_isLatin1_aae02 : ByteArray := prog_14_method_68_code
def yJ5_isLatin1_aae02 : MethodName := ⟨RJ5, "isLatin1", "()Z"⟩
abbrev cJ5_inflateIfNeededFor_a7421 : ByteArray := prog_14_method_71_code
def yJ5_inflateIfNeededFor_a7421 : MethodName := ⟨RJ5, "inflateIfNeededFor", "(Ljava/lang/String;)V"⟩
abbrev cJ5_putStringAt_47b60 : ByteArray := prog_14_method_73_code
def yJ5_putStringAt_47b60 : MethodName := ⟨RJ5, "putStringAt", "(ILjava/lang/String;)V"⟩
def RJx2cfe8 : String := "java/lang/Appendable"
def TJx2cfe8 : u_T := fun k => match k with
  | _ => ("", "", "", false)
def tyJx2cfe8 : Nat → FieldType := fun k => match k with
  | _ => .int
abbrev wsJx2cfe80 : List Cond := u_ws RJx2cfe8 TJx2cfe8 0
theorem nmJx2cfe8 : ∀ a, a < 0 → ∀ b, b < 0 → a ≠ b → (TJx2cfe8 a).2.1 ≠ (TJx2cfe8 b).2.1 := by decide +kernel
theorem tyJx2cfe8_ok : ∀ k, k < 0 → parseFieldDescriptor (TJx2cfe8 k).2.2.1 = some (tyJx2cfe8 k) := by decide +kernel
def RJx00060 : String := "java/lang/ArrayIndexOutOfBoundsException"
def TJx00060 : u_T := fun k => match k with
  | 0 => ("java/lang/Throwable", "cause", "Ljava/lang/Throwable;", false)
  | 1 => ("java/lang/Throwable", "stackTrace", "[Ljava/lang/StackTraceElement;", false)
  | 2 => ("java/lang/Throwable", "suppressedExceptions", "Ljava/util/List;", false)
  | 3 => ("java/lang/Throwable", "detailMessage", "Ljava/lang/String;", false)
  | 4 => ("java/lang/Throwable", "backtrace", "Ljava/lang/Object;", false)
  | _ => ("java/lang/Throwable", "depth", "I", false)
def tyJx00060 : Nat → FieldType := fun k => match k with
  | 0 => .object "java/lang/Throwable"
  | 1 => .array (.object "java/lang/StackTraceElement")
  | 2 => .object "java/util/List"
  | 3 => .object "java/lang/String"
  | 4 => .object "java/lang/Object"
  | _ => .int
abbrev wsJx000600 : List Cond := u_ws RJx00060 TJx00060 6
theorem nmJx00060 : ∀ a, a < 6 → ∀ b, b < 6 → a ≠ b → (TJx00060 a).2.1 ≠ (TJx00060 b).2.1 := by decide +kernel
theorem tyJx00060_ok : ∀ k, k < 6 → parseFieldDescriptor (TJx00060 k).2.2.1 = some (tyJx00060 k) := by decide +kernel
abbrev cJx00060_init_d00df : ByteArray := prog_15_method_3_code
def yJx00060_init_d00df : MethodName := ⟨RJx00060, "<init>", "(I)V"⟩
def RJx9f9b0 : String := "java/lang/CharSequence"
def TJx9f9b0 : u_T := fun k => match k with
  | _ => ("", "", "", false)
def tyJx9f9b0 : Nat → FieldType := fun k => match k with
  | _ => .int
abbrev wsJx9f9b00 : List Cond := u_ws RJx9f9b0 TJx9f9b0 0
theorem nmJx9f9b0 : ∀ a, a < 0 → ∀ b, b < 0 → a ≠ b → (TJx9f9b0 a).2.1 ≠ (TJx9f9b0 b).2.1 := by decide +kernel
theorem tyJx9f9b0_ok : ∀ k, k < 0 → parseFieldDescriptor (TJx9f9b0 k).2.2.1 = some (tyJx9f9b0 k) := by decide +kernel
def RJx8e188 : String := "java/lang/Cloneable"
def TJx8e188 : u_T := fun k => match k with
  | _ => ("", "", "", false)
def tyJx8e188 : Nat → FieldType := fun k => match k with
  | _ => .int
abbrev wsJx8e1880 : List Cond := u_ws RJx8e188 TJx8e188 0
theorem nmJx8e188 : ∀ a, a < 0 → ∀ b, b < 0 → a ≠ b → (TJx8e188 a).2.1 ≠ (TJx8e188 b).2.1 := by decide +kernel
theorem tyJx8e188_ok : ∀ k, k < 0 → parseFieldDescriptor (TJx8e188 k).2.2.1 = some (tyJx8e188 k) := by decide +kernel
def RJxb160c : String := "java/lang/Comparable"
def TJxb160c : u_T := fun k => match k with
  | _ => ("", "", "", false)
def tyJxb160c : Nat → FieldType := fun k => match k with
  | _ => .int
abbrev wsJxb160c0 : List Cond := u_ws RJxb160c TJxb160c 0
theorem nmJxb160c : ∀ a, a < 0 → ∀ b, b < 0 → a ≠ b → (TJxb160c a).2.1 ≠ (TJxb160c b).2.1 := by decide +kernel
theorem tyJxb160c_ok : ∀ k, k < 0 → parseFieldDescriptor (TJxb160c k).2.2.1 = some (tyJxb160c k) := by decide +kernel
def RJ6 : String := "java/lang/Integer"
def TJ6 : u_T := fun k => match k with
  | _ => ("", "", "", false)
def tyJ6 : Nat → FieldType := fun k => match k with
  | _ => .int
abbrev wsJ60 : List Cond := u_ws RJ6 TJ6 0
theorem nmJ6 : ∀ a, a < 0 → ∀ b, b < 0 → a ≠ b → (TJ6 a).2.1 ≠ (TJ6 b).2.1 := by decide +kernel
theorem tyJ6_ok : ∀ k, k < 0 → parseFieldDescriptor (TJ6 k).2.2.1 = some (tyJ6 k) := by decide +kernel
abbrev cJ6_getChars_ba4f3 : ByteArray := prog_21_method_12_code
def yJ6_getChars_ba4f3 : MethodName := ⟨RJ6, "getChars", "(II[B)I"⟩
abbrev cJ6_stringSize_0f7a4 : ByteArray := prog_21_method_13_code
def yJ6_stringSize_0f7a4 : MethodName := ⟨RJ6, "stringSize", "(I)I"⟩
def RJ9 : String := "java/lang/Math"
def TJ9 : u_T := fun k => match k with
  | _ => ("", "", "", false)
def tyJ9 : Nat → FieldType := fun k => match k with
  | _ => .int
abbrev wsJ90 : List Cond := u_ws RJ9 TJ9 0
theorem nmJ9 : ∀ a, a < 0 → ∀ b, b < 0 → a ≠ b → (TJ9 a).2.1 ≠ (TJ9 b).2.1 := by decide +kernel
theorem tyJ9_ok : ∀ k, k < 0 → parseFieldDescriptor (TJ9 k).2.2.1 = some (tyJ9 k) := by decide +kernel
abbrev cJ9_max_7cf53 : ByteArray := prog_22_method_65_code
def yJ9_max_7cf53 : MethodName := ⟨RJ9, "max", "(II)I"⟩
abbrev cJ9_min_7cf53 : ByteArray := prog_22_method_69_code
def yJ9_min_7cf53 : MethodName := ⟨RJ9, "min", "(II)I"⟩
def RJxd2413 : String := "java/lang/Number"
def TJxd2413 : u_T := fun k => match k with
  | _ => ("", "", "", false)
def tyJxd2413 : Nat → FieldType := fun k => match k with
  | _ => .int
abbrev wsJxd24130 : List Cond := u_ws RJxd2413 TJxd2413 0
theorem nmJxd2413 : ∀ a, a < 0 → ∀ b, b < 0 → a ≠ b → (TJxd2413 a).2.1 ≠ (TJxd2413 b).2.1 := by decide +kernel
theorem tyJxd2413_ok : ∀ k, k < 0 → parseFieldDescriptor (TJxd2413 k).2.2.1 = some (tyJxd2413 k) := by decide +kernel
def RJ0 : String := "java/lang/String"
def TJ0 : u_T := fun k => match k with
  | 0 => ("java/lang/String", "value", "[B", true)
  | 1 => ("java/lang/String", "coder", "B", true)
  | 2 => ("java/lang/String", "hash", "I", false)
  | _ => ("java/lang/String", "hashIsZero", "Z", false)
def tyJ0 : Nat → FieldType := fun k => match k with
  | 0 => .array .byte
  | 1 => .byte
  | 2 => .int
  | _ => .boolean
abbrev wsJ00 : List Cond := u_ws RJ0 TJ0 4
theorem nmJ0 : ∀ a, a < 4 → ∀ b, b < 4 → a ≠ b → (TJ0 a).2.1 ≠ (TJ0 b).2.1 := by decide +kernel
theorem tyJ0_ok : ∀ k, k < 4 → parseFieldDescriptor (TJ0 k).2.2.1 = some (tyJ0 k) := by decide +kernel
abbrev cJ0_init_81219 : ByteArray := prog_25_method_53_code
def yJ0_init_81219 : MethodName := ⟨RJ0, "<init>", "(Ljava/lang/StringBuilder;)V"⟩
abbrev cJ0_length_8abf5 : ByteArray := prog_25_method_54_code
def yJ0_length_8abf5 : MethodName := ⟨RJ0, "length", "()I"⟩
abbrev cJ0_getBytes_840e7 : ByteArray := prog_25_method_147_code
def yJ0_getBytes_840e7 : MethodName := ⟨RJ0, "getBytes", "([BIB)V"⟩
abbrev cJ0_init_db425 : ByteArray := prog_25_method_150_code
def yJ0_init_db425 : MethodName := ⟨RJ0, "<init>", "(Ljava/lang/AbstractStringBuilder;Ljava/lang/Void;)V"⟩
abbrev cJ0_coder_7d493 : ByteArray := prog_25_method_152_code
def yJ0_coder_7d493 : MethodName := ⟨RJ0, "coder", "()B"⟩
abbrev cJ0_checkBoundsOffCount_cabcc : ByteArray := prog_25_method_157_code
def yJ0_checkBoundsOffCount_cabcc : MethodName := ⟨RJ0, "checkBoundsOffCount", "(III)I"⟩
abbrev cJ0_checkBoundsBeginEnd_23922 : ByteArray := prog_25_method_158_code
def yJ0_checkBoundsBeginEnd_23922 : MethodName := ⟨RJ0, "checkBoundsBeginEnd", "(III)V"⟩
def RJ4 : String := "java/lang/StringBuilder"
def TJ4 : u_T := fun k => match k with
  | 0 => ("java/lang/AbstractStringBuilder", "value", "[B", false)
  | 1 => ("java/lang/AbstractStringBuilder", "coder", "B", false)
  | 2 => ("java/lang/AbstractStringBuilder", "maybeLatin1", "Z", false)
  | _ => ("java/lang/AbstractStringBuilder", "count", "I", false)
def tyJ4 : Nat → FieldType := fun k => match k with
  | 0 => .array .byte
  | 1 => .byte
  | 2 => .boolean
  | _ => .int
abbrev wsJ40 : List Cond := u_ws RJ4 TJ4 4
theorem nmJ4 : ∀ a, a < 4 → ∀ b, b < 4 → a ≠ b → (TJ4 a).2.1 ≠ (TJ4 b).2.1 := by decide +kernel
theorem tyJ4_ok : ∀ k, k < 4 → parseFieldDescriptor (TJ4 k).2.2.1 = some (tyJ4 k) := by decide +kernel
abbrev cJ4_init_da8c8 : ByteArray := prog_26_method_1_code
def yJ4_init_da8c8 : MethodName := ⟨RJ4, "<init>", "()V"⟩
abbrev cJ4_append_15ec4 : ByteArray := prog_26_method_7_code
def yJ4_append_15ec4 : MethodName := ⟨RJ4, "append", "(Ljava/lang/String;)Ljava/lang/StringBuilder;"⟩
abbrev cJ4_append_bf812 : ByteArray := prog_26_method_15_code
def yJ4_append_bf812 : MethodName := ⟨RJ4, "append", "(I)Ljava/lang/StringBuilder;"⟩
abbrev cJ4_toString_0e30d : ByteArray := prog_26_method_42_code
def yJ4_toString_0e30d : MethodName := ⟨RJ4, "toString", "()Ljava/lang/String;"⟩
abbrev cJ4_length_8abf5 : ByteArray := prog_26_method_93_code
def yJ4_length_8abf5 : MethodName := ⟨RJ4, "length", "()I"⟩
def RJ1 : String := "java/lang/StringLatin1"
def TJ1 : u_T := fun k => match k with
  | _ => ("", "", "", false)
def tyJ1 : Nat → FieldType := fun k => match k with
  | _ => .int
abbrev wsJ10 : List Cond := u_ws RJ1 TJ1 0
theorem nmJ1 : ∀ a, a < 0 → ∀ b, b < 0 → a ≠ b → (TJ1 a).2.1 ≠ (TJ1 b).2.1 := by decide +kernel
theorem tyJ1_ok : ∀ k, k < 0 → parseFieldDescriptor (TJ1 k).2.2.1 = some (tyJ1 k) := by decide +kernel
abbrev cJ1_inflate_0e8fd : ByteArray := prog_27_method_50_code
def yJ1_inflate_0e8fd : MethodName := ⟨RJ1, "inflate", "([BI[BII)V"⟩
def RJ2 : String := "java/lang/StringUTF16"
def TJ2 : u_T := fun k => match k with
  | _ => ("", "", "", false)
def tyJ2 : Nat → FieldType := fun k => match k with
  | _ => .int
abbrev wsJ20 : List Cond := u_ws RJ2 TJ2 0
theorem nmJ2 : ∀ a, a < 0 → ∀ b, b < 0 → a ≠ b → (TJ2 a).2.1 ≠ (TJ2 b).2.1 := by decide +kernel
theorem tyJ2_ok : ∀ k, k < 0 → parseFieldDescriptor (TJ2 k).2.2.1 = some (tyJ2 k) := by decide +kernel
abbrev cJ2_newBytesFor_77867 : ByteArray := prog_28_method_2_code
def yJ2_newBytesFor_77867 : MethodName := ⟨RJ2, "newBytesFor", "(I)[B"⟩
abbrev cJ2_newBytesLength_0f7a4 : ByteArray := prog_28_method_3_code
def yJ2_newBytesLength_0f7a4 : MethodName := ⟨RJ2, "newBytesLength", "(I)I"⟩
abbrev cJ2_putChar_b72d1 : ByteArray := prog_28_method_4_code
def yJ2_putChar_b72d1 : MethodName := ⟨RJ2, "putChar", "([BII)V"⟩
abbrev cJ2_getChar_3b067 : ByteArray := prog_28_method_5_code
def yJ2_getChar_3b067 : MethodName := ⟨RJ2, "getChar", "([BI)C"⟩
abbrev cJ2_length_9d52b : ByteArray := prog_28_method_6_code
def yJ2_length_9d52b : MethodName := ⟨RJ2, "length", "([B)I"⟩
abbrev cJ2_coderFromArrayLen_85cad : ByteArray := prog_28_method_15_code
def yJ2_coderFromArrayLen_85cad : MethodName := ⟨RJ2, "coderFromArrayLen", "([BI)B"⟩
abbrev cJ2_compress_39247 : ByteArray := prog_28_method_17_code
def yJ2_compress_39247 : MethodName := ⟨RJ2, "compress", "([BII)[B"⟩
abbrev cJ2_compress_5af95 : ByteArray := prog_28_method_22_code
def yJ2_compress_5af95 : MethodName := ⟨RJ2, "compress", "([BI[BII)I"⟩
abbrev cJ2_getChars_46870 : ByteArray := prog_28_method_77_code
def yJ2_getChars_46870 : MethodName := ⟨RJ2, "getChars", "(III[B)I"⟩
abbrev cJ2_putCharsAt_cd4e5 : ByteArray := prog_28_method_81_code
def yJ2_putCharsAt_cd4e5 : MethodName := ⟨RJ2, "putCharsAt", "([BICCCC)I"⟩
abbrev cJ2_inflate_0e8fd : ByteArray := prog_28_method_86_code
def yJ2_inflate_0e8fd : MethodName := ⟨RJ2, "inflate", "([BI[BII)V"⟩
abbrev cJ2_getChars_ba4f3 : ByteArray := prog_28_method_89_code
def yJ2_getChars_ba4f3 : MethodName := ⟨RJ2, "getChars", "(II[B)I"⟩
abbrev cJ2_checkBoundsBeginEnd_d044e : ByteArray := prog_28_method_93_code
def yJ2_checkBoundsBeginEnd_d044e : MethodName := ⟨RJ2, "checkBoundsBeginEnd", "(II[B)V"⟩
abbrev cJ2_checkBoundsOffCount_d044e : ByteArray := prog_28_method_94_code
def yJ2_checkBoundsOffCount_d044e : MethodName := ⟨RJ2, "checkBoundsOffCount", "(II[B)V"⟩
def RJ10 : String := "java/lang/System"
def TJ10 : u_T := fun k => match k with
  | _ => ("", "", "", false)
def tyJ10 : Nat → FieldType := fun k => match k with
  | _ => .int
abbrev wsJ100 : List Cond := u_ws RJ10 TJ10 0
theorem nmJ10 : ∀ a, a < 0 → ∀ b, b < 0 → a ≠ b → (TJ10 a).2.1 ≠ (TJ10 b).2.1 := by decide +kernel
theorem tyJ10_ok : ∀ k, k < 0 → parseFieldDescriptor (TJ10 k).2.2.1 = some (tyJ10 k) := by decide +kernel
def RJxfd54e : String := "java/lang/constant/Constable"
def TJxfd54e : u_T := fun k => match k with
  | _ => ("", "", "", false)
def tyJxfd54e : Nat → FieldType := fun k => match k with
  | _ => .int
abbrev wsJxfd54e0 : List Cond := u_ws RJxfd54e TJxfd54e 0
theorem nmJxfd54e : ∀ a, a < 0 → ∀ b, b < 0 → a ≠ b → (TJxfd54e a).2.1 ≠ (TJxfd54e b).2.1 := by decide +kernel
theorem tyJxfd54e_ok : ∀ k, k < 0 → parseFieldDescriptor (TJxfd54e k).2.2.1 = some (tyJxfd54e k) := by decide +kernel
def RJx3cf43 : String := "java/lang/constant/ConstantDesc"
def TJx3cf43 : u_T := fun k => match k with
  | _ => ("", "", "", false)
def tyJx3cf43 : Nat → FieldType := fun k => match k with
  | _ => .int
abbrev wsJx3cf430 : List Cond := u_ws RJx3cf43 TJx3cf43 0
theorem nmJx3cf43 : ∀ a, a < 0 → ∀ b, b < 0 → a ≠ b → (TJx3cf43 a).2.1 ≠ (TJx3cf43 b).2.1 := by decide +kernel
theorem tyJx3cf43_ok : ∀ k, k < 0 → parseFieldDescriptor (TJx3cf43 k).2.2.1 = some (tyJx3cf43 k) := by decide +kernel
def RJ7 : String := "java/util/Arrays"
def TJ7 : u_T := fun k => match k with
  | _ => ("", "", "", false)
def tyJ7 : Nat → FieldType := fun k => match k with
  | _ => .int
abbrev wsJ70 : List Cond := u_ws RJ7 TJ7 0
theorem nmJ7 : ∀ a, a < 0 → ∀ b, b < 0 → a ≠ b → (TJ7 a).2.1 ≠ (TJ7 b).2.1 := by decide +kernel
theorem tyJ7_ok : ∀ k, k < 0 → parseFieldDescriptor (TJ7 k).2.2.1 = some (tyJ7 k) := by decide +kernel
abbrev cJ7_rangeCheck_23922 : ByteArray := prog_31_method_30_code
def yJ7_rangeCheck_23922 : MethodName := ⟨RJ7, "rangeCheck", "(III)V"⟩
abbrev cJ7_fill_53178 : ByteArray := prog_31_method_103_code
def yJ7_fill_53178 : MethodName := ⟨RJ7, "fill", "([II)V"⟩
abbrev cJ7_fill_fda19 : ByteArray := prog_31_method_104_code
def yJ7_fill_fda19 : MethodName := ⟨RJ7, "fill", "([IIII)V"⟩
abbrev cJ7_copyOf_9075b : ByteArray := prog_31_method_121_code
def yJ7_copyOf_9075b : MethodName := ⟨RJ7, "copyOf", "([BI)[B"⟩
abbrev cJ7_checkLength_df160 : ByteArray := prog_31_method_131_code
def yJ7_checkLength_df160 : MethodName := ⟨RJ7, "checkLength", "(II)V"⟩
abbrev cJ7_copyOfRange_39247 : ByteArray := prog_31_method_132_code
def yJ7_copyOfRange_39247 : MethodName := ⟨RJ7, "copyOfRange", "([BII)[B"⟩
abbrev cJ7_copyOfRangeByte_39247 : ByteArray := prog_31_method_133_code
def yJ7_copyOfRangeByte_39247 : MethodName := ⟨RJ7, "copyOfRangeByte", "([BII)[B"⟩
def RJ8 : String := "jdk/internal/util/ArraysSupport"
def TJ8 : u_T := fun k => match k with
  | _ => ("", "", "", false)
def tyJ8 : Nat → FieldType := fun k => match k with
  | _ => .int
abbrev wsJ80 : List Cond := u_ws RJ8 TJ8 0
theorem nmJ8 : ∀ a, a < 0 → ∀ b, b < 0 → a ≠ b → (TJ8 a).2.1 ≠ (TJ8 b).2.1 := by decide +kernel
theorem tyJ8_ok : ∀ k, k < 0 → parseFieldDescriptor (TJ8 k).2.2.1 = some (tyJ8 k) := by decide +kernel
abbrev cJ8_newLength_cabcc : ByteArray := prog_32_method_27_code
def yJ8_newLength_cabcc : MethodName := ⟨RJ8, "newLength", "(III)I"⟩
abbrev cJ8_hugeLength_7cf53 : ByteArray := prog_32_method_28_code
def yJ8_hugeLength_7cf53 : MethodName := ⟨RJ8, "hugeLength", "(II)I"⟩
def RJ3 : String := "jdk/internal/util/Preconditions"
def TJ3 : u_T := fun k => match k with
  | _ => ("", "", "", false)
def tyJ3 : Nat → FieldType := fun k => match k with
  | _ => .int
abbrev wsJ30 : List Cond := u_ws RJ3 TJ3 0
theorem nmJ3 : ∀ a, a < 0 → ∀ b, b < 0 → a ≠ b → (TJ3 a).2.1 ≠ (TJ3 b).2.1 := by decide +kernel
theorem tyJ3_ok : ∀ k, k < 0 → parseFieldDescriptor (TJ3 k).2.2.1 = some (tyJ3 k) := by decide +kernel
abbrev cJ3_checkFromToIndex_8c36e : ByteArray := prog_33_method_12_code
def yJ3_checkFromToIndex_8c36e : MethodName := ⟨RJ3, "checkFromToIndex", "(IIILjava/util/function/BiFunction;)I"⟩
abbrev cJ3_checkFromIndexSize_8c36e : ByteArray := prog_33_method_13_code
def yJ3_checkFromIndexSize_8c36e : MethodName := ⟨RJ3, "checkFromIndexSize", "(IIILjava/util/function/BiFunction;)I"⟩
def RL : String := "FacingleafLaw"
abbrev cL_setMeasures : ByteArray := method_3_code
def yL_setMeasures : MethodName := ⟨RL, "setMeasures", "(LFacingleaf;II[J)I"⟩
abbrev cL_word : ByteArray := method_4_code
def yL_word : MethodName := ⟨RL, "word", "(LFacingleaf;III[J)I"⟩
abbrev cL_refer : ByteArray := method_5_code
def yL_refer : MethodName := ⟨RL, "refer", "(LFacingleaf;I[J)I"⟩
abbrev cL_paragraph : ByteArray := method_6_code
def yL_paragraph : MethodName := ⟨RL, "paragraph", "(LFacingleaf;I[J)I"⟩
abbrev cL_head : ByteArray := method_7_code
def yL_head : MethodName := ⟨RL, "head", "(LFacingleaf;III[J)I"⟩
abbrev cL_replace : ByteArray := method_8_code
def yL_replace : MethodName := ⟨RL, "replace", "(LFacingleaf;II[J)I"⟩
abbrev cL_seeAlso : ByteArray := method_9_code
def yL_seeAlso : MethodName := ⟨RL, "seeAlso", "(LFacingleaf;II[J)I"⟩
abbrev cL_compose : ByteArray := method_10_code
def yL_compose : MethodName := ⟨RL, "compose", "(LFacingleaf;Z[J)I"⟩
abbrev cL_print : ByteArray := method_11_code
def yL_print : MethodName := ⟨RL, "print", "(LFacingleaf;[J)I"⟩
abbrev cL_items : ByteArray := method_12_code
def yL_items : MethodName := ⟨RL, "items", "(LFacingleaf;I[J)I"⟩
abbrev cL_words : ByteArray := method_13_code
def yL_words : MethodName := ⟨RL, "words", "(LFacingleaf;II[J)I"⟩
abbrev cL_widthOf : ByteArray := method_14_code
def yL_widthOf : MethodName := ⟨RL, "widthOf", "(LFacingleaf;III[J)I"⟩
abbrev cL_lines : ByteArray := method_15_code
def yL_lines : MethodName := ⟨RL, "lines", "(LFacingleaf;II[J)I"⟩
abbrev cL_wordsTo : ByteArray := method_16_code
def yL_wordsTo : MethodName := ⟨RL, "wordsTo", "(LFacingleaf;III[J)I"⟩
abbrev cL_costOfLines : ByteArray := method_17_code
def yL_costOfLines : MethodName := ⟨RL, "costOfLines", "(LFacingleaf;II[J)I"⟩
abbrev cL_rows : ByteArray := method_18_code
def yL_rows : MethodName := ⟨RL, "rows", "(LFacingleaf;I[J)I"⟩
abbrev cL_broken : ByteArray := method_19_code
def yL_broken : MethodName := ⟨RL, "broken", "(LFacingleaf;[J)I"⟩
abbrev cL_pages : ByteArray := method_20_code
def yL_pages : MethodName := ⟨RL, "pages", "(LFacingleaf;[J)I"⟩
abbrev cL_kindOf : ByteArray := method_21_code
def yL_kindOf : MethodName := ⟨RL, "kindOf", "(LFacingleaf;I[J)I"⟩
abbrev cL_pageOf : ByteArray := method_22_code
def yL_pageOf : MethodName := ⟨RL, "pageOf", "(LFacingleaf;IZ[J)I"⟩
abbrev cL_pageOfRow : ByteArray := method_23_code
def yL_pageOfRow : MethodName := ⟨RL, "pageOfRow", "(LFacingleaf;II[J)I"⟩
abbrev cL_onPage : ByteArray := method_24_code
def yL_onPage : MethodName := ⟨RL, "onPage", "(LFacingleaf;II[J)I"⟩
abbrev cL_cost : ByteArray := method_25_code
def yL_cost : MethodName := ⟨RL, "cost", "(LFacingleaf;I[J)I"⟩
abbrev cL_costByAll : ByteArray := method_26_code
def yL_costByAll : MethodName := ⟨RL, "costByAll", "(LFacingleaf;I[J)I"⟩
abbrev cL_isSettled : ByteArray := method_27_code
def yL_isSettled : MethodName := ⟨RL, "isSettled", "(LFacingleaf;[J)I"⟩
abbrev cL_textOf : ByteArray := method_28_code
def yL_textOf : MethodName := ⟨RL, "textOf", "(LFacingleaf;III[J)I"⟩
abbrev cL_noteOf : ByteArray := method_29_code
def yL_noteOf : MethodName := ⟨RL, "noteOf", "(LFacingleaf;III[J)I"⟩
abbrev cL_headOf : ByteArray := method_30_code
def yL_headOf : MethodName := ⟨RL, "headOf", "(LFacingleaf;IZ[J)I"⟩
abbrev cL_marginOf : ByteArray := method_31_code
def yL_marginOf : MethodName := ⟨RL, "marginOf", "(LFacingleaf;III[J)I"⟩
abbrev cL_ranges : ByteArray := method_32_code
def yL_ranges : MethodName := ⟨RL, "ranges", "(LFacingleaf;I[J)I"⟩
abbrev cL_range : ByteArray := method_33_code
def yL_range : MethodName := ⟨RL, "range", "(LFacingleaf;IIZ[J)I"⟩
abbrev cL_indexLines : ByteArray := method_34_code
def yL_indexLines : MethodName := ⟨RL, "indexLines", "(LFacingleaf;[J)I"⟩
abbrev cL_indexLine : ByteArray := method_35_code
def yL_indexLine : MethodName := ⟨RL, "indexLine", "(LFacingleaf;I[J)I"⟩
abbrev cL_sheets : ByteArray := method_36_code
def yL_sheets : MethodName := ⟨RL, "sheets", "(LFacingleaf;[J)I"⟩
abbrev cL_untouched : ByteArray := method_37_code
def yL_untouched : MethodName := ⟨RL, "untouched", "(LFacingleaf;[J)I"⟩
abbrev cL_law : ByteArray := code
def yL_law : MethodName := ⟨RL, "law", "([I)Z"⟩
end
section
/-! ===== a small machine: objects are pairs (kind, number), memory is kind, number, place -> Int ===== -/
/-- int | reference (null: none) | long | true: the script, false: not set -/
abbrev qV : Type := Int ⊕ (Option (Nat × Int)) ⊕ Int ⊕ Bool
/-- how many of a kind there are; which references that never change are set; cells and slots made; whether cells can be made -/
abbrev qH : Type := (Nat → Int) × (Nat → Int → Int → Bool) × Nat × Nat × Bool
abbrev qM : Type := Nat → Int → Int → Int
abbrev qS : Type := qH × qM
/-- returned, or thrown: which of the three exceptions -/
abbrev qR : Type := Option qV ⊕ Nat
/-- pc, instruction, its length, three numbers for it, the place of its word in the tables -/
abbrev qI : Type := Nat × Instr × Nat × Nat × Nat × Nat × Nat
/-- a handler: from, to, the exception, where it goes on behind its astore, that local -/
abbrev qHd : Type := Nat × Nat × Nat × Nat × Nat
/-- a method's code by 16 bytes, its handlers, what it returns (0 nothing, 1 int, 2 boolean, 3 a reference), its locals -/
abbrev qCd : Type := List (List qI) × List qHd × Nat × Nat
/-- a kind: 0 object of a class | 1 int[] 2 boolean[] 3 long[] with a length | 4 references, with a length, to a kind, number a + b * n + place -/
abbrev qKT : Type := Nat × Int × Nat × Int × Int
/-- a field: 0 int 1 boolean 2 reference that never changes (kind, number plus) 3 reference that may change (kind; kind of the negative ones) -/
abbrev qFT : Type := Nat × Nat × Int
abbrev qT : Type := List qKT × List (List qFT)
abbrev qO : Type := (Nat × List qV × List qV × qS) ⊕ (qR × qS)
abbrev q_u : qV := .inr (.inr (.inr false))
abbrev qIn (x : Int) : Prop := -2147483648 ≤ x ∧ x ≤ 2147483647
def qU (f : qM) (k : Nat) (n s x : Int) : qM := fun a b c => if a = k ∧ b = n ∧ c = s then x else f a b c
def qUB (f : Nat → Int → Int → Bool) (k : Nat) (n s : Int) : Nat → Int → Int → Bool := fun a b c => if a = k ∧ b = n ∧ c = s then true else f a b c
def qUN (f : Nat → Int) (k : Nat) (x : Int) : Nat → Int := fun a => if a = k then x else f a
def qKd (T : qT) (k : Nat) : qKT := T.1.getD k (9, 0, 0, 0, 0)
def qFd (T : qT) (c s : Nat) : qFT := (T.2.getD c []).getD s (9, 0, 0)
def qFind : List qI → Nat → Option (Instr × Nat × Nat × Nat × Nat)
  | [], _ => none
  | (p, i, n, a, b, c, _) :: l, pc => bif Nat.beq p pc then some (i, n, a, b, c) else qFind l pc
def qFetch (C : qCd) (pc : Nat) : Option (Instr × Nat × Nat × Nat × Nat) := qFind (C.1.getD (pc / 16) []) pc
def qHand : List qHd → Nat → Nat → Option (Nat × Nat)
  | [], _, _ => none
  | (f, t, e, g, j) :: l, pc, k => bif (Nat.ble f pc && Nat.blt pc t) && Nat.beq e k then some (g, j) else qHand l pc k
/-- a reference that may change, out of its number -/
def qDec (k k2 : Nat) (x : Int) : Option (Nat × Int) := if x = 0 then none else if 0 < x then some (k, x - 1) else some (k2, -x - 1)
def qAnd (x y : Int) : Int := (Int32.ofInt x &&& Int32.ofInt y).toInt
def qOr (x y : Int) : Int := (Int32.ofInt x ||| Int32.ofInt y).toInt
def qArgs (n : Nat) (as : List qV) : List qV := as ++ List.replicate (n - as.length) q_u
def qSw (pc : Nat) (dflt lo hi : Int) (offs : Array Int) (x : Int) : Nat := if x < lo ∨ hi < x then ((pc : Int) + dflt).toNat else ((pc : Int) + (offs[(x - lo).toNat]?).getD 0).toNat
/-- the getfield of place s of a c-object -/
def qGet (T : qT) (c s : Nat) (k : Nat) (n : Int) (σ : qS) : Option qV :=
  if (qKd T k).1 = 0 ∧ (qKd T k).2.1 = (c : Int) then
    (match qFd T c s with
      | (0, _, _) => some (.inl (σ.2 k n s))
      | (1, _, _) => some (.inl (σ.2 k n s))
      | (2, k', d) => if σ.1.2.1 k n s = true then some (.inr (.inl (some (k', n + d)))) else none
      | (3, k', d) => some (.inr (.inl (qDec k' d.toNat (σ.2 k n s))))
      | _ => none)
  else none
def qSetI (σ : qS) (k : Nat) (n s x : Int) : qS := (σ.1, qU σ.2 k n s x)
def qSetR (σ : qS) (k : Nat) (n s : Int) : qS := ((σ.1.1, qUB σ.1.2.1 k n s, σ.1.2.2), σ.2)
def qPut (T : qT) (c s : Nat) (k : Nat) (n : Int) (v : qV) (σ : qS) : Option qS :=
  if (qKd T k).1 = 0 ∧ (qKd T k).2.1 = (c : Int) then
    (match qFd T c s, v with
      | (0, _, _), .inl x => some (qSetI σ k n s x)
      | (1, _, _), .inl x => if x = 0 ∨ x = 1 then some (qSetI σ k n s x) else none
      | (2, k', d), .inr (.inl (some (k2, n2))) => if k2 = k' ∧ n2 = n + d then some (qSetR σ k n s) else none
      | (3, _, _), .inr (.inl none) => some (qSetI σ k n s 0)
      | (3, k', d), .inr (.inl (some (k2, n2))) => if k2 = k' then some (qSetI σ k n s (n2 + 1)) else if k2 = d.toNat then some (qSetI σ k n s (-(n2 + 1))) else none
      | _, _ => none)
  else none
/-- a new cell of kind k, with nothing in it; w: how many slots -/
def qNew (σ : qS) (k : Nat) (w : Nat) : qS :=
  ((qUN σ.1.1 k (σ.1.1 k + 1), (fun a b c => if a = k ∧ b = σ.1.1 k then false else σ.1.2.1 a b c), σ.1.2.2.1 + 1, σ.1.2.2.2.1 + w, σ.1.2.2.2.2), fun a b c => if a = k ∧ b = σ.1.1 k then 0 else σ.2 a b c)
/-- n more cells of kind k, of w slots each -/
def qNews (σ : qS) (k w : Nat) : Nat → qS
  | 0 => σ
  | n + 1 => qNew (qNews σ k w n) k w
def qSetRs (σ : qS) (k : Nat) (n : Int) : Nat → qS
  | 0 => σ
  | j + 1 => qSetR (qSetRs σ k n j) k n j
def qBump (σ : qS) (a b : Nat) : qS := ((σ.1.1, σ.1.2.1, σ.1.2.2.1 + a, σ.1.2.2.2.1 + b, false), σ.2)
def qLen (T : qT) (c : Nat) : Nat := (T.2.getD c []).length
def qNx (pc : Nat) (ls st : List qV) (σ : qS) : Option qO := some (.inl (pc, ls, st, σ))
def qChk (c : Prop) [Decidable c] (x : Option qO) : Option qO := if c then x else none
def qBr (c : Prop) [Decidable c] (t pc : Nat) (ls st : List qV) (σ : qS) : Option qO := if c then qNx t ls st σ else qNx pc ls st σ
def qLdI (ls : List qV) (j pc : Nat) (st : List qV) (σ : qS) : Option qO := match ls[j]? with
  | some (.inl x) => qNx pc ls (.inl x :: st) σ
  | _ => none
def qLdA (ls : List qV) (j pc : Nat) (st : List qV) (σ : qS) : Option qO := match ls[j]? with
  | some (.inr (.inl r)) => qNx pc ls (.inr (.inl r) :: st) σ
  | some (.inr (.inr (.inr true))) => qNx pc ls (.inr (.inr (.inr true)) :: st) σ
  | _ => none
def qSto (ls : List qV) (j pc : Nat) (v : qV) (st : List qV) (σ : qS) : Option qO := qChk (j < ls.length) (qNx pc (ls.set j v) st σ)
def qIf (cd : Jvm.ClassFile.Cond) (x y : Int) (t f : Nat) (ls st : List qV) (σ : qS) : Option qO := match cd with
  | .eq => qBr (x = y) t f ls st σ
  | .ne => qBr (x = y) f t ls st σ
  | .lt => qBr (x < y) t f ls st σ
  | .ge => qBr (x < y) f t ls st σ
  | .gt => qBr (x ≤ y) f t ls st σ
  | .le => qBr (x ≤ y) t f ls st σ
def qCat : List qV → Nat
  | [] => 0
  | .inr (.inr (.inl _)) :: l => qCat l + 2
  | _ :: l => qCat l + 1
abbrev qCl : Type := Nat → List qV → qS → Option (qR × qS)
/-- a call: kind c % 10 (0 virtual 1 of a nest mate 2 static 3 static of a nest mate 4 constructor 5 of a nest mate), of an object of class c / 10 -/
def qIs (T : qT) (c : Nat) (as : List qV) : Prop := c % 10 = 2 ∨ c % 10 = 3 ∨ ∃ (k : Nat) (n : Int) (r : List qV), as = .inr (.inl (some (k, n))) :: r ∧ (qKd T k).1 = 0 ∧ (qKd T k).2.1 = ((c / 10 : Nat) : Int)
def qIsB (T : qT) (c : Nat) (as : List qV) : Bool := Nat.beq (c % 10) 2 || Nat.beq (c % 10) 3 || (match as with
  | .inr (.inl (some (k, _))) :: _ => Nat.beq (qKd T k).1 0 && decide ((qKd T k).2.1 = ((c / 10 : Nat) : Int))
  | _ => false)
def qInv (T : qT) (call : qCl) (hs : List qHd) (pc n a b c : Nat) (ls st : List qV) (σ : qS) : Option qO :=
  bif Nat.ble b st.length && Nat.ble (qCat (st.drop b)) 8 && qIsB T c (st.take b).reverse then
    (match call a (st.take b).reverse σ with
      | none => none
      | some (.inl none, σ1) => qNx (pc + n) ls (st.drop b) σ1
      | some (.inl (some v), σ1) => qNx (pc + n) ls (v :: st.drop b) σ1
      | some (.inr k, σ1) => (match qHand hs pc k with
        | none => some (.inr (.inr k, σ1))
        | some (g, j) => qNx g (ls.set j q_u) [] σ1))
  else none
def qEx (T : qT) (call : qCl) (sc : Int × (Int → Int)) (hs : List qHd) (rt pc : Nat) (i : Instr) (n a b c : Nat) (ls st : List qV) (σ : qS) : Option qO := match i with
  | .iconst x => qNx (pc + n) ls (.inl x :: st) σ
  | .bipush x => qNx (pc + n) ls (.inl x :: st) σ
  | .sipush x => qNx (pc + n) ls (.inl x :: st) σ
  | .ldc _ => qNx (pc + n) ls (.inl (a : Int) :: st) σ
  | .ldc_w _ => qNx (pc + n) ls (.inl (a : Int) :: st) σ
  | .aconst_null => qNx (pc + n) ls (.inr (.inl none) :: st) σ
  | .iload_n k => qLdI ls k.val (pc + n) st σ
  | .iload j => qLdI ls j (pc + n) st σ
  | .aload_n k => qLdA ls k.val (pc + n) st σ
  | .aload j => qLdA ls j (pc + n) st σ
  | .istore_n k => (match st with
    | .inl x :: r => qSto ls k.val (pc + n) (.inl x) r σ
    | _ => none)
  | .istore j => (match st with
    | .inl x :: r => qSto ls j (pc + n) (.inl x) r σ
    | _ => none)
  | .astore_n k => (match st with
    | .inr (.inl x) :: r => qSto ls k.val (pc + n) (.inr (.inl x)) r σ
    | _ => none)
  | .astore j => (match st with
    | .inr (.inl x) :: r => qSto ls j (pc + n) (.inr (.inl x)) r σ
    | _ => none)
  | .iinc j x => (match ls[j]? with
    | some (.inl y) => qChk (qIn (y + x)) (qSto ls j (pc + n) (.inl (y + x)) st σ)
    | _ => none)
  | .dup => (match st with
    | .inl x :: r => qNx (pc + n) ls (.inl x :: .inl x :: r) σ
    | .inr (.inl x) :: r => qNx (pc + n) ls (.inr (.inl x) :: .inr (.inl x) :: r) σ
    | _ => none)
  | .dup2 => (match st with
    | .inl x :: .inr (.inl y) :: r => qNx (pc + n) ls (.inl x :: .inr (.inl y) :: .inl x :: .inr (.inl y) :: r) σ
    | _ => none)
  | .iadd => (match st with
    | .inl y :: .inl x :: r => qChk (qIn (x + y)) (qNx (pc + n) ls (.inl (x + y) :: r) σ)
    | _ => none)
  | .isub => (match st with
    | .inl y :: .inl x :: r => qChk (qIn (x - y)) (qNx (pc + n) ls (.inl (x - y) :: r) σ)
    | _ => none)
  | .imul => (match st with
    | .inl y :: .inl x :: r => qChk (qIn (x * y)) (qNx (pc + n) ls (.inl (x * y) :: r) σ)
    | _ => none)
  | .idiv => (match st with
    | .inl y :: .inl x :: r => qChk (0 ≤ x ∧ 0 < y) (qNx (pc + n) ls (.inl (x / y) :: r) σ)
    | _ => none)
  | .irem => (match st with
    | .inl y :: .inl x :: r => qChk (0 ≤ x ∧ 0 < y) (qNx (pc + n) ls (.inl (x % y) :: r) σ)
    | _ => none)
  | .ishl => (match st with
    | .inl y :: .inl x :: r => qChk (0 ≤ x ∧ 0 ≤ y ∧ y < 31 ∧ x * 2 ^ y.toNat ≤ 2147483647) (qNx (pc + n) ls (.inl (x * 2 ^ y.toNat) :: r) σ)
    | _ => none)
  | .ishr => (match st with
    | .inl y :: .inl x :: r => qChk (0 ≤ x ∧ 0 ≤ y ∧ y < 31) (qNx (pc + n) ls (.inl (x / 2 ^ y.toNat) :: r) σ)
    | _ => none)
  | .iand => (match st with
    | .inl y :: .inl x :: r => qNx (pc + n) ls (.inl (qAnd x y) :: r) σ
    | _ => none)
  | .ior => (match st with
    | .inl y :: .inl x :: r => qNx (pc + n) ls (.inl (qOr x y) :: r) σ
    | _ => none)
  | .i2l => (match st with
    | .inl x :: r => qNx (pc + n) ls (.inr (.inr (.inl x)) :: r) σ
    | _ => none)
  | .lconst k => qNx (pc + n) ls (.inr (.inr (.inl (k.val : Int))) :: st) σ
  | .lcmp => (match st with
    | .inr (.inr (.inl y)) :: .inr (.inr (.inl x)) :: r => qNx (pc + n) ls (.inl (if x < y then -1 else if x = y then 0 else 1) :: r) σ
    | _ => none)
  | .goto _ => qNx a ls st σ
  | .ifCond cd _ => (match st with
    | .inl x :: r => qIf cd x 0 a (pc + n) ls r σ
    | _ => none)
  | .if_icmp cd _ => (match st with
    | .inl y :: .inl x :: r => qIf cd x y a (pc + n) ls r σ
    | _ => none)
  | .if_acmp cd _ => (match st with
    | .inr (.inl y) :: .inr (.inl x) :: r => (match cd with
      | .eq => qBr (x = y) a (pc + n) ls r σ
      | .ne => qBr (x = y) (pc + n) a ls r σ)
    | _ => none)
  | .ifnull _ => (match st with
    | .inr (.inl x) :: r => qBr (x = none) a (pc + n) ls r σ
    | _ => none)
  | .ifnonnull _ => (match st with
    | .inr (.inl x) :: r => qBr (x = none) (pc + n) a ls r σ
    | _ => none)
  | .tableswitch d lo hi offs => (match st with
    | .inl x :: r => qNx (qSw pc d lo hi offs x) ls r σ
    | _ => none)
  | .getfield _ => (match st with
    | .inr (.inl (some (k, m))) :: r => (match qGet T a b k m σ with
      | some v => qNx (pc + n) ls (v :: r) σ
      | none => none)
    | _ => none)
  | .putfield _ => (match st with
    | v :: .inr (.inl (some (k, m))) :: r => (match qPut T a b k m v σ with
      | some σ1 => qNx (pc + n) ls r σ1
      | none => none)
    | _ => none)
  | .iaload => (match st with
    | .inl i :: .inr (.inl (some (k, m))) :: r => (match qKd T k with
      | (1, len, _, _, _) => qChk (0 ≤ i ∧ i < len) (qNx (pc + n) ls (.inl (σ.2 k m i) :: r) σ)
      | _ => none)
    | .inl i :: .inr (.inr (.inr true)) :: r => qChk (0 ≤ i ∧ i < sc.1) (qNx (pc + n) ls (.inl (sc.2 i) :: r) σ)
    | _ => none)
  | .baload => (match st with
    | .inl i :: .inr (.inl (some (k, m))) :: r => (match qKd T k with
      | (2, len, _, _, _) => qChk (0 ≤ i ∧ i < len) (qNx (pc + n) ls (.inl (σ.2 k m i) :: r) σ)
      | _ => none)
    | _ => none)
  | .laload => (match st with
    | .inl i :: .inr (.inl (some (k, m))) :: r => (match qKd T k with
      | (3, len, _, _, _) => qChk (0 ≤ i ∧ i < len) (qNx (pc + n) ls (.inr (.inr (.inl (σ.2 k m i))) :: r) σ)
      | _ => none)
    | _ => none)
  | .aaload => (match st with
    | .inl i :: .inr (.inl (some (k, m))) :: r => (match qKd T k with
      | (4, len, k2, p, q) => qChk (0 ≤ i ∧ i < len ∧ σ.1.2.1 k m i = true) (qNx (pc + n) ls (.inr (.inl (some (k2, p + q * m + i))) :: r) σ)
      | _ => none)
    | _ => none)
  | .iastore => (match st with
    | .inl x :: .inl i :: .inr (.inl (some (k, m))) :: r => (match qKd T k with
      | (1, len, _, _, _) => qChk (0 ≤ i ∧ i < len) (qNx (pc + n) ls r (qSetI σ k m i x))
      | _ => none)
    | _ => none)
  | .bastore => (match st with
    | .inl x :: .inl i :: .inr (.inl (some (k, m))) :: r => (match qKd T k with
      | (2, len, _, _, _) => qChk (0 ≤ i ∧ i < len ∧ (x = 0 ∨ x = 1)) (qNx (pc + n) ls r (qSetI σ k m i x))
      | _ => none)
    | _ => none)
  | .lastore => (match st with
    | .inr (.inr (.inl x)) :: .inl i :: .inr (.inl (some (k, m))) :: r => (match qKd T k with
      | (3, len, _, _, _) => qChk (0 ≤ i ∧ i < len) (qNx (pc + n) ls r (qSetI σ k m i x))
      | _ => none)
    | _ => none)
  | .aastore => (match st with
    | .inr (.inl (some (k3, m3))) :: .inl i :: .inr (.inl (some (k, m))) :: r => (match qKd T k with
      | (4, len, k2, p, q) => qChk (0 ≤ i ∧ i < len ∧ k3 = k2 ∧ m3 = p + q * m + i) (qNx (pc + n) ls r (qSetR σ k m i))
      | _ => none)
    | _ => none)
  | .arraylength => (match st with
    | .inr (.inl (some (k, _))) :: r => (match qKd T k with
      | (1, len, _, _, _) => qNx (pc + n) ls (.inl len :: r) σ
      | _ => none)
    | .inr (.inr (.inr true)) :: r => qNx (pc + n) ls (.inl sc.1 :: r) σ
    | _ => none)
  | .new _ => (match a with
    | 0 => (match qKd T b with
      | (0, ci, _, _, _) => qChk (σ.1.2.2.2.2 = true) (qNx (pc + n) ls (.inr (.inl (some (b, σ.1.1 b))) :: st) (qNew σ b (qLen T ci.toNat)))
      | _ => none)
    | _ => some (.inr (.inr b, qBump σ 1 6)))
  | .newarray _ => (match st with
    | .inl x :: r => qChk (σ.1.2.2.2.2 = true ∧ x = (qKd T b).2.1 ∧ ((qKd T b).1 = 1 ∨ (qKd T b).1 = 2 ∨ (qKd T b).1 = 3)) (qNx (pc + n) ls (.inr (.inl (some (b, σ.1.1 b))) :: r) (qNew σ b x.toNat))
    | _ => none)
  | .anewarray _ => (match st with
    | .inl x :: r => qChk (σ.1.2.2.2.2 = true ∧ x = (qKd T b).2.1 ∧ (qKd T b).1 = 4) (qNx (pc + n) ls (.inr (.inl (some (b, σ.1.1 b))) :: r) (qNew σ b x.toNat))
    | _ => none)
  | .multianewarray _ _ => (match st with
    | .inl y :: .inl x :: r => (match qKd T b with
      | (4, len, k2, p, q) => qChk (σ.1.2.2.2.2 = true ∧ x = len ∧ k2 = c ∧ (qKd T c).1 = 1 ∧ (qKd T c).2.1 = y ∧ p + q * σ.1.1 b = σ.1.1 c) (qNx (pc + n) ls (.inr (.inl (some (b, σ.1.1 b))) :: r) (qSetRs (qNews (qNew σ b x.toNat) c y.toNat x.toNat) b (σ.1.1 b) x.toNat))
      | _ => none)
    | _ => none)
  | .invokestatic _ => qInv T call hs pc n a b c ls st σ
  | .invokevirtual _ => qInv T call hs pc n a b c ls st σ
  | .invokespecial _ => bif Nat.beq c 6 then (match st with
      | .inr (.inl (some _)) :: r => qNx (pc + n) ls r σ
      | _ => none)
    else qInv T call hs pc n a b c ls st σ
  | .ireturn => (match st with
    | [.inl x] => bif Nat.beq rt 1 then some (.inr (.inl (some (.inl x)), σ)) else qChk (rt = 2 ∧ (x = 0 ∨ x = 1)) (some (.inr (.inl (some (.inl x)), σ)))
    | _ => none)
  | .areturn => (match st with
    | [.inr (.inl (some x))] => qChk (rt = 3) (some (.inr (.inl (some (.inr (.inl (some x)))), σ)))
    | _ => none)
  | .return_ => (match st with
    | [] => qChk (rt = 0) (some (.inr (.inl none, σ)))
    | _ => none)
  | _ => none
def qStep (T : qT) (call : qCl) (sc : Int × (Int → Int)) (C : qCd) (pc : Nat) (ls st : List qV) (σ : qS) : Option qO := match qFetch C pc with
  | none => none
  | some (i, n, a, b, c) => qEx T call sc C.2.1 C.2.2.1 pc i n a b c ls st σ
def qRun (T : qT) (call : qCl) (sc : Int × (Int → Int)) (C : qCd) : Nat → Nat → List qV → List qV → qS → Option (qR × qS)
  | 0, _, _, _, _ => none
  | N + 1, pc, ls, st, σ => match qStep T call sc C pc ls st σ with
    | none => none
    | some (.inr r) => some r
    | some (.inl (pc', ls', st', σ')) => qRun T call sc C N pc' ls' st' σ'
/-- calls, at most d deep; P: the program -/
def qCall (T : qT) (P : Nat → qCd) : Nat → Nat → qCl
  | 0, _, _, _, _ => none
  | d + 1, N, m, as, σ => qRun T (qCall T P d N) (0, fun _ => 0) (P m) N 0 (qArgs (P m).2.2.2 as) [] σ
end
section
/-! ===== the program: tables by wip/gen/gen.py ===== -/
def qT0 : qT := ([(0, 0, 0, 0, 0), (0, 1, 0, 0, 0), (0, 2, 0, 0, 0), (0, 3, 0, 0, 0), (0, 4, 0, 0, 0), (0, 5, 0, 0, 0), (0, 6, 0, 0, 0), (0, 7, 0, 0, 0), (0, 8, 0, 0, 0), (0, 9, 0, 0, 0), (0, 10, 0, 0, 0), (0, 11, 0, 0, 0), (1, 21, 0, 0, 0), (1, 21, 0, 0, 0), (1, 21, 0, 0, 0), (4, 10, 5, 1, 10), (1, 180, 0, 0, 0), (4, 13, 18, 0, 0), (1, 180, 0, 0, 0), (1, 10, 0, 0, 0), (4, 0, 1, 0, 0), (4, 3, 9, 1, 3), (4, 3, 8, 0, 3), (1, 30, 0, 0, 0), (1, 600, 0, 0, 0), (1, 600, 0, 0, 0), (1, 600, 0, 0, 0), (1, 10, 0, 0, 0), (4, 10, 29, 0, 0), (1, 180, 0, 0, 0), (4, 10, 31, 0, 0), (1, 180, 0, 0, 0), (1, 20, 0, 0, 0), (1, 20, 0, 0, 0), (1, 20, 0, 0, 0), (1, 20, 0, 0, 0), (1, 20, 0, 0, 0), (1, 20, 0, 0, 0), (1, 600, 0, 0, 0), (1, 60, 0, 0, 0), (1, 1420, 0, 0, 0), (1, 22720, 0, 0, 0), (1, 22720, 0, 0, 0), (1, 86, 0, 0, 0), (1, 86, 0, 0, 0), (1, 86, 0, 0, 0), (1, 86, 0, 0, 0), (1, 86, 0, 0, 0), (1, 70, 0, 0, 0), (1, 70, 0, 0, 0), (1, 70, 0, 0, 0), (1, 70, 0, 0, 0), (2, 70, 0, 0, 0), (2, 70, 0, 0, 0), (1, 71, 0, 0, 0), (1, 71, 0, 0, 0), (1, 71, 0, 0, 0), (1, 71, 0, 0, 0), (1, 71, 0, 0, 0), (1, 4, 0, 0, 0), (1, 12, 0, 0, 0), (1, 5, 0, 0, 0), (4, 3, 1, 0, 0), (1, 10, 0, 0, 0), (1, 3, 0, 0, 0), (2, 30, 0, 0, 0), (1, 30, 0, 0, 0), (1, 30, 0, 0, 0), (1, 30, 0, 0, 0), (1, 600, 0, 0, 0), (1, 600, 0, 0, 0), (1, 600, 0, 0, 0), (1, 20, 0, 0, 0), (1, 20, 0, 0, 0), (1, 20, 0, 0, 0), (1, 10, 0, 0, 0), (1, 600, 0, 0, 0), (1, 600, 0, 0, 0), (1, 7200, 0, 0, 0), (1, 30, 0, 0, 0), (1, 600, 0, 0, 0), (1, 30, 0, 0, 0), (1, 600, 0, 0, 0), (1, 30, 0, 0, 0), (1, 21, 0, 0, 0), (1, 21, 0, 0, 0), (1, 21, 0, 0, 0), (1, 3, 0, 0, 0), (1, 210, 0, 0, 0), (1, 210, 0, 0, 0), (1, 210, 0, 0, 0), (1, 210, 0, 0, 0), (1, 210, 0, 0, 0), (1, 600, 0, 0, 0), (1, 3, 0, 0, 0), (1, 12, 0, 0, 0), (1, 3, 0, 0, 0), (1, 36, 0, 0, 0), (1, 36, 0, 0, 0), (1, 72, 0, 0, 0), (1, 72, 0, 0, 0), (1, 72, 0, 0, 0), (1, 72, 0, 0, 0), (2, 20400, 0, 0, 0), (1, 20400, 0, 0, 0), (1, 400, 0, 0, 0), (1, 400, 0, 0, 0), (1, 400, 0, 0, 0), (1, 400, 0, 0, 0), (1, 400, 0, 0, 0), (1, 400, 0, 0, 0), (1, 400, 0, 0, 0), (1, 400, 0, 0, 0), (1, 400, 0, 0, 0), (1, 3, 0, 0, 0), (1, 3, 0, 0, 0), (1, 3, 0, 0, 0), (2, 400, 0, 0, 0), (1, 3, 0, 0, 0), (1, 3, 0, 0, 0), (1, 30, 0, 0, 0), (1, 210, 0, 0, 0), (1, 210, 0, 0, 0), (1, 210, 0, 0, 0), (1, 600, 0, 0, 0), (1, 12, 0, 0, 0), (1, 36, 0, 0, 0), (1, 36, 0, 0, 0), (1, 400, 0, 0, 0), (1, 400, 0, 0, 0), (1, 400, 0, 0, 0), (1, 400, 0, 0, 0), (1, 400, 0, 0, 0), (1, 400, 0, 0, 0), (1, 400, 0, 0, 0), (1, 400, 0, 0, 0), (1, 60, 0, 0, 0), (1, 60, 0, 0, 0), (3, 1, 0, 0, 0)],
  [[(2, 12, 0), (2, 13, 0), (2, 14, 0)],
   [(2, 15, 0), (0, 0, 0)],
   [(2, 0, 0), (2, 7, 0), (2, 16, 0), (0, 0, 0), (2, 17, 0), (2, 19, 0), (3, 62, 20), (3, 3, 0), (3, 3, 0), (0, 0, 0), (1, 0, 0)],
   [(0, 0, 0), (0, 0, 0), (1, 0, 0), (0, 0, 0), (0, 0, 0), (0, 0, 0), (2, 21, 0), (2, 22, 0), (2, 23, 0), (2, 24, 0), (2, 25, 0), (2, 26, 0)],
   [(2, 27, 0), (2, 28, 0), (2, 30, 0), (0, 0, 0), (0, 0, 0), (0, 0, 0)],
   [(1, 0, 0), (0, 0, 0), (0, 0, 0), (0, 0, 0), (2, 32, 0), (2, 33, 0), (2, 34, 0), (2, 35, 0), (0, 0, 0), (2, 36, 0), (0, 0, 0), (0, 0, 0), (2, 37, 0)],
   [(2, 38, 0), (2, 39, 0), (0, 0, 0), (0, 0, 0), (0, 0, 0), (0, 0, 0)],
   [(2, 40, 0), (2, 41, 0), (2, 42, 0), (3, 9, 0), (0, 0, 0), (0, 0, 0), (0, 0, 0), (0, 0, 0), (0, 0, 0), (1, 0, 0), (0, 0, 0), (0, 0, 0), (0, 0, 0)],
   [(0, 0, 0), (0, 0, 0), (0, 0, 0), (0, 0, 0), (2, 43, 0), (2, 44, 0), (2, 45, 0), (2, 46, 0), (2, 47, 0)],
   [(0, 0, 0), (2, 48, 0), (2, 49, 0), (2, 50, 0), (2, 51, 0), (2, 52, 0), (2, 53, 0), (2, 54, 0), (2, 55, 0), (2, 56, 0), (2, 57, 0), (2, 58, 0), (0, 0, 0), (2, 59, 0), (2, 60, 0), (2, 61, 0), (0, 0, 0), (0, 0, 0)],
   [(2, 62, 0), (2, 5, 0), (2, 63, 0), (2, 2, 0), (2, 6, 0), (2, 4, 0), (2, 3, 0), (2, 3, 1), (3, 3, 0), (3, 3, 0), (0, 0, 0), (0, 0, 0), (1, 0, 0), (1, 0, 0), (0, 0, 0)],
   [(0, 0, 0), (0, 0, 0), (0, 0, 0), (1, 0, 0), (2, 64, 0), (2, 65, 0), (2, 66, 0), (2, 67, 0), (2, 68, 0), (2, 69, 0), (2, 70, 0), (2, 71, 0), (0, 0, 0), (2, 72, 0), (2, 73, 0), (2, 74, 0), (2, 75, 0), (2, 76, 0), (2, 77, 0), (2, 78, 0), (0, 0, 0), (1, 0, 0), (1, 0, 0), (0, 0, 0), (2, 79, 0), (2, 80, 0), (2, 81, 0), (2, 82, 0), (2, 83, 0), (2, 84, 0), (2, 85, 0), (2, 86, 0), (2, 87, 0), (2, 88, 0), (2, 89, 0), (2, 90, 0), (2, 91, 0), (2, 92, 0), (2, 93, 0), (2, 94, 0), (2, 95, 0), (2, 96, 0), (2, 97, 0), (2, 98, 0), (2, 99, 0), (2, 100, 0), (2, 101, 0), (2, 102, 0), (2, 103, 0), (2, 104, 0), (1, 0, 0), (0, 0, 0), (0, 0, 0), (0, 0, 0), (0, 0, 0), (0, 0, 0), (0, 0, 0), (0, 0, 0), (0, 0, 0), (2, 105, 0), (2, 106, 0), (2, 107, 0), (2, 108, 0), (2, 109, 0), (2, 110, 0), (2, 111, 0), (2, 112, 0), (2, 113, 0), (2, 114, 0), (2, 115, 0), (2, 116, 0), (0, 0, 0), (2, 117, 0), (1, 0, 0), (0, 0, 0), (0, 0, 0), (0, 0, 0), (2, 118, 0), (2, 119, 0), (2, 120, 0), (2, 121, 0), (2, 122, 0), (2, 123, 0), (2, 124, 0), (2, 125, 0), (2, 126, 0), (2, 127, 0), (2, 128, 0), (2, 129, 0), (2, 130, 0), (2, 131, 0), (2, 132, 0), (2, 133, 0), (2, 134, 0), (2, 135, 0), (0, 0, 0), (0, 0, 0), (2, 136, 0), (2, 137, 0), (0, 0, 0), (0, 0, 0), (0, 0, 0)]])
def qc_X0_init : qCd := ([[(0, .aload_n 0, 1, 0, 0, 0, 0), (1, .invokespecial 3, 3, 0, 1, 6, 133), (4, .aload_n 0, 1, 0, 0, 0, 0), (5, .bipush 21, 2, 0, 0, 0, 0), (7, .newarray .int, 2, 0, 12, 0, 0), (9, .putfield 9, 3, 0, 0, 0, 134), (12, .aload_n 0, 1, 0, 0, 0, 0), (13, .bipush 21, 2, 0, 0, 0, 0), (15, .newarray .int, 2, 0, 13, 0, 0)],
  [(17, .putfield 15, 3, 0, 1, 0, 135), (20, .aload_n 0, 1, 0, 0, 0, 0), (21, .bipush 21, 2, 0, 0, 0, 0), (23, .newarray .int, 2, 0, 14, 0, 0), (25, .putfield 18, 3, 0, 2, 0, 136), (28, .return_, 1, 0, 0, 0, 0)]], [], 0, 1)
def qc_X0_renew : qCd := ([[(0, .aload_n 1, 1, 0, 0, 0, 0), (1, .getfield 21, 3, 5, 0, 1, 49), (4, .ifCond .ne 11, 3, 15, 0, 0, 0), (7, .aload_n 1, 1, 0, 0, 0, 0), (8, .iload_n 2, 1, 0, 0, 0, 0), (9, .invokevirtual 27, 3, 50, 2, 51, 869), (12, .ifCond .eq 5, 3, 17, 0, 0, 0), (15, .iconst 0, 1, 0, 0, 0, 0)],
  [(16, .ireturn, 1, 0, 0, 0, 0), (17, .aload_n 0, 1, 0, 0, 0, 0), (18, .getfield 9, 3, 0, 0, 0, 134), (21, .aload_n 1, 1, 0, 0, 0, 0), (22, .getfield 31, 3, 5, 2, 1, 56), (25, .iconst 0, 1, 0, 0, 0, 0), (26, .iastore, 1, 0, 0, 0, 0), (27, .aload_n 0, 1, 0, 0, 0, 0), (28, .getfield 15, 3, 0, 1, 0, 135), (31, .aload_n 1, 1, 0, 0, 0, 0)],
  [(32, .getfield 31, 3, 5, 2, 1, 56), (35, .iconst 0, 1, 0, 0, 0, 0), (36, .iastore, 1, 0, 0, 0, 0), (37, .aload_n 1, 1, 0, 0, 0, 0), (38, .getfield 31, 3, 5, 2, 1, 56), (41, .iconst 1, 1, 0, 0, 0, 0), (42, .isub, 1, 0, 0, 0, 0), (43, .istore_n 3, 1, 0, 0, 0, 0), (44, .iload_n 3, 1, 0, 0, 0, 0), (45, .ifCond .lt 16, 3, 61, 0, 0, 0)],
  [(48, .aload_n 0, 1, 0, 0, 0, 0), (49, .aload_n 1, 1, 0, 0, 0, 0), (50, .iload_n 3, 1, 0, 0, 0, 0), (51, .iload_n 2, 1, 0, 0, 0, 0), (52, .invokevirtual 35, 3, 2, 4, 0, 877), (55, .iinc 3 (-1), 3, 0, 0, 0, 0), (58, .goto (-14), 3, 44, 0, 0, 0), (61, .aload_n 0, 1, 0, 0, 0, 0), (62, .aload_n 1, 1, 0, 0, 0, 0), (63, .invokevirtual 39, 3, 4, 2, 0, 886)],
  [(66, .iconst 0, 1, 0, 0, 0, 0), (67, .istore_n 3, 1, 0, 0, 0, 0), (68, .iload_n 3, 1, 0, 0, 0, 0), (69, .aload_n 1, 1, 0, 0, 0, 0), (70, .getfield 31, 3, 5, 2, 1, 56), (73, .if_icmp .ge 20, 3, 93, 0, 0, 0), (76, .aload_n 1, 1, 0, 0, 0, 0), (77, .getfield 43, 3, 5, 9, 1, 82)],
  [(80, .iload_n 3, 1, 0, 0, 0, 0), (81, .aload_n 1, 1, 0, 0, 0, 0), (82, .iload_n 3, 1, 0, 0, 0, 0), (83, .invokevirtual 46, 3, 47, 2, 51, 882), (86, .iastore, 1, 0, 0, 0, 0), (87, .iinc 3 1, 3, 0, 0, 0, 0), (90, .goto (-22), 3, 68, 0, 0, 0), (93, .aload_n 1, 1, 0, 0, 0, 0), (94, .iload_n 2, 1, 0, 0, 0, 0), (95, .putfield 50, 3, 5, 8, 1, 80)],
  [(98, .iconst 1, 1, 0, 0, 0, 0), (99, .ireturn, 1, 0, 0, 0, 0)]], [], 2, 4)
def qc_X0_chooseLine : qCd := ([[(0, .iconst (-1), 1, 0, 0, 0, 0), (1, .istore 4, 2, 0, 0, 0, 0), (3, .aload_n 0, 1, 0, 0, 0, 0), (4, .getfield 9, 3, 0, 0, 0, 134), (7, .iload_n 2, 1, 0, 0, 0, 0), (8, .ldc 53, 2, 268435456, 0, 0, 881), (10, .iastore, 1, 0, 0, 0, 0), (11, .iload_n 2, 1, 0, 0, 0, 0), (12, .iconst 1, 1, 0, 0, 0, 0), (13, .iadd, 1, 0, 0, 0, 0), (14, .istore 5, 2, 0, 0, 0, 0)],
  [(16, .iload 5, 2, 0, 0, 0, 0), (18, .aload_n 1, 1, 0, 0, 0, 0), (19, .getfield 31, 3, 5, 2, 1, 56), (22, .if_icmp .gt 143, 3, 165, 0, 0, 0), (25, .iload 4, 2, 0, 0, 0, 0), (27, .iconst 1, 1, 0, 0, 0, 0), (28, .aload_n 1, 1, 0, 0, 0, 0), (29, .iload 5, 2, 0, 0, 0, 0), (31, .iconst 1, 1, 0, 0, 0, 0)],
  [(32, .isub, 1, 0, 0, 0, 0), (33, .invokevirtual 46, 3, 47, 2, 51, 882), (36, .iadd, 1, 0, 0, 0, 0), (37, .iadd, 1, 0, 0, 0, 0), (38, .istore 4, 2, 0, 0, 0, 0), (40, .iload 4, 2, 0, 0, 0, 0), (42, .iload_n 3, 1, 0, 0, 0, 0), (43, .if_icmp .le 14, 3, 57, 0, 0, 0), (46, .iload 5, 2, 0, 0, 0, 0)],
  [(48, .iload_n 2, 1, 0, 0, 0, 0), (49, .iconst 1, 1, 0, 0, 0, 0), (50, .iadd, 1, 0, 0, 0, 0), (51, .if_icmp .le 6, 3, 57, 0, 0, 0), (54, .goto 111, 3, 165, 0, 0, 0), (57, .aload_n 0, 1, 0, 0, 0, 0), (58, .getfield 9, 3, 0, 0, 0, 134), (61, .iload 5, 2, 0, 0, 0, 0), (63, .iaload, 1, 0, 0, 0, 0)],
  [(64, .iload_n 3, 1, 0, 0, 0, 0), (65, .iload 4, 2, 0, 0, 0, 0), (67, .isub, 1, 0, 0, 0, 0), (68, .iload 5, 2, 0, 0, 0, 0), (70, .aload_n 1, 1, 0, 0, 0, 0), (71, .getfield 31, 3, 5, 2, 1, 56), (74, .if_icmp .ne 7, 3, 81, 0, 0, 0), (77, .iconst 1, 1, 0, 0, 0, 0), (78, .goto 4, 3, 82, 0, 0, 0)],
  [(81, .iconst 0, 1, 0, 0, 0, 0), (82, .invokestatic 54, 3, 3, 2, 2, 883), (85, .iadd, 1, 0, 0, 0, 0), (86, .istore 6, 2, 0, 0, 0, 0), (88, .iload 6, 2, 0, 0, 0, 0), (90, .aload_n 0, 1, 0, 0, 0, 0), (91, .getfield 9, 3, 0, 0, 0, 134), (94, .iload_n 2, 1, 0, 0, 0, 0), (95, .iaload, 1, 0, 0, 0, 0)],
  [(96, .if_icmp .lt 32, 3, 128, 0, 0, 0), (99, .iload 6, 2, 0, 0, 0, 0), (101, .aload_n 0, 1, 0, 0, 0, 0), (102, .getfield 9, 3, 0, 0, 0, 134), (105, .iload_n 2, 1, 0, 0, 0, 0), (106, .iaload, 1, 0, 0, 0, 0), (107, .if_icmp .ne 52, 3, 159, 0, 0, 0), (110, .aload_n 0, 1, 0, 0, 0, 0), (111, .getfield 15, 3, 0, 1, 0, 135)],
  [(114, .iload 5, 2, 0, 0, 0, 0), (116, .iaload, 1, 0, 0, 0, 0), (117, .iconst 1, 1, 0, 0, 0, 0), (118, .iadd, 1, 0, 0, 0, 0), (119, .aload_n 0, 1, 0, 0, 0, 0), (120, .getfield 15, 3, 0, 1, 0, 135), (123, .iload_n 2, 1, 0, 0, 0, 0), (124, .iaload, 1, 0, 0, 0, 0), (125, .if_icmp .gt 34, 3, 159, 0, 0, 0)],
  [(128, .aload_n 0, 1, 0, 0, 0, 0), (129, .getfield 9, 3, 0, 0, 0, 134), (132, .iload_n 2, 1, 0, 0, 0, 0), (133, .iload 6, 2, 0, 0, 0, 0), (135, .iastore, 1, 0, 0, 0, 0), (136, .aload_n 0, 1, 0, 0, 0, 0), (137, .getfield 15, 3, 0, 1, 0, 135), (140, .iload_n 2, 1, 0, 0, 0, 0), (141, .aload_n 0, 1, 0, 0, 0, 0), (142, .getfield 15, 3, 0, 1, 0, 135)],
  [(145, .iload 5, 2, 0, 0, 0, 0), (147, .iaload, 1, 0, 0, 0, 0), (148, .iconst 1, 1, 0, 0, 0, 0), (149, .iadd, 1, 0, 0, 0, 0), (150, .iastore, 1, 0, 0, 0, 0), (151, .aload_n 0, 1, 0, 0, 0, 0), (152, .getfield 18, 3, 0, 2, 0, 136), (155, .iload_n 2, 1, 0, 0, 0, 0), (156, .iload 5, 2, 0, 0, 0, 0), (158, .iastore, 1, 0, 0, 0, 0), (159, .iinc 5 1, 3, 0, 0, 0, 0)],
  [(162, .goto (-146), 3, 16, 0, 0, 0), (165, .return_, 1, 0, 0, 0, 0)]], [], 0, 7)
def qc_X0_costOfLine : qCd := ([[(0, .iload_n 0, 1, 0, 0, 0, 0), (1, .ifCond .ge 8, 3, 9, 0, 0, 0), (4, .bipush (-100), 2, 0, 0, 0, 0), (6, .iload_n 0, 1, 0, 0, 0, 0), (7, .imul, 1, 0, 0, 0, 0), (8, .ireturn, 1, 0, 0, 0, 0), (9, .iload_n 1, 1, 0, 0, 0, 0), (10, .ifCond .eq 7, 3, 17, 0, 0, 0), (13, .iconst 0, 1, 0, 0, 0, 0), (14, .goto 6, 3, 20, 0, 0, 0)],
  [(17, .iload_n 0, 1, 0, 0, 0, 0), (18, .iload_n 0, 1, 0, 0, 0, 0), (19, .imul, 1, 0, 0, 0, 0), (20, .ireturn, 1, 0, 0, 0, 0)]], [], 1, 2)
def qc_X0_writeLines : qCd := ([[(0, .aload_n 1, 1, 0, 0, 0, 0), (1, .iconst 0, 1, 0, 0, 0, 0), (2, .putfield 58, 3, 5, 10, 1, 85), (5, .aload_n 1, 1, 0, 0, 0, 0), (6, .aload_n 0, 1, 0, 0, 0, 0), (7, .getfield 9, 3, 0, 0, 0, 134), (10, .iconst 0, 1, 0, 0, 0, 0), (11, .iaload, 1, 0, 0, 0, 0), (12, .putfield 61, 3, 5, 11, 1, 88), (15, .iconst 0, 1, 0, 0, 0, 0)],
  [(16, .istore_n 2, 1, 0, 0, 0, 0), (17, .iload_n 2, 1, 0, 0, 0, 0), (18, .aload_n 1, 1, 0, 0, 0, 0), (19, .getfield 31, 3, 5, 2, 1, 56), (22, .if_icmp .ge 42, 3, 64, 0, 0, 0), (25, .aload_n 1, 1, 0, 0, 0, 0), (26, .getfield 58, 3, 5, 10, 1, 85), (29, .bipush 20, 2, 0, 0, 0, 0), (31, .if_icmp .ge 33, 3, 64, 0, 0, 0)],
  [(34, .aload_n 0, 1, 0, 0, 0, 0), (35, .getfield 18, 3, 0, 2, 0, 136), (38, .iload_n 2, 1, 0, 0, 0, 0), (39, .iaload, 1, 0, 0, 0, 0), (40, .istore_n 2, 1, 0, 0, 0, 0), (41, .aload_n 1, 1, 0, 0, 0, 0), (42, .getfield 64, 3, 5, 12, 1, 92), (45, .aload_n 1, 1, 0, 0, 0, 0), (46, .getfield 58, 3, 5, 10, 1, 85)],
  [(49, .iload_n 2, 1, 0, 0, 0, 0), (50, .iastore, 1, 0, 0, 0, 0), (51, .aload_n 1, 1, 0, 0, 0, 0), (52, .dup, 1, 0, 0, 0, 0), (53, .getfield 58, 3, 5, 10, 1, 85), (56, .iconst 1, 1, 0, 0, 0, 0), (57, .iadd, 1, 0, 0, 0, 0), (58, .putfield 58, 3, 5, 10, 1, 85), (61, .goto (-44), 3, 17, 0, 0, 0)],
  [(64, .return_, 1, 0, 0, 0, 0)]], [], 0, 3)
def qc_X1_init : qCd := ([[(0, .aload_n 0, 1, 0, 0, 0, 0), (1, .invokespecial 3, 3, 0, 1, 6, 501), (4, .aload_n 0, 1, 0, 0, 0, 0), (5, .bipush 10, 2, 0, 0, 0, 0), (7, .anewarray 9, 3, 0, 15, 0, 502), (10, .putfield 11, 3, 1, 0, 0, 505), (13, .aload_n 0, 1, 0, 0, 0, 0), (14, .iconst 0, 1, 0, 0, 0, 0), (15, .putfield 17, 3, 1, 1, 0, 512)],
  [(18, .iconst 0, 1, 0, 0, 0, 0), (19, .istore_n 1, 1, 0, 0, 0, 0), (20, .iload_n 1, 1, 0, 0, 0, 0), (21, .bipush 10, 2, 0, 0, 0, 0), (23, .if_icmp .ge 22, 3, 45, 0, 0, 0), (26, .aload_n 0, 1, 0, 0, 0, 0), (27, .getfield 11, 3, 1, 0, 0, 505), (30, .iload_n 1, 1, 0, 0, 0, 0), (31, .new 9, 3, 0, 5, 0, 502)],
  [(34, .dup, 1, 0, 0, 0, 0), (35, .invokespecial 21, 3, 43, 1, 55, 504), (38, .aastore, 1, 0, 0, 0, 0), (39, .iinc 1 1, 3, 0, 0, 0, 0), (42, .goto (-22), 3, 20, 0, 0, 0), (45, .return_, 1, 0, 0, 0, 0)]], [], 0, 2)
def qc_X1_wordsBut : qCd := ([[(0, .iconst 0, 1, 0, 0, 0, 0), (1, .istore_n 2, 1, 0, 0, 0, 0), (2, .iconst 0, 1, 0, 0, 0, 0), (3, .istore_n 3, 1, 0, 0, 0, 0), (4, .iload_n 3, 1, 0, 0, 0, 0), (5, .aload_n 0, 1, 0, 0, 0, 0), (6, .getfield 17, 3, 1, 1, 0, 512), (9, .if_icmp .ge 30, 3, 39, 0, 0, 0), (12, .iload_n 2, 1, 0, 0, 0, 0), (13, .iload_n 3, 1, 0, 0, 0, 0), (14, .iload_n 1, 1, 0, 0, 0, 0), (15, .if_icmp .ne 7, 3, 22, 0, 0, 0)],
  [(18, .iconst 0, 1, 0, 0, 0, 0), (19, .goto 12, 3, 31, 0, 0, 0), (22, .aload_n 0, 1, 0, 0, 0, 0), (23, .getfield 11, 3, 1, 0, 0, 505), (26, .iload_n 3, 1, 0, 0, 0, 0), (27, .aaload, 1, 0, 0, 0, 0), (28, .getfield 22, 3, 5, 2, 1, 57), (31, .iadd, 1, 0, 0, 0, 0)],
  [(32, .istore_n 2, 1, 0, 0, 0, 0), (33, .iinc 3 1, 3, 0, 0, 0, 0), (36, .goto (-32), 3, 4, 0, 0, 0), (39, .iload_n 2, 1, 0, 0, 0, 0), (40, .ireturn, 1, 0, 0, 0, 0)]], [], 1, 4)
def qc_X1_sumBut : qCd := ([[(0, .iconst 0, 1, 0, 0, 0, 0), (1, .istore_n 3, 1, 0, 0, 0, 0), (2, .iconst 0, 1, 0, 0, 0, 0), (3, .istore 4, 2, 0, 0, 0, 0), (5, .iload 4, 2, 0, 0, 0, 0), (7, .aload_n 0, 1, 0, 0, 0, 0), (8, .getfield 17, 3, 1, 1, 0, 512), (11, .if_icmp .ge 33, 3, 44, 0, 0, 0), (14, .iload_n 3, 1, 0, 0, 0, 0), (15, .iload 4, 2, 0, 0, 0, 0)],
  [(17, .iload_n 2, 1, 0, 0, 0, 0), (18, .if_icmp .ne 7, 3, 25, 0, 0, 0), (21, .iconst 0, 1, 0, 0, 0, 0), (22, .goto 14, 3, 36, 0, 0, 0), (25, .aload_n 0, 1, 0, 0, 0, 0), (26, .getfield 11, 3, 1, 0, 0, 505), (29, .iload 4, 2, 0, 0, 0, 0), (31, .aaload, 1, 0, 0, 0, 0)],
  [(32, .iload_n 1, 1, 0, 0, 0, 0), (33, .invokevirtual 23, 3, 48, 2, 51, 748), (36, .iadd, 1, 0, 0, 0, 0), (37, .istore_n 3, 1, 0, 0, 0, 0), (38, .iinc 4 1, 3, 0, 0, 0, 0), (41, .goto (-36), 3, 5, 0, 0, 0), (44, .iload_n 3, 1, 0, 0, 0, 0), (45, .ireturn, 1, 0, 0, 0, 0)]], [], 1, 5)
def qc_X1_labelsBut : qCd := ([[(0, .iconst 0, 1, 0, 0, 0, 0), (1, .istore_n 2, 1, 0, 0, 0, 0), (2, .iconst 0, 1, 0, 0, 0, 0), (3, .istore_n 3, 1, 0, 0, 0, 0), (4, .iload_n 3, 1, 0, 0, 0, 0), (5, .aload_n 0, 1, 0, 0, 0, 0), (6, .getfield 17, 3, 1, 1, 0, 512), (9, .if_icmp .ge 30, 3, 39, 0, 0, 0), (12, .iload_n 2, 1, 0, 0, 0, 0), (13, .iload_n 3, 1, 0, 0, 0, 0), (14, .iload_n 1, 1, 0, 0, 0, 0), (15, .if_icmp .ne 7, 3, 22, 0, 0, 0)],
  [(18, .iconst 0, 1, 0, 0, 0, 0), (19, .goto 12, 3, 31, 0, 0, 0), (22, .aload_n 0, 1, 0, 0, 0, 0), (23, .getfield 11, 3, 1, 0, 0, 505), (26, .iload_n 3, 1, 0, 0, 0, 0), (27, .aaload, 1, 0, 0, 0, 0), (28, .invokevirtual 27, 3, 49, 1, 51, 761), (31, .ior, 1, 0, 0, 0, 0)],
  [(32, .istore_n 2, 1, 0, 0, 0, 0), (33, .iinc 3 1, 3, 0, 0, 0, 0), (36, .goto (-32), 3, 4, 0, 0, 0), (39, .iload_n 2, 1, 0, 0, 0, 0), (40, .ireturn, 1, 0, 0, 0, 0)]], [], 1, 4)
def qc_X1_heads : qCd := ([[(0, .iconst 0, 1, 0, 0, 0, 0), (1, .istore_n 1, 1, 0, 0, 0, 0), (2, .iconst 0, 1, 0, 0, 0, 0), (3, .istore_n 2, 1, 0, 0, 0, 0), (4, .iload_n 2, 1, 0, 0, 0, 0), (5, .aload_n 0, 1, 0, 0, 0, 0), (6, .getfield 17, 3, 1, 1, 0, 512), (9, .if_icmp .ge 29, 3, 38, 0, 0, 0), (12, .iload_n 1, 1, 0, 0, 0, 0), (13, .aload_n 0, 1, 0, 0, 0, 0), (14, .getfield 11, 3, 1, 0, 0, 505)],
  [(17, .iload_n 2, 1, 0, 0, 0, 0), (18, .aaload, 1, 0, 0, 0, 0), (19, .getfield 31, 3, 5, 0, 1, 51), (22, .ifCond .eq 7, 3, 29, 0, 0, 0), (25, .iconst 1, 1, 0, 0, 0, 0), (26, .goto 4, 3, 30, 0, 0, 0), (29, .iconst 0, 1, 0, 0, 0, 0), (30, .iadd, 1, 0, 0, 0, 0), (31, .istore_n 1, 1, 0, 0, 0, 0)],
  [(32, .iinc 2 1, 3, 0, 0, 0, 0), (35, .goto (-31), 3, 4, 0, 0, 0), (38, .iload_n 1, 1, 0, 0, 0, 0), (39, .ireturn, 1, 0, 0, 0, 0)]], [], 1, 3)
def qc_X2_init : qCd := ([[(0, .aload_n 0, 1, 0, 0, 0, 0), (1, .invokespecial 3, 3, 0, 1, 6, 127), (4, .aload_n 0, 1, 0, 0, 0, 0), (5, .new 9, 3, 0, 0, 0, 128), (8, .dup, 1, 0, 0, 0, 0), (9, .invokespecial 11, 3, 0, 1, 5, 130), (12, .putfield 12, 3, 2, 0, 0, 280), (15, .aload_n 0, 1, 0, 0, 0, 0)],
  [(16, .new 18, 3, 0, 7, 0, 144), (19, .dup, 1, 0, 0, 0, 0), (20, .invokespecial 20, 3, 56, 1, 75, 146), (23, .putfield 21, 3, 2, 1, 0, 281), (26, .aload_n 0, 1, 0, 0, 0, 0), (27, .sipush 180, 3, 0, 0, 0, 0), (30, .newarray .int, 2, 0, 16, 0, 0)],
  [(32, .putfield 25, 3, 2, 2, 0, 283), (35, .aload_n 0, 1, 0, 0, 0, 0), (36, .iconst 0, 1, 0, 0, 0, 0), (37, .putfield 29, 3, 2, 3, 0, 284), (40, .aload_n 0, 1, 0, 0, 0, 0), (41, .bipush 13, 2, 0, 0, 0, 0), (43, .sipush 180, 3, 0, 0, 0, 0), (46, .multianewarray 33 2, 4, 0, 17, 18, 277)],
  [(50, .putfield 35, 3, 2, 4, 0, 285), (53, .aload_n 0, 1, 0, 0, 0, 0), (54, .bipush 10, 2, 0, 0, 0, 0), (56, .newarray .int, 2, 0, 19, 0, 0), (58, .putfield 38, 3, 2, 5, 0, 286), (61, .aload_n 0, 1, 0, 0, 0, 0), (62, .iconst 0, 1, 0, 0, 0, 0), (63, .anewarray 41, 3, 0, 20, 0, 279)],
  [(66, .putfield 43, 3, 2, 6, 0, 287), (69, .aload_n 0, 1, 0, 0, 0, 0), (70, .aconst_null, 1, 0, 0, 0, 0), (71, .putfield 47, 3, 2, 7, 0, 288), (74, .aload_n 0, 1, 0, 0, 0, 0), (75, .aconst_null, 1, 0, 0, 0, 0), (76, .putfield 51, 3, 2, 8, 0, 289), (79, .aload_n 0, 1, 0, 0, 0, 0)],
  [(80, .iconst 0, 1, 0, 0, 0, 0), (81, .putfield 54, 3, 2, 9, 0, 290), (84, .aload_n 0, 1, 0, 0, 0, 0), (85, .iconst 0, 1, 0, 0, 0, 0), (86, .putfield 57, 3, 2, 10, 0, 292), (89, .return_, 1, 0, 0, 0, 0)]], [], 0, 1)
def qc_X2_makeRounds : qCd := ([[(0, .aload_n 0, 1, 0, 0, 0, 0), (1, .aload_n 1, 1, 0, 0, 0, 0), (2, .putfield 43, 3, 2, 6, 0, 287), (5, .aload_n 0, 1, 0, 0, 0, 0), (6, .aload_n 2, 1, 0, 0, 0, 0), (7, .putfield 47, 3, 2, 7, 0, 288), (10, .aload_n 0, 1, 0, 0, 0, 0), (11, .aload_n 3, 1, 0, 0, 0, 0), (12, .putfield 51, 3, 2, 8, 0, 289), (15, .aload_n 0, 1, 0, 0, 0, 0)],
  [(16, .iconst 0, 1, 0, 0, 0, 0), (17, .putfield 54, 3, 2, 9, 0, 290), (20, .aload_n 0, 1, 0, 0, 0, 0), (21, .iconst 0, 1, 0, 0, 0, 0), (22, .putfield 57, 3, 2, 10, 0, 292), (25, .aload_n 0, 1, 0, 0, 0, 0), (26, .invokevirtual 61, 3, 14, 1, 20, 835), (29, .iconst (-1), 1, 0, 0, 0, 0), (30, .istore 4, 2, 0, 0, 0, 0)],
  [(32, .iconst 0, 1, 0, 0, 0, 0), (33, .istore 5, 2, 0, 0, 0, 0), (35, .iload 5, 2, 0, 0, 0, 0), (37, .bipush 12, 2, 0, 0, 0, 0), (39, .if_icmp .ge 67, 3, 106, 0, 0, 0), (42, .iload 4, 2, 0, 0, 0, 0), (44, .ifCond .ge 62, 3, 106, 0, 0, 0), (47, .aload_n 0, 1, 0, 0, 0, 0)],
  [(48, .iload 5, 2, 0, 0, 0, 0), (50, .invokevirtual 64, 3, 16, 2, 20, 853), (53, .ifCond .ne 5, 3, 58, 0, 0, 0), (56, .iconst (-1), 1, 0, 0, 0, 0), (57, .ireturn, 1, 0, 0, 0, 0), (58, .aload_n 0, 1, 0, 0, 0, 0), (59, .aload_n 0, 1, 0, 0, 0, 0), (60, .getfield 35, 3, 2, 4, 0, 285), (63, .iload 5, 2, 0, 0, 0, 0)],
  [(65, .iconst 1, 1, 0, 0, 0, 0), (66, .iadd, 1, 0, 0, 0, 0), (67, .aaload, 1, 0, 0, 0, 0), (68, .invokevirtual 68, 3, 23, 2, 20, 1311), (71, .aload_n 0, 1, 0, 0, 0, 0), (72, .aload_n 0, 1, 0, 0, 0, 0), (73, .getfield 35, 3, 2, 4, 0, 285), (76, .iload 5, 2, 0, 0, 0, 0), (78, .iconst 1, 1, 0, 0, 0, 0), (79, .iadd, 1, 0, 0, 0, 0)],
  [(80, .aaload, 1, 0, 0, 0, 0), (81, .iload 5, 2, 0, 0, 0, 0), (83, .invokevirtual 72, 3, 24, 3, 20, 1315), (86, .istore 4, 2, 0, 0, 0, 0), (88, .iload 4, 2, 0, 0, 0, 0), (90, .iload 5, 2, 0, 0, 0, 0), (92, .if_icmp .ne 8, 3, 100, 0, 0, 0), (95, .iload 5, 2, 0, 0, 0, 0)],
  [(97, .iconst 1, 1, 0, 0, 0, 0), (98, .iadd, 1, 0, 0, 0, 0), (99, .ireturn, 1, 0, 0, 0, 0), (100, .iinc 5 1, 3, 0, 0, 0, 0), (103, .goto (-68), 3, 35, 0, 0, 0), (106, .aload_n 0, 1, 0, 0, 0, 0), (107, .iload 4, 2, 0, 0, 0, 0), (109, .ifCond .ge 7, 3, 116, 0, 0, 0)],
  [(112, .iconst 0, 1, 0, 0, 0, 0), (113, .goto 5, 3, 118, 0, 0, 0), (116, .iload 4, 2, 0, 0, 0, 0), (118, .iload 5, 2, 0, 0, 0, 0), (120, .invokevirtual 76, 3, 12, 3, 20, 1319), (123, .aload_n 0, 1, 0, 0, 0, 0), (124, .aload_n 0, 1, 0, 0, 0, 0), (125, .iload 5, 2, 0, 0, 0, 0), (127, .invokevirtual 64, 3, 16, 2, 20, 853)],
  [(130, .putfield 57, 3, 2, 10, 0, 292), (133, .aload_n 0, 1, 0, 0, 0, 0), (134, .getfield 57, 3, 2, 10, 0, 292), (137, .ifCond .eq 10, 3, 147, 0, 0, 0), (140, .iload 5, 2, 0, 0, 0, 0), (142, .iconst 1, 1, 0, 0, 0, 0), (143, .iadd, 1, 0, 0, 0, 0)],
  [(144, .goto 4, 3, 148, 0, 0, 0), (147, .iconst (-1), 1, 0, 0, 0, 0), (148, .ireturn, 1, 0, 0, 0, 0)]], [], 1, 6)
def qc_X2_takeWidest : qCd := ([[(0, .iconst 0, 1, 0, 0, 0, 0), (1, .istore_n 3, 1, 0, 0, 0, 0), (2, .iload_n 3, 1, 0, 0, 0, 0), (3, .aload_n 0, 1, 0, 0, 0, 0), (4, .getfield 29, 3, 2, 3, 0, 284), (7, .if_icmp .ge 53, 3, 60, 0, 0, 0), (10, .iconst 0, 1, 0, 0, 0, 0), (11, .istore 4, 2, 0, 0, 0, 0), (13, .iload_n 1, 1, 0, 0, 0, 0), (14, .istore 5, 2, 0, 0, 0, 0)],
  [(16, .iload 5, 2, 0, 0, 0, 0), (18, .iload_n 2, 1, 0, 0, 0, 0), (19, .if_icmp .ge 25, 3, 44, 0, 0, 0), (22, .iload 4, 2, 0, 0, 0, 0), (24, .aload_n 0, 1, 0, 0, 0, 0), (25, .getfield 35, 3, 2, 4, 0, 285), (28, .iload 5, 2, 0, 0, 0, 0), (30, .aaload, 1, 0, 0, 0, 0), (31, .iload_n 3, 1, 0, 0, 0, 0)],
  [(32, .iaload, 1, 0, 0, 0, 0), (33, .invokestatic 80, 3, 264, 2, 2, 1323), (36, .istore 4, 2, 0, 0, 0, 0), (38, .iinc 5 1, 3, 0, 0, 0, 0), (41, .goto (-25), 3, 16, 0, 0, 0), (44, .aload_n 0, 1, 0, 0, 0, 0), (45, .getfield 35, 3, 2, 4, 0, 285)],
  [(48, .iload_n 2, 1, 0, 0, 0, 0), (49, .aaload, 1, 0, 0, 0, 0), (50, .iload_n 3, 1, 0, 0, 0, 0), (51, .iload 4, 2, 0, 0, 0, 0), (53, .iastore, 1, 0, 0, 0, 0), (54, .iinc 3 1, 3, 0, 0, 0, 0), (57, .goto (-55), 3, 2, 0, 0, 0), (60, .return_, 1, 0, 0, 0, 0)]], [], 0, 6)
def qc_X2_itemOf : qCd := ([[(0, .aload_n 0, 1, 0, 0, 0, 0), (1, .getfield 43, 3, 2, 6, 0, 287), (4, .iload_n 1, 1, 0, 0, 0, 0), (5, .bipush 20, 2, 0, 0, 0, 0), (7, .idiv, 1, 0, 0, 0, 0), (8, .bipush 10, 2, 0, 0, 0, 0), (10, .idiv, 1, 0, 0, 0, 0), (11, .aaload, 1, 0, 0, 0, 0), (12, .getfield 86, 3, 1, 0, 1, 510), (15, .iload_n 1, 1, 0, 0, 0, 0)],
  [(16, .bipush 20, 2, 0, 0, 0, 0), (18, .idiv, 1, 0, 0, 0, 0), (19, .bipush 10, 2, 0, 0, 0, 0), (21, .irem, 1, 0, 0, 0, 0), (22, .aaload, 1, 0, 0, 0, 0), (23, .areturn, 1, 0, 0, 0, 0)]], [], 3, 2)
def qc_X2_listChanging : qCd := ([[(0, .aload_n 0, 1, 0, 0, 0, 0), (1, .iconst 0, 1, 0, 0, 0, 0), (2, .putfield 29, 3, 2, 3, 0, 284), (5, .iconst 0, 1, 0, 0, 0, 0), (6, .istore_n 1, 1, 0, 0, 0, 0), (7, .iload_n 1, 1, 0, 0, 0, 0), (8, .iconst 3, 1, 0, 0, 0, 0), (9, .if_icmp .ge 139, 3, 148, 0, 0, 0), (12, .iconst 0, 1, 0, 0, 0, 0), (13, .istore_n 2, 1, 0, 0, 0, 0), (14, .iconst 0, 1, 0, 0, 0, 0), (15, .istore_n 3, 1, 0, 0, 0, 0)],
  [(16, .iload_n 3, 1, 0, 0, 0, 0), (17, .aload_n 0, 1, 0, 0, 0, 0), (18, .getfield 43, 3, 2, 6, 0, 287), (21, .iload_n 1, 1, 0, 0, 0, 0), (22, .aaload, 1, 0, 0, 0, 0), (23, .getfield 90, 3, 1, 1, 1, 516), (26, .if_icmp .ge 116, 3, 142, 0, 0, 0), (29, .aload_n 0, 1, 0, 0, 0, 0), (30, .getfield 43, 3, 2, 6, 0, 287)],
  [(33, .iload_n 1, 1, 0, 0, 0, 0), (34, .aaload, 1, 0, 0, 0, 0), (35, .getfield 86, 3, 1, 0, 1, 510), (38, .iload_n 3, 1, 0, 0, 0, 0), (39, .aaload, 1, 0, 0, 0, 0), (40, .astore 4, 2, 0, 0, 0, 0), (42, .iconst 0, 1, 0, 0, 0, 0), (43, .istore 5, 2, 0, 0, 0, 0), (45, .iload 5, 2, 0, 0, 0, 0), (47, .aload 4, 2, 0, 0, 0, 0)],
  [(49, .getfield 93, 3, 5, 2, 1, 59), (52, .if_icmp .ge 84, 3, 136, 0, 0, 0), (55, .aload 4, 2, 0, 0, 0, 0), (57, .getfield 96, 3, 5, 5, 1, 69), (60, .iload 5, 2, 0, 0, 0, 0), (62, .iaload, 1, 0, 0, 0, 0), (63, .iconst 2, 1, 0, 0, 0, 0)],
  [(64, .if_icmp .ne 38, 3, 102, 0, 0, 0), (67, .iinc 2 1, 3, 0, 0, 0, 0), (70, .aload_n 0, 1, 0, 0, 0, 0), (71, .iload_n 1, 1, 0, 0, 0, 0), (72, .iload_n 3, 1, 0, 0, 0, 0), (73, .iload 5, 2, 0, 0, 0, 0), (75, .invokestatic 99, 3, 147, 3, 103, 839), (78, .aload_n 0, 1, 0, 0, 0, 0), (79, .getfield 47, 3, 2, 7, 0, 288)],
  [(82, .getfield 103, 3, 3, 2, 1, 446), (85, .ifCond .eq 7, 3, 92, 0, 0, 0), (88, .iconst 1, 1, 0, 0, 0, 0), (89, .goto 7, 3, 96, 0, 0, 0), (92, .iload_n 2, 1, 0, 0, 0, 0), (93, .invokestatic 108, 3, 148, 1, 103, 842)],
  [(96, .invokevirtual 112, 3, 15, 3, 20, 845), (99, .goto 31, 3, 130, 0, 0, 0), (102, .aload 4, 2, 0, 0, 0, 0), (104, .getfield 96, 3, 5, 5, 1, 69), (107, .iload 5, 2, 0, 0, 0, 0), (109, .iaload, 1, 0, 0, 0, 0), (110, .bipush 6, 2, 0, 0, 0, 0)],
  [(112, .if_icmp .ne 18, 3, 130, 0, 0, 0), (115, .aload_n 0, 1, 0, 0, 0, 0), (116, .iload_n 1, 1, 0, 0, 0, 0), (117, .iload_n 3, 1, 0, 0, 0, 0), (118, .iload 5, 2, 0, 0, 0, 0), (120, .invokestatic 99, 3, 147, 3, 103, 839), (123, .iconst 0, 1, 0, 0, 0, 0), (124, .invokestatic 115, 3, 149, 1, 103, 849), (127, .invokevirtual 112, 3, 15, 3, 20, 845)],
  [(130, .iinc 5 1, 3, 0, 0, 0, 0), (133, .goto (-88), 3, 45, 0, 0, 0), (136, .iinc 3 1, 3, 0, 0, 0, 0), (139, .goto (-123), 3, 16, 0, 0, 0), (142, .iinc 1 1, 3, 0, 0, 0, 0)],
  [(145, .goto (-138), 3, 7, 0, 0, 0), (148, .return_, 1, 0, 0, 0, 0)]], [], 0, 6)
def qc_X2_listWord : qCd := ([[(0, .aload_n 0, 1, 0, 0, 0, 0), (1, .getfield 29, 3, 2, 3, 0, 284), (4, .sipush 180, 3, 0, 0, 0, 0), (7, .if_icmp .ge 35, 3, 42, 0, 0, 0), (10, .aload_n 0, 1, 0, 0, 0, 0), (11, .getfield 25, 3, 2, 2, 0, 283), (14, .aload_n 0, 1, 0, 0, 0, 0), (15, .getfield 29, 3, 2, 3, 0, 284)],
  [(18, .iload_n 1, 1, 0, 0, 0, 0), (19, .iastore, 1, 0, 0, 0, 0), (20, .aload_n 0, 1, 0, 0, 0, 0), (21, .getfield 35, 3, 2, 4, 0, 285), (24, .iconst 0, 1, 0, 0, 0, 0), (25, .aaload, 1, 0, 0, 0, 0), (26, .aload_n 0, 1, 0, 0, 0, 0), (27, .getfield 29, 3, 2, 3, 0, 284), (30, .iload_n 2, 1, 0, 0, 0, 0), (31, .iastore, 1, 0, 0, 0, 0)],
  [(32, .aload_n 0, 1, 0, 0, 0, 0), (33, .dup, 1, 0, 0, 0, 0), (34, .getfield 29, 3, 2, 3, 0, 284), (37, .iconst 1, 1, 0, 0, 0, 0), (38, .iadd, 1, 0, 0, 0, 0), (39, .putfield 29, 3, 2, 3, 0, 284), (42, .return_, 1, 0, 0, 0, 0)]], [], 0, 3)
def qc_X2_hasMadeRound : qCd := ([[(0, .iconst 0, 1, 0, 0, 0, 0), (1, .istore_n 2, 1, 0, 0, 0, 0), (2, .iload_n 2, 1, 0, 0, 0, 0), (3, .aload_n 0, 1, 0, 0, 0, 0), (4, .getfield 29, 3, 2, 3, 0, 284), (7, .if_icmp .ge 40, 3, 47, 0, 0, 0), (10, .aload_n 0, 1, 0, 0, 0, 0), (11, .aload_n 0, 1, 0, 0, 0, 0), (12, .getfield 25, 3, 2, 2, 0, 283), (15, .iload_n 2, 1, 0, 0, 0, 0)],
  [(16, .iaload, 1, 0, 0, 0, 0), (17, .invokevirtual 118, 3, 13, 2, 20, 857), (20, .getfield 122, 3, 5, 7, 1, 78), (23, .aload_n 0, 1, 0, 0, 0, 0), (24, .getfield 25, 3, 2, 2, 0, 283), (27, .iload_n 2, 1, 0, 0, 0, 0), (28, .iaload, 1, 0, 0, 0, 0), (29, .bipush 20, 2, 0, 0, 0, 0), (31, .irem, 1, 0, 0, 0, 0)],
  [(32, .aload_n 0, 1, 0, 0, 0, 0), (33, .getfield 35, 3, 2, 4, 0, 285), (36, .iload_n 1, 1, 0, 0, 0, 0), (37, .aaload, 1, 0, 0, 0, 0), (38, .iload_n 2, 1, 0, 0, 0, 0), (39, .iaload, 1, 0, 0, 0, 0), (40, .iastore, 1, 0, 0, 0, 0), (41, .iinc 2 1, 3, 0, 0, 0, 0), (44, .goto (-42), 3, 2, 0, 0, 0), (47, .aload_n 0, 1, 0, 0, 0, 0)],
  [(48, .invokevirtual 124, 3, 17, 1, 20, 861), (51, .istore_n 2, 1, 0, 0, 0, 0), (52, .aload_n 0, 1, 0, 0, 0, 0), (53, .getfield 47, 3, 2, 7, 0, 288), (56, .aload_n 0, 1, 0, 0, 0, 0), (57, .getfield 47, 3, 2, 7, 0, 288), (60, .getfield 128, 3, 3, 3, 1, 448), (63, .putfield 131, 3, 3, 4, 1, 450)],
  [(66, .iconst 0, 1, 0, 0, 0, 0), (67, .istore_n 3, 1, 0, 0, 0, 0), (68, .iload_n 3, 1, 0, 0, 0, 0), (69, .iconst 3, 1, 0, 0, 0, 0), (70, .if_icmp .ge 164, 3, 234, 0, 0, 0), (73, .aload_n 0, 1, 0, 0, 0, 0), (74, .getfield 43, 3, 2, 6, 0, 287), (77, .iload_n 3, 1, 0, 0, 0, 0), (78, .aaload, 1, 0, 0, 0, 0), (79, .getfield 90, 3, 1, 1, 1, 516)],
  [(82, .ifCond .le 25, 3, 107, 0, 0, 0), (85, .aload_n 0, 1, 0, 0, 0, 0), (86, .getfield 47, 3, 2, 7, 0, 288), (89, .getfield 131, 3, 3, 4, 1, 450), (92, .iconst 1, 1, 0, 0, 0, 0), (93, .iadd, 1, 0, 0, 0, 0), (94, .aload_n 0, 1, 0, 0, 0, 0), (95, .getfield 47, 3, 2, 7, 0, 288)],
  [(98, .getfield 131, 3, 3, 4, 1, 450), (101, .iconst 2, 1, 0, 0, 0, 0), (102, .irem, 1, 0, 0, 0, 0), (103, .iadd, 1, 0, 0, 0, 0), (104, .goto 4, 3, 108, 0, 0, 0), (107, .iconst 0, 1, 0, 0, 0, 0), (108, .istore 4, 2, 0, 0, 0, 0), (110, .iload_n 1, 1, 0, 0, 0, 0), (111, .ifCond .eq 28, 3, 139, 0, 0, 0)],
  [(114, .iload_n 2, 1, 0, 0, 0, 0), (115, .iload_n 3, 1, 0, 0, 0, 0), (116, .ishr, 1, 0, 0, 0, 0), (117, .iconst 1, 1, 0, 0, 0, 0), (118, .iand, 1, 0, 0, 0, 0), (119, .ifCond .ne 20, 3, 139, 0, 0, 0), (122, .aload_n 0, 1, 0, 0, 0, 0), (123, .getfield 47, 3, 2, 7, 0, 288), (126, .getfield 134, 3, 3, 7, 1, 460)],
  [(129, .iload_n 3, 1, 0, 0, 0, 0), (130, .aaload, 1, 0, 0, 0, 0), (131, .getfield 138, 3, 8, 0, 1, 393), (134, .iload 4, 2, 0, 0, 0, 0), (136, .if_icmp .eq 7, 3, 143, 0, 0, 0), (139, .iconst 1, 1, 0, 0, 0, 0), (140, .goto 4, 3, 144, 0, 0, 0), (143, .iconst 0, 1, 0, 0, 0, 0)],
  [(144, .istore 5, 2, 0, 0, 0, 0), (146, .iload 5, 2, 0, 0, 0, 0), (148, .ifCond .eq 10, 3, 158, 0, 0, 0), (151, .aload_n 0, 1, 0, 0, 0, 0), (152, .iload_n 3, 1, 0, 0, 0, 0), (153, .iload 4, 2, 0, 0, 0, 0), (155, .invokevirtual 143, 3, 18, 3, 20, 890), (158, .iload 5, 2, 0, 0, 0, 0)],
  [(160, .ifCond .eq 29, 3, 189, 0, 0, 0), (163, .iload 4, 2, 0, 0, 0, 0), (165, .ifCond .le 24, 3, 189, 0, 0, 0), (168, .aload_n 0, 1, 0, 0, 0, 0), (169, .getfield 21, 3, 2, 1, 0, 281), (172, .aload_n 0, 1, 0, 0, 0, 0), (173, .getfield 47, 3, 2, 7, 0, 288)],
  [(176, .getfield 134, 3, 3, 7, 1, 460), (179, .iload_n 3, 1, 0, 0, 0, 0), (180, .aaload, 1, 0, 0, 0, 0), (181, .invokevirtual 146, 3, 69, 2, 71, 972), (184, .ifCond .ne 5, 3, 189, 0, 0, 0), (187, .iconst 0, 1, 0, 0, 0, 0), (188, .ireturn, 1, 0, 0, 0, 0), (189, .aload_n 0, 1, 0, 0, 0, 0), (190, .getfield 47, 3, 2, 7, 0, 288)],
  [(193, .iload 4, 2, 0, 0, 0, 0), (195, .ifCond .le 23, 3, 218, 0, 0, 0), (198, .iload 4, 2, 0, 0, 0, 0), (200, .aload_n 0, 1, 0, 0, 0, 0), (201, .getfield 47, 3, 2, 7, 0, 288), (204, .getfield 134, 3, 3, 7, 1, 460), (207, .iload_n 3, 1, 0, 0, 0, 0)],
  [(208, .aaload, 1, 0, 0, 0, 0), (209, .getfield 150, 3, 8, 1, 1, 397), (212, .iadd, 1, 0, 0, 0, 0), (213, .iconst 1, 1, 0, 0, 0, 0), (214, .isub, 1, 0, 0, 0, 0), (215, .goto 10, 3, 225, 0, 0, 0), (218, .aload_n 0, 1, 0, 0, 0, 0), (219, .getfield 47, 3, 2, 7, 0, 288), (222, .getfield 131, 3, 3, 4, 1, 450)],
  [(225, .putfield 131, 3, 3, 4, 1, 450), (228, .iinc 3 1, 3, 0, 0, 0, 0), (231, .goto (-163), 3, 68, 0, 0, 0), (234, .aload_n 0, 1, 0, 0, 0, 0), (235, .invokevirtual 151, 3, 20, 1, 20, 1298), (238, .iconst 1, 1, 0, 0, 0, 0), (239, .ireturn, 1, 0, 0, 0, 0)]], [], 2, 6)
def qc_X2_breakParagraphs : qCd := ([[(0, .iconst 0, 1, 0, 0, 0, 0), (1, .istore_n 1, 1, 0, 0, 0, 0), (2, .iconst 0, 1, 0, 0, 0, 0), (3, .istore_n 2, 1, 0, 0, 0, 0), (4, .iload_n 2, 1, 0, 0, 0, 0), (5, .iconst 3, 1, 0, 0, 0, 0), (6, .if_icmp .ge 74, 3, 80, 0, 0, 0), (9, .iconst 0, 1, 0, 0, 0, 0), (10, .istore_n 3, 1, 0, 0, 0, 0), (11, .iload_n 3, 1, 0, 0, 0, 0), (12, .aload_n 0, 1, 0, 0, 0, 0), (13, .getfield 43, 3, 2, 6, 0, 287)],
  [(16, .iload_n 2, 1, 0, 0, 0, 0), (17, .aaload, 1, 0, 0, 0, 0), (18, .getfield 90, 3, 1, 1, 1, 516), (21, .if_icmp .ge 53, 3, 74, 0, 0, 0), (24, .aload_n 0, 1, 0, 0, 0, 0), (25, .getfield 12, 3, 2, 0, 0, 280), (28, .aload_n 0, 1, 0, 0, 0, 0), (29, .getfield 43, 3, 2, 6, 0, 287)],
  [(32, .iload_n 2, 1, 0, 0, 0, 0), (33, .aaload, 1, 0, 0, 0, 0), (34, .getfield 86, 3, 1, 0, 1, 510), (37, .iload_n 3, 1, 0, 0, 0, 0), (38, .aaload, 1, 0, 0, 0, 0), (39, .aload_n 0, 1, 0, 0, 0, 0), (40, .getfield 47, 3, 2, 7, 0, 288), (43, .getfield 154, 3, 3, 0, 1, 440), (46, .invokevirtual 157, 3, 1, 3, 1, 865)],
  [(49, .ifCond .eq 19, 3, 68, 0, 0, 0), (52, .iload_n 1, 1, 0, 0, 0, 0), (53, .iconst 1, 1, 0, 0, 0, 0), (54, .iload_n 2, 1, 0, 0, 0, 0), (55, .ishl, 1, 0, 0, 0, 0), (56, .ior, 1, 0, 0, 0, 0), (57, .istore_n 1, 1, 0, 0, 0, 0), (58, .aload_n 0, 1, 0, 0, 0, 0), (59, .dup, 1, 0, 0, 0, 0), (60, .getfield 54, 3, 2, 9, 0, 290), (63, .iconst 1, 1, 0, 0, 0, 0)],
  [(64, .iadd, 1, 0, 0, 0, 0), (65, .putfield 54, 3, 2, 9, 0, 290), (68, .iinc 3 1, 3, 0, 0, 0, 0), (71, .goto (-60), 3, 11, 0, 0, 0), (74, .iinc 2 1, 3, 0, 0, 0, 0), (77, .goto (-73), 3, 4, 0, 0, 0)],
  [(80, .iload_n 1, 1, 0, 0, 0, 0), (81, .ireturn, 1, 0, 0, 0, 0)]], [], 1, 4)
def qc_X2_beginChapter : qCd := ([[(0, .aload_n 0, 1, 0, 0, 0, 0), (1, .getfield 47, 3, 2, 7, 0, 288), (4, .getfield 161, 3, 3, 6, 1, 456), (7, .iload_n 1, 1, 0, 0, 0, 0), (8, .aaload, 1, 0, 0, 0, 0), (9, .aload_n 0, 1, 0, 0, 0, 0), (10, .getfield 43, 3, 2, 6, 0, 287), (13, .iload_n 1, 1, 0, 0, 0, 0), (14, .aaload, 1, 0, 0, 0, 0), (15, .invokevirtual 165, 3, 88, 2, 91, 894)],
  [(18, .aload_n 0, 1, 0, 0, 0, 0), (19, .getfield 47, 3, 2, 7, 0, 288), (22, .getfield 134, 3, 3, 7, 1, 460), (25, .iload_n 1, 1, 0, 0, 0, 0), (26, .aaload, 1, 0, 0, 0, 0), (27, .iload_n 2, 1, 0, 0, 0, 0), (28, .invokevirtual 171, 3, 80, 2, 81, 910), (31, .aload_n 0, 1, 0, 0, 0, 0)],
  [(32, .getfield 21, 3, 2, 1, 0, 281), (35, .aload_n 0, 1, 0, 0, 0, 0), (36, .getfield 47, 3, 2, 7, 0, 288), (39, .getfield 161, 3, 3, 6, 1, 456), (42, .iload_n 1, 1, 0, 0, 0, 0), (43, .aaload, 1, 0, 0, 0, 0), (44, .aload_n 0, 1, 0, 0, 0, 0), (45, .getfield 47, 3, 2, 7, 0, 288)],
  [(48, .getfield 175, 3, 3, 1, 1, 443), (51, .invokevirtual 178, 3, 57, 3, 71, 914), (54, .aload_n 0, 1, 0, 0, 0, 0), (55, .iload_n 1, 1, 0, 0, 0, 0), (56, .invokevirtual 181, 3, 19, 2, 20, 918), (59, .return_, 1, 0, 0, 0, 0)]], [], 0, 3)
def qc_X2_keepPages : qCd := ([[(0, .aload_n 0, 1, 0, 0, 0, 0), (1, .getfield 51, 3, 2, 8, 0, 289), (4, .ifnull 64, 3, 68, 0, 0, 0), (7, .aload_n 0, 1, 0, 0, 0, 0), (8, .getfield 51, 3, 2, 8, 0, 289), (11, .getfield 154, 3, 3, 0, 1, 440), (14, .aload_n 0, 1, 0, 0, 0, 0), (15, .getfield 47, 3, 2, 7, 0, 288)],
  [(18, .getfield 154, 3, 3, 0, 1, 440), (21, .if_icmp .ne 47, 3, 68, 0, 0, 0), (24, .aload_n 0, 1, 0, 0, 0, 0), (25, .getfield 51, 3, 2, 8, 0, 289), (28, .getfield 175, 3, 3, 1, 1, 443), (31, .aload_n 0, 1, 0, 0, 0, 0)],
  [(32, .getfield 47, 3, 2, 7, 0, 288), (35, .getfield 175, 3, 3, 1, 1, 443), (38, .if_icmp .ne 30, 3, 68, 0, 0, 0), (41, .aload_n 0, 1, 0, 0, 0, 0), (42, .getfield 51, 3, 2, 8, 0, 289), (45, .getfield 134, 3, 3, 7, 1, 460)],
  [(48, .iload_n 1, 1, 0, 0, 0, 0), (49, .aaload, 1, 0, 0, 0, 0), (50, .getfield 138, 3, 8, 0, 1, 393), (53, .aload_n 0, 1, 0, 0, 0, 0), (54, .getfield 47, 3, 2, 7, 0, 288), (57, .getfield 134, 3, 3, 7, 1, 460), (60, .iload_n 1, 1, 0, 0, 0, 0), (61, .aaload, 1, 0, 0, 0, 0), (62, .getfield 138, 3, 8, 0, 1, 393)],
  [(65, .if_icmp .eq 4, 3, 69, 0, 0, 0), (68, .return_, 1, 0, 0, 0, 0), (69, .aload_n 0, 1, 0, 0, 0, 0), (70, .getfield 51, 3, 2, 8, 0, 289), (73, .getfield 134, 3, 3, 7, 1, 460), (76, .iload_n 1, 1, 0, 0, 0, 0), (77, .aaload, 1, 0, 0, 0, 0), (78, .astore_n 2, 1, 0, 0, 0, 0), (79, .iconst 0, 1, 0, 0, 0, 0)],
  [(80, .istore_n 3, 1, 0, 0, 0, 0), (81, .iconst 0, 1, 0, 0, 0, 0), (82, .istore 4, 2, 0, 0, 0, 0), (84, .iload 4, 2, 0, 0, 0, 0), (86, .aload_n 2, 1, 0, 0, 0, 0), (87, .getfield 184, 3, 8, 2, 1, 402), (90, .iconst 1, 1, 0, 0, 0, 0), (91, .isub, 1, 0, 0, 0, 0), (92, .if_icmp .ge 78, 3, 170, 0, 0, 0), (95, .iload_n 3, 1, 0, 0, 0, 0)],
  [(96, .aload_n 2, 1, 0, 0, 0, 0), (97, .getfield 187, 3, 8, 4, 1, 409), (100, .iload 4, 2, 0, 0, 0, 0), (102, .iaload, 1, 0, 0, 0, 0), (103, .if_icmp .ge 27, 3, 130, 0, 0, 0), (106, .aload_n 0, 1, 0, 0, 0, 0), (107, .getfield 47, 3, 2, 7, 0, 288), (110, .aload_n 0, 1, 0, 0, 0, 0), (111, .getfield 51, 3, 2, 8, 0, 289)],
  [(114, .iload_n 1, 1, 0, 0, 0, 0), (115, .iload_n 3, 1, 0, 0, 0, 0), (116, .iload_n 3, 1, 0, 0, 0, 0), (117, .invokevirtual 190, 3, 30, 5, 31, 922), (120, .ifCond .ne 4, 3, 124, 0, 0, 0), (123, .return_, 1, 0, 0, 0, 0), (124, .iinc 3 1, 3, 0, 0, 0, 0), (127, .goto (-32), 3, 95, 0, 0, 0)],
  [(130, .aload_n 0, 1, 0, 0, 0, 0), (131, .getfield 21, 3, 2, 1, 0, 281), (134, .aload_n 0, 1, 0, 0, 0, 0), (135, .getfield 47, 3, 2, 7, 0, 288), (138, .getfield 134, 3, 3, 7, 1, 460), (141, .iload_n 1, 1, 0, 0, 0, 0), (142, .aaload, 1, 0, 0, 0, 0), (143, .aload_n 2, 1, 0, 0, 0, 0)],
  [(144, .getfield 187, 3, 8, 4, 1, 409), (147, .iload 4, 2, 0, 0, 0, 0), (149, .iaload, 1, 0, 0, 0, 0), (150, .aload_n 2, 1, 0, 0, 0, 0), (151, .iload 4, 2, 0, 0, 0, 0), (153, .iconst 1, 1, 0, 0, 0, 0), (154, .invokevirtual 194, 3, 86, 3, 81, 930), (157, .invokevirtual 197, 3, 67, 4, 71, 946)],
  [(160, .ifCond .ne 4, 3, 164, 0, 0, 0), (163, .return_, 1, 0, 0, 0, 0), (164, .iinc 4 1, 3, 0, 0, 0, 0), (167, .goto (-83), 3, 84, 0, 0, 0), (170, .return_, 1, 0, 0, 0, 0)]], [], 0, 5)
def qc_X2_readPages : qCd := ([[(0, .aload_n 0, 1, 0, 0, 0, 0), (1, .getfield 38, 3, 2, 5, 0, 286), (4, .iconst 0, 1, 0, 0, 0, 0), (5, .invokestatic 201, 3, 267, 2, 2, 1302), (8, .iconst 0, 1, 0, 0, 0, 0), (9, .istore_n 1, 1, 0, 0, 0, 0), (10, .iload_n 1, 1, 0, 0, 0, 0), (11, .iconst 3, 1, 0, 0, 0, 0), (12, .if_icmp .ge 57, 3, 69, 0, 0, 0), (15, .iconst 0, 1, 0, 0, 0, 0)],
  [(16, .istore_n 2, 1, 0, 0, 0, 0), (17, .iconst 0, 1, 0, 0, 0, 0), (18, .istore_n 3, 1, 0, 0, 0, 0), (19, .iload_n 3, 1, 0, 0, 0, 0), (20, .aload_n 0, 1, 0, 0, 0, 0), (21, .getfield 47, 3, 2, 7, 0, 288), (24, .getfield 134, 3, 3, 7, 1, 460), (27, .iload_n 1, 1, 0, 0, 0, 0), (28, .aaload, 1, 0, 0, 0, 0), (29, .getfield 184, 3, 8, 2, 1, 402)],
  [(32, .if_icmp .ge 31, 3, 63, 0, 0, 0), (35, .aload_n 0, 1, 0, 0, 0, 0), (36, .iload_n 1, 1, 0, 0, 0, 0), (37, .iload_n 3, 1, 0, 0, 0, 0), (38, .aload_n 0, 1, 0, 0, 0, 0), (39, .getfield 47, 3, 2, 7, 0, 288), (42, .getfield 103, 3, 3, 2, 1, 446), (45, .ifCond .eq 7, 3, 52, 0, 0, 0)],
  [(48, .iconst 0, 1, 0, 0, 0, 0), (49, .goto 4, 3, 53, 0, 0, 0), (52, .iload_n 2, 1, 0, 0, 0, 0), (53, .invokevirtual 207, 3, 21, 4, 20, 1303), (56, .istore_n 2, 1, 0, 0, 0, 0), (57, .iinc 3 1, 3, 0, 0, 0, 0), (60, .goto (-41), 3, 19, 0, 0, 0), (63, .iinc 1 1, 3, 0, 0, 0, 0)],
  [(66, .goto (-56), 3, 10, 0, 0, 0), (69, .iconst 0, 1, 0, 0, 0, 0), (70, .istore_n 1, 1, 0, 0, 0, 0), (71, .iload_n 1, 1, 0, 0, 0, 0), (72, .aload_n 0, 1, 0, 0, 0, 0), (73, .getfield 29, 3, 2, 3, 0, 284), (76, .if_icmp .ge 75, 3, 151, 0, 0, 0), (79, .aload_n 0, 1, 0, 0, 0, 0)],
  [(80, .getfield 25, 3, 2, 2, 0, 283), (83, .iload_n 1, 1, 0, 0, 0, 0), (84, .iaload, 1, 0, 0, 0, 0), (85, .istore_n 2, 1, 0, 0, 0, 0), (86, .aload_n 0, 1, 0, 0, 0, 0), (87, .iload_n 2, 1, 0, 0, 0, 0), (88, .invokevirtual 118, 3, 13, 2, 20, 857), (91, .astore_n 3, 1, 0, 0, 0, 0), (92, .aload_n 3, 1, 0, 0, 0, 0), (93, .getfield 96, 3, 5, 5, 1, 69)],
  [(96, .iload_n 2, 1, 0, 0, 0, 0), (97, .bipush 20, 2, 0, 0, 0, 0), (99, .irem, 1, 0, 0, 0, 0), (100, .iaload, 1, 0, 0, 0, 0), (101, .bipush 6, 2, 0, 0, 0, 0), (103, .if_icmp .ne 42, 3, 145, 0, 0, 0), (106, .aload_n 0, 1, 0, 0, 0, 0), (107, .getfield 38, 3, 2, 5, 0, 286), (110, .aload_n 3, 1, 0, 0, 0, 0), (111, .getfield 210, 3, 5, 6, 1, 75)],
  [(114, .iload_n 2, 1, 0, 0, 0, 0), (115, .bipush 20, 2, 0, 0, 0, 0), (117, .irem, 1, 0, 0, 0, 0), (118, .iaload, 1, 0, 0, 0, 0), (119, .iaload, 1, 0, 0, 0, 0), (120, .istore 4, 2, 0, 0, 0, 0), (122, .aload_n 0, 1, 0, 0, 0, 0), (123, .getfield 47, 3, 2, 7, 0, 288), (126, .getfield 213, 3, 3, 10, 1, 467)],
  [(129, .iload_n 2, 1, 0, 0, 0, 0), (130, .aload_n 0, 1, 0, 0, 0, 0), (131, .getfield 47, 3, 2, 7, 0, 288), (134, .getfield 216, 3, 3, 9, 1, 465), (137, .iload_n 2, 1, 0, 0, 0, 0), (138, .iaload, 1, 0, 0, 0, 0), (139, .iload 4, 2, 0, 0, 0, 0), (141, .invokestatic 219, 3, 22, 2, 22, 1308)],
  [(144, .iastore, 1, 0, 0, 0, 0), (145, .iinc 1 1, 3, 0, 0, 0, 0), (148, .goto (-77), 3, 71, 0, 0, 0), (151, .return_, 1, 0, 0, 0, 0)]], [], 0, 5)
def qc_X2_readPage : qCd := ([[(0, .aload_n 0, 1, 0, 0, 0, 0), (1, .getfield 47, 3, 2, 7, 0, 288), (4, .getfield 161, 3, 3, 6, 1, 456), (7, .iload_n 1, 1, 0, 0, 0, 0), (8, .aaload, 1, 0, 0, 0, 0), (9, .astore 4, 2, 0, 0, 0, 0), (11, .aload_n 0, 1, 0, 0, 0, 0), (12, .getfield 47, 3, 2, 7, 0, 288), (15, .getfield 134, 3, 3, 7, 1, 460)],
  [(18, .iload_n 1, 1, 0, 0, 0, 0), (19, .aaload, 1, 0, 0, 0, 0), (20, .getfield 138, 3, 8, 0, 1, 393), (23, .iload_n 2, 1, 0, 0, 0, 0), (24, .iadd, 1, 0, 0, 0, 0), (25, .istore 5, 2, 0, 0, 0, 0), (27, .iload_n 3, 1, 0, 0, 0, 0), (28, .istore 6, 2, 0, 0, 0, 0), (30, .aload_n 0, 1, 0, 0, 0, 0), (31, .getfield 47, 3, 2, 7, 0, 288)],
  [(34, .getfield 134, 3, 3, 7, 1, 460), (37, .iload_n 1, 1, 0, 0, 0, 0), (38, .aaload, 1, 0, 0, 0, 0), (39, .iload_n 2, 1, 0, 0, 0, 0), (40, .invokevirtual 222, 3, 82, 2, 81, 1307), (43, .istore 7, 2, 0, 0, 0, 0), (45, .iload 7, 2, 0, 0, 0, 0), (47, .aload_n 0, 1, 0, 0, 0, 0)],
  [(48, .getfield 47, 3, 2, 7, 0, 288), (51, .getfield 134, 3, 3, 7, 1, 460), (54, .iload_n 1, 1, 0, 0, 0, 0), (55, .aaload, 1, 0, 0, 0, 0), (56, .getfield 187, 3, 8, 4, 1, 409), (59, .iload_n 2, 1, 0, 0, 0, 0), (60, .iaload, 1, 0, 0, 0, 0), (61, .if_icmp .ge 174, 3, 235, 0, 0, 0)],
  [(64, .aload_n 0, 1, 0, 0, 0, 0), (65, .getfield 43, 3, 2, 6, 0, 287), (68, .iload_n 1, 1, 0, 0, 0, 0), (69, .aaload, 1, 0, 0, 0, 0), (70, .getfield 86, 3, 1, 0, 1, 510), (73, .aload 4, 2, 0, 0, 0, 0), (75, .getfield 225, 3, 9, 1, 1, 163), (78, .iload 7, 2, 0, 0, 0, 0)],
  [(80, .iaload, 1, 0, 0, 0, 0), (81, .aaload, 1, 0, 0, 0, 0), (82, .astore 8, 2, 0, 0, 0, 0), (84, .aload 4, 2, 0, 0, 0, 0), (86, .getfield 228, 3, 9, 2, 1, 167), (89, .iload 7, 2, 0, 0, 0, 0), (91, .iaload, 1, 0, 0, 0, 0), (92, .istore 9, 2, 0, 0, 0, 0), (94, .iload 9, 2, 0, 0, 0, 0)],
  [(96, .aload 4, 2, 0, 0, 0, 0), (98, .getfield 231, 3, 9, 3, 1, 171), (101, .iload 7, 2, 0, 0, 0, 0), (103, .iaload, 1, 0, 0, 0, 0), (104, .if_icmp .ge 125, 3, 229, 0, 0, 0), (107, .iload_n 1, 1, 0, 0, 0, 0), (108, .aload 4, 2, 0, 0, 0, 0), (110, .getfield 225, 3, 9, 1, 1, 163)],
  [(113, .iload 7, 2, 0, 0, 0, 0), (115, .iaload, 1, 0, 0, 0, 0), (116, .iload 9, 2, 0, 0, 0, 0), (118, .invokestatic 99, 3, 147, 3, 103, 839), (121, .istore 10, 2, 0, 0, 0, 0), (123, .iload 6, 2, 0, 0, 0, 0), (125, .aload 8, 2, 0, 0, 0, 0), (127, .getfield 96, 3, 5, 5, 1, 69)],
  [(130, .iload 9, 2, 0, 0, 0, 0), (132, .iaload, 1, 0, 0, 0, 0), (133, .iconst 2, 1, 0, 0, 0, 0), (134, .if_icmp .ne 7, 3, 141, 0, 0, 0), (137, .iconst 1, 1, 0, 0, 0, 0), (138, .goto 4, 3, 142, 0, 0, 0), (141, .iconst 0, 1, 0, 0, 0, 0), (142, .iadd, 1, 0, 0, 0, 0), (143, .istore 6, 2, 0, 0, 0, 0)],
  [(145, .aload_n 0, 1, 0, 0, 0, 0), (146, .getfield 47, 3, 2, 7, 0, 288), (149, .getfield 216, 3, 3, 9, 1, 465), (152, .iload 10, 2, 0, 0, 0, 0), (154, .iload 5, 2, 0, 0, 0, 0), (156, .iastore, 1, 0, 0, 0, 0), (157, .aload_n 0, 1, 0, 0, 0, 0), (158, .getfield 47, 3, 2, 7, 0, 288)],
  [(161, .getfield 234, 3, 3, 11, 1, 470), (164, .iload 10, 2, 0, 0, 0, 0), (166, .aload 8, 2, 0, 0, 0, 0), (168, .getfield 96, 3, 5, 5, 1, 69), (171, .iload 9, 2, 0, 0, 0, 0), (173, .iaload, 1, 0, 0, 0, 0), (174, .iconst 2, 1, 0, 0, 0, 0), (175, .if_icmp .ne 8, 3, 183, 0, 0, 0)],
  [(178, .iload 6, 2, 0, 0, 0, 0), (180, .goto 4, 3, 184, 0, 0, 0), (183, .iconst 0, 1, 0, 0, 0, 0), (184, .iastore, 1, 0, 0, 0, 0), (185, .aload_n 0, 1, 0, 0, 0, 0), (186, .getfield 47, 3, 2, 7, 0, 288), (189, .getfield 213, 3, 3, 10, 1, 467)],
  [(192, .iload 10, 2, 0, 0, 0, 0), (194, .iconst (-1), 1, 0, 0, 0, 0), (195, .iastore, 1, 0, 0, 0, 0), (196, .aload 8, 2, 0, 0, 0, 0), (198, .getfield 96, 3, 5, 5, 1, 69), (201, .iload 9, 2, 0, 0, 0, 0), (203, .iaload, 1, 0, 0, 0, 0), (204, .iconst 1, 1, 0, 0, 0, 0), (205, .if_icmp .ne 18, 3, 223, 0, 0, 0)],
  [(208, .aload_n 0, 1, 0, 0, 0, 0), (209, .getfield 38, 3, 2, 5, 0, 286), (212, .aload 8, 2, 0, 0, 0, 0), (214, .getfield 210, 3, 5, 6, 1, 75), (217, .iload 9, 2, 0, 0, 0, 0), (219, .iaload, 1, 0, 0, 0, 0), (220, .iload 5, 2, 0, 0, 0, 0), (222, .iastore, 1, 0, 0, 0, 0), (223, .iinc 9 1, 3, 0, 0, 0, 0)],
  [(226, .goto (-132), 3, 94, 0, 0, 0), (229, .iinc 7 1, 3, 0, 0, 0, 0), (232, .goto (-187), 3, 45, 0, 0, 0), (235, .iload 6, 2, 0, 0, 0, 0), (237, .ireturn, 1, 0, 0, 0, 0)]], [], 1, 11)
def qc_X2_textFor : qCd := ([[(0, .iload_n 1, 1, 0, 0, 0, 0), (1, .ifCond .ne 5, 3, 6, 0, 0, 0), (4, .iconst 0, 1, 0, 0, 0, 0), (5, .ireturn, 1, 0, 0, 0, 0), (6, .iload_n 1, 1, 0, 0, 0, 0), (7, .iload_n 0, 1, 0, 0, 0, 0), (8, .if_icmp .ne 5, 3, 13, 0, 0, 0), (11, .iconst 1, 1, 0, 0, 0, 0), (12, .ireturn, 1, 0, 0, 0, 0), (13, .iload_n 1, 1, 0, 0, 0, 0), (14, .iload_n 0, 1, 0, 0, 0, 0), (15, .iconst 1, 1, 0, 0, 0, 0)],
  [(16, .iadd, 1, 0, 0, 0, 0), (17, .if_icmp .ne 14, 3, 31, 0, 0, 0), (20, .iload_n 0, 1, 0, 0, 0, 0), (21, .iconst 2, 1, 0, 0, 0, 0), (22, .irem, 1, 0, 0, 0, 0), (23, .iconst 1, 1, 0, 0, 0, 0), (24, .if_icmp .ne 7, 3, 31, 0, 0, 0), (27, .iconst 1, 1, 0, 0, 0, 0), (28, .goto 4, 3, 32, 0, 0, 0), (31, .iconst 0, 1, 0, 0, 0, 0)],
  [(32, .istore_n 2, 1, 0, 0, 0, 0), (33, .iload_n 2, 1, 0, 0, 0, 0), (34, .ifCond .eq 7, 3, 41, 0, 0, 0), (37, .iconst 2, 1, 0, 0, 0, 0), (38, .goto 7, 3, 45, 0, 0, 0), (41, .bipush 10, 2, 0, 0, 0, 0), (43, .iload_n 1, 1, 0, 0, 0, 0), (44, .iadd, 1, 0, 0, 0, 0), (45, .ireturn, 1, 0, 0, 0, 0)]], [], 1, 3)
def qc_X2_findWidths : qCd := ([[(0, .iconst 0, 1, 0, 0, 0, 0), (1, .istore_n 2, 1, 0, 0, 0, 0), (2, .iload_n 2, 1, 0, 0, 0, 0), (3, .aload_n 0, 1, 0, 0, 0, 0), (4, .getfield 29, 3, 2, 3, 0, 284), (7, .if_icmp .ge 75, 3, 82, 0, 0, 0), (10, .aload_n 0, 1, 0, 0, 0, 0), (11, .getfield 25, 3, 2, 2, 0, 283), (14, .iload_n 2, 1, 0, 0, 0, 0), (15, .iaload, 1, 0, 0, 0, 0)],
  [(16, .istore_n 3, 1, 0, 0, 0, 0), (17, .aload_n 0, 1, 0, 0, 0, 0), (18, .iload_n 3, 1, 0, 0, 0, 0), (19, .invokevirtual 118, 3, 13, 2, 20, 857), (22, .getfield 96, 3, 5, 5, 1, 69), (25, .iload_n 3, 1, 0, 0, 0, 0), (26, .bipush 20, 2, 0, 0, 0, 0), (28, .irem, 1, 0, 0, 0, 0), (29, .iaload, 1, 0, 0, 0, 0), (30, .iconst 2, 1, 0, 0, 0, 0), (31, .if_icmp .ne 7, 3, 38, 0, 0, 0)],
  [(34, .iconst 1, 1, 0, 0, 0, 0), (35, .goto 4, 3, 39, 0, 0, 0), (38, .iconst 0, 1, 0, 0, 0, 0), (39, .istore 4, 2, 0, 0, 0, 0), (41, .aload_n 1, 1, 0, 0, 0, 0), (42, .iload_n 2, 1, 0, 0, 0, 0), (43, .iload 4, 2, 0, 0, 0, 0), (45, .ifCond .eq 18, 3, 63, 0, 0, 0)],
  [(48, .aload_n 0, 1, 0, 0, 0, 0), (49, .getfield 47, 3, 2, 7, 0, 288), (52, .getfield 234, 3, 3, 11, 1, 470), (55, .iload_n 3, 1, 0, 0, 0, 0), (56, .iaload, 1, 0, 0, 0, 0), (57, .invokestatic 108, 3, 148, 1, 103, 842), (60, .goto 15, 3, 75, 0, 0, 0), (63, .aload_n 0, 1, 0, 0, 0, 0)],
  [(64, .getfield 47, 3, 2, 7, 0, 288), (67, .getfield 213, 3, 3, 10, 1, 467), (70, .iload_n 3, 1, 0, 0, 0, 0), (71, .iaload, 1, 0, 0, 0, 0), (72, .invokestatic 115, 3, 149, 1, 103, 849), (75, .iastore, 1, 0, 0, 0, 0), (76, .iinc 2 1, 3, 0, 0, 0, 0), (79, .goto (-77), 3, 2, 0, 0, 0)],
  [(82, .return_, 1, 0, 0, 0, 0)]], [], 0, 5)
def qc_X2_roundThatTook : qCd := ([[(0, .iconst 0, 1, 0, 0, 0, 0), (1, .istore_n 3, 1, 0, 0, 0, 0), (2, .iload_n 3, 1, 0, 0, 0, 0), (3, .iload_n 2, 1, 0, 0, 0, 0), (4, .if_icmp .gt 54, 3, 58, 0, 0, 0), (7, .iconst 0, 1, 0, 0, 0, 0), (8, .istore 4, 2, 0, 0, 0, 0), (10, .iload 4, 2, 0, 0, 0, 0), (12, .aload_n 0, 1, 0, 0, 0, 0), (13, .getfield 29, 3, 2, 3, 0, 284)],
  [(16, .if_icmp .ge 25, 3, 41, 0, 0, 0), (19, .aload_n 0, 1, 0, 0, 0, 0), (20, .getfield 35, 3, 2, 4, 0, 285), (23, .iload_n 3, 1, 0, 0, 0, 0), (24, .aaload, 1, 0, 0, 0, 0), (25, .iload 4, 2, 0, 0, 0, 0), (27, .iaload, 1, 0, 0, 0, 0), (28, .aload_n 1, 1, 0, 0, 0, 0), (29, .iload 4, 2, 0, 0, 0, 0), (31, .iaload, 1, 0, 0, 0, 0)],
  [(32, .if_icmp .ne 9, 3, 41, 0, 0, 0), (35, .iinc 4 1, 3, 0, 0, 0, 0), (38, .goto (-28), 3, 10, 0, 0, 0), (41, .iload 4, 2, 0, 0, 0, 0), (43, .aload_n 0, 1, 0, 0, 0, 0), (44, .getfield 29, 3, 2, 3, 0, 284), (47, .if_icmp .ne 5, 3, 52, 0, 0, 0)],
  [(50, .iload_n 3, 1, 0, 0, 0, 0), (51, .ireturn, 1, 0, 0, 0, 0), (52, .iinc 3 1, 3, 0, 0, 0, 0), (55, .goto (-53), 3, 2, 0, 0, 0), (58, .iconst (-1), 1, 0, 0, 0, 0), (59, .ireturn, 1, 0, 0, 0, 0)]], [], 1, 5)
def qc_X3_init : qCd := ([[(0, .aload_n 0, 1, 0, 0, 0, 0), (1, .invokespecial 3, 3, 0, 1, 6, 379), (4, .aload_n 0, 1, 0, 0, 0, 0), (5, .iconst 0, 1, 0, 0, 0, 0), (6, .putfield 9, 3, 3, 0, 0, 439), (9, .aload_n 0, 1, 0, 0, 0, 0), (10, .iconst 0, 1, 0, 0, 0, 0), (11, .putfield 15, 3, 3, 1, 0, 441), (14, .aload_n 0, 1, 0, 0, 0, 0), (15, .iconst 0, 1, 0, 0, 0, 0)],
  [(16, .putfield 18, 3, 3, 2, 0, 445), (19, .aload_n 0, 1, 0, 0, 0, 0), (20, .iconst 0, 1, 0, 0, 0, 0), (21, .putfield 22, 3, 3, 3, 0, 447), (24, .aload_n 0, 1, 0, 0, 0, 0), (25, .iconst 0, 1, 0, 0, 0, 0), (26, .putfield 25, 3, 3, 4, 0, 449), (29, .aload_n 0, 1, 0, 0, 0, 0), (30, .iconst 0, 1, 0, 0, 0, 0), (31, .putfield 28, 3, 3, 5, 0, 452)],
  [(34, .aload_n 0, 1, 0, 0, 0, 0), (35, .iconst 3, 1, 0, 0, 0, 0), (36, .anewarray 31, 3, 0, 21, 0, 380), (39, .putfield 33, 3, 3, 6, 0, 454), (42, .aload_n 0, 1, 0, 0, 0, 0), (43, .iconst 3, 1, 0, 0, 0, 0), (44, .anewarray 37, 3, 0, 22, 0, 382), (47, .putfield 39, 3, 3, 7, 0, 458)],
  [(50, .aload_n 0, 1, 0, 0, 0, 0), (51, .bipush 30, 2, 0, 0, 0, 0), (53, .newarray .int, 2, 0, 23, 0, 0), (55, .putfield 43, 3, 3, 8, 0, 462), (58, .aload_n 0, 1, 0, 0, 0, 0), (59, .sipush 600, 3, 0, 0, 0, 0), (62, .newarray .int, 2, 0, 24, 0, 0)],
  [(64, .putfield 47, 3, 3, 9, 0, 463), (67, .aload_n 0, 1, 0, 0, 0, 0), (68, .sipush 600, 3, 0, 0, 0, 0), (71, .newarray .int, 2, 0, 25, 0, 0), (73, .putfield 50, 3, 3, 10, 0, 466), (76, .aload_n 0, 1, 0, 0, 0, 0), (77, .sipush 600, 3, 0, 0, 0, 0)],
  [(80, .newarray .int, 2, 0, 26, 0, 0), (82, .putfield 53, 3, 3, 11, 0, 469), (85, .iconst 0, 1, 0, 0, 0, 0), (86, .istore_n 1, 1, 0, 0, 0, 0), (87, .iload_n 1, 1, 0, 0, 0, 0), (88, .iconst 3, 1, 0, 0, 0, 0), (89, .if_icmp .ge 35, 3, 124, 0, 0, 0), (92, .aload_n 0, 1, 0, 0, 0, 0), (93, .getfield 33, 3, 3, 6, 0, 454)],
  [(96, .iload_n 1, 1, 0, 0, 0, 0), (97, .new 31, 3, 0, 9, 0, 380), (100, .dup, 1, 0, 0, 0, 0), (101, .invokespecial 56, 3, 87, 1, 95, 384), (104, .aastore, 1, 0, 0, 0, 0), (105, .aload_n 0, 1, 0, 0, 0, 0), (106, .getfield 39, 3, 3, 7, 0, 458), (109, .iload_n 1, 1, 0, 0, 0, 0), (110, .new 37, 3, 0, 8, 0, 382)],
  [(113, .dup, 1, 0, 0, 0, 0), (114, .invokespecial 57, 3, 79, 1, 85, 386), (117, .aastore, 1, 0, 0, 0, 0), (118, .iinc 1 1, 3, 0, 0, 0, 0), (121, .goto (-34), 3, 87, 0, 0, 0), (124, .return_, 1, 0, 0, 0, 0)]], [], 0, 2)
def qc_X3_begin : qCd := ([[(0, .aload_n 0, 1, 0, 0, 0, 0), (1, .iload_n 2, 1, 0, 0, 0, 0), (2, .putfield 9, 3, 3, 0, 0, 439), (5, .aload_n 0, 1, 0, 0, 0, 0), (6, .iload_n 3, 1, 0, 0, 0, 0), (7, .putfield 15, 3, 3, 1, 0, 441), (10, .aload_n 0, 1, 0, 0, 0, 0), (11, .iload 4, 2, 0, 0, 0, 0), (13, .putfield 18, 3, 3, 2, 0, 445)],
  [(16, .iconst 0, 1, 0, 0, 0, 0), (17, .istore 5, 2, 0, 0, 0, 0), (19, .iconst 0, 1, 0, 0, 0, 0), (20, .istore 6, 2, 0, 0, 0, 0), (22, .iload 6, 2, 0, 0, 0, 0), (24, .iconst 3, 1, 0, 0, 0, 0), (25, .if_icmp .ge 91, 3, 116, 0, 0, 0), (28, .iload 5, 2, 0, 0, 0, 0), (30, .aload_n 1, 1, 0, 0, 0, 0), (31, .iload 6, 2, 0, 0, 0, 0)],
  [(33, .aaload, 1, 0, 0, 0, 0), (34, .invokevirtual 58, 3, 9, 1, 11, 827), (37, .iadd, 1, 0, 0, 0, 0), (38, .istore 5, 2, 0, 0, 0, 0), (40, .iconst 0, 1, 0, 0, 0, 0), (41, .istore 7, 2, 0, 0, 0, 0), (43, .iload 7, 2, 0, 0, 0, 0), (45, .bipush 10, 2, 0, 0, 0, 0), (47, .if_icmp .ge 63, 3, 110, 0, 0, 0)],
  [(50, .iload 7, 2, 0, 0, 0, 0), (52, .aload_n 1, 1, 0, 0, 0, 0), (53, .iload 6, 2, 0, 0, 0, 0), (55, .aaload, 1, 0, 0, 0, 0), (56, .getfield 64, 3, 1, 1, 1, 515), (59, .if_icmp .ge 7, 3, 66, 0, 0, 0), (62, .iconst 1, 1, 0, 0, 0, 0), (63, .goto 4, 3, 67, 0, 0, 0)],
  [(66, .iconst 0, 1, 0, 0, 0, 0), (67, .istore 8, 2, 0, 0, 0, 0), (69, .aload_n 0, 1, 0, 0, 0, 0), (70, .getfield 43, 3, 3, 8, 0, 462), (73, .iload 6, 2, 0, 0, 0, 0), (75, .bipush 10, 2, 0, 0, 0, 0), (77, .imul, 1, 0, 0, 0, 0), (78, .iload 7, 2, 0, 0, 0, 0)],
  [(80, .iadd, 1, 0, 0, 0, 0), (81, .iload 8, 2, 0, 0, 0, 0), (83, .ifCond .eq 19, 3, 102, 0, 0, 0), (86, .aload_n 1, 1, 0, 0, 0, 0), (87, .iload 6, 2, 0, 0, 0, 0), (89, .aaload, 1, 0, 0, 0, 0), (90, .getfield 67, 3, 1, 0, 1, 508), (93, .iload 7, 2, 0, 0, 0, 0), (95, .aaload, 1, 0, 0, 0, 0)],
  [(96, .getfield 71, 3, 5, 3, 1, 62), (99, .goto 4, 3, 103, 0, 0, 0), (102, .iconst 0, 1, 0, 0, 0, 0), (103, .iastore, 1, 0, 0, 0, 0), (104, .iinc 7 1, 3, 0, 0, 0, 0), (107, .goto (-64), 3, 43, 0, 0, 0), (110, .iinc 6 1, 3, 0, 0, 0, 0)],
  [(113, .goto (-91), 3, 22, 0, 0, 0), (116, .aload_n 0, 1, 0, 0, 0, 0), (117, .iload_n 3, 1, 0, 0, 0, 0), (118, .ifCond .le 14, 3, 132, 0, 0, 0), (121, .iload 5, 2, 0, 0, 0, 0), (123, .iload_n 3, 1, 0, 0, 0, 0), (124, .iadd, 1, 0, 0, 0, 0), (125, .iconst 1, 1, 0, 0, 0, 0), (126, .isub, 1, 0, 0, 0, 0), (127, .iload_n 3, 1, 0, 0, 0, 0)],
  [(128, .idiv, 1, 0, 0, 0, 0), (129, .goto 4, 3, 133, 0, 0, 0), (132, .iconst 0, 1, 0, 0, 0, 0), (133, .putfield 22, 3, 3, 3, 0, 447), (136, .aload_n 0, 1, 0, 0, 0, 0), (137, .dup, 1, 0, 0, 0, 0), (138, .getfield 22, 3, 3, 3, 0, 447), (141, .aload_n 0, 1, 0, 0, 0, 0), (142, .getfield 22, 3, 3, 3, 0, 447)],
  [(145, .iconst 2, 1, 0, 0, 0, 0), (146, .irem, 1, 0, 0, 0, 0), (147, .iadd, 1, 0, 0, 0, 0), (148, .putfield 22, 3, 3, 3, 0, 447), (151, .return_, 1, 0, 0, 0, 0)]], [], 0, 9)
def qc_X3_kindAt : qCd := ([[(0, .iload_n 1, 1, 0, 0, 0, 0), (1, .aload_n 0, 1, 0, 0, 0, 0), (2, .getfield 22, 3, 3, 3, 0, 447), (5, .if_icmp .gt 5, 3, 10, 0, 0, 0), (8, .iconst 3, 1, 0, 0, 0, 0), (9, .ireturn, 1, 0, 0, 0, 0), (10, .iconst 0, 1, 0, 0, 0, 0), (11, .istore_n 2, 1, 0, 0, 0, 0), (12, .iload_n 2, 1, 0, 0, 0, 0), (13, .iconst 3, 1, 0, 0, 0, 0), (14, .if_icmp .ge 49, 3, 63, 0, 0, 0)],
  [(17, .aload_n 0, 1, 0, 0, 0, 0), (18, .getfield 39, 3, 3, 7, 0, 458), (21, .iload_n 2, 1, 0, 0, 0, 0), (22, .aaload, 1, 0, 0, 0, 0), (23, .getfield 75, 3, 8, 0, 1, 392), (26, .aload_n 0, 1, 0, 0, 0, 0), (27, .getfield 39, 3, 3, 7, 0, 458), (30, .iload_n 2, 1, 0, 0, 0, 0), (31, .aaload, 1, 0, 0, 0, 0)],
  [(32, .getfield 78, 3, 8, 1, 1, 396), (35, .iadd, 1, 0, 0, 0, 0), (36, .istore_n 3, 1, 0, 0, 0, 0), (37, .iload_n 1, 1, 0, 0, 0, 0), (38, .aload_n 0, 1, 0, 0, 0, 0), (39, .getfield 39, 3, 3, 7, 0, 458), (42, .iload_n 2, 1, 0, 0, 0, 0), (43, .aaload, 1, 0, 0, 0, 0), (44, .getfield 75, 3, 8, 0, 1, 392), (47, .if_icmp .lt 10, 3, 57, 0, 0, 0)],
  [(50, .iload_n 1, 1, 0, 0, 0, 0), (51, .iload_n 3, 1, 0, 0, 0, 0), (52, .if_icmp .ge 5, 3, 57, 0, 0, 0), (55, .iload_n 2, 1, 0, 0, 0, 0), (56, .ireturn, 1, 0, 0, 0, 0), (57, .iinc 2 1, 3, 0, 0, 0, 0), (60, .goto (-48), 3, 12, 0, 0, 0), (63, .iload_n 1, 1, 0, 0, 0, 0)],
  [(64, .aload_n 0, 1, 0, 0, 0, 0), (65, .getfield 25, 3, 3, 4, 0, 449), (68, .if_icmp .le 7, 3, 75, 0, 0, 0), (71, .iconst 5, 1, 0, 0, 0, 0), (72, .goto 4, 3, 76, 0, 0, 0), (75, .iconst 4, 1, 0, 0, 0, 0), (76, .ireturn, 1, 0, 0, 0, 0)]], [], 1, 4)
def qc_X3_runningHead : qCd := ([[(0, .aload_n 0, 1, 0, 0, 0, 0), (1, .getfield 33, 3, 3, 6, 0, 454), (4, .iload_n 1, 1, 0, 0, 0, 0), (5, .aaload, 1, 0, 0, 0, 0), (6, .astore 4, 2, 0, 0, 0, 0), (8, .iload_n 2, 1, 0, 0, 0, 0), (9, .aload_n 0, 1, 0, 0, 0, 0), (10, .getfield 39, 3, 3, 7, 0, 458), (13, .iload_n 1, 1, 0, 0, 0, 0), (14, .aaload, 1, 0, 0, 0, 0), (15, .getfield 75, 3, 8, 0, 1, 392)],
  [(18, .isub, 1, 0, 0, 0, 0), (19, .istore 5, 2, 0, 0, 0, 0), (21, .aload_n 0, 1, 0, 0, 0, 0), (22, .getfield 39, 3, 3, 7, 0, 458), (25, .iload_n 1, 1, 0, 0, 0, 0), (26, .aaload, 1, 0, 0, 0, 0), (27, .iload 5, 2, 0, 0, 0, 0), (29, .invokevirtual 79, 3, 82, 2, 81, 1553)],
  [(32, .istore 6, 2, 0, 0, 0, 0), (34, .iconst (-1), 1, 0, 0, 0, 0), (35, .istore 7, 2, 0, 0, 0, 0), (37, .iload 6, 2, 0, 0, 0, 0), (39, .istore 8, 2, 0, 0, 0, 0), (41, .iload 8, 2, 0, 0, 0, 0), (43, .aload_n 0, 1, 0, 0, 0, 0), (44, .getfield 39, 3, 3, 7, 0, 458), (47, .iload_n 1, 1, 0, 0, 0, 0)],
  [(48, .aaload, 1, 0, 0, 0, 0), (49, .getfield 83, 3, 8, 4, 1, 407), (52, .iload 5, 2, 0, 0, 0, 0), (54, .iaload, 1, 0, 0, 0, 0), (55, .if_icmp .ge 33, 3, 88, 0, 0, 0), (58, .aload 4, 2, 0, 0, 0, 0), (60, .getfield 86, 3, 9, 4, 1, 173), (63, .iload 8, 2, 0, 0, 0, 0)],
  [(65, .iaload, 1, 0, 0, 0, 0), (66, .ifCond .le 16, 3, 82, 0, 0, 0), (69, .iload_n 3, 1, 0, 0, 0, 0), (70, .ifCond .ne 8, 3, 78, 0, 0, 0), (73, .iload 7, 2, 0, 0, 0, 0), (75, .ifCond .ge 7, 3, 82, 0, 0, 0), (78, .iload 8, 2, 0, 0, 0, 0)],
  [(80, .istore 7, 2, 0, 0, 0, 0), (82, .iinc 8 1, 3, 0, 0, 0, 0), (85, .goto (-44), 3, 41, 0, 0, 0), (88, .iload 6, 2, 0, 0, 0, 0), (90, .iconst 1, 1, 0, 0, 0, 0), (91, .isub, 1, 0, 0, 0, 0), (92, .istore 8, 2, 0, 0, 0, 0), (94, .iload 8, 2, 0, 0, 0, 0)],
  [(96, .ifCond .lt 29, 3, 125, 0, 0, 0), (99, .iload 7, 2, 0, 0, 0, 0), (101, .ifCond .ge 24, 3, 125, 0, 0, 0), (104, .aload 4, 2, 0, 0, 0, 0), (106, .getfield 86, 3, 9, 4, 1, 173), (109, .iload 8, 2, 0, 0, 0, 0), (111, .iaload, 1, 0, 0, 0, 0)],
  [(112, .ifCond .le 7, 3, 119, 0, 0, 0), (115, .iload 8, 2, 0, 0, 0, 0), (117, .istore 7, 2, 0, 0, 0, 0), (119, .iinc 8 (-1), 3, 0, 0, 0, 0), (122, .goto (-28), 3, 94, 0, 0, 0), (125, .iload 7, 2, 0, 0, 0, 0), (127, .ifCond .ge 7, 3, 134, 0, 0, 0)],
  [(130, .iconst (-1), 1, 0, 0, 0, 0), (131, .goto 11, 3, 142, 0, 0, 0), (134, .aload 4, 2, 0, 0, 0, 0), (136, .getfield 89, 3, 9, 1, 1, 162), (139, .iload 7, 2, 0, 0, 0, 0), (141, .iaload, 1, 0, 0, 0, 0), (142, .ireturn, 1, 0, 0, 0, 0)]], [], 1, 9)
def qc_X3_hasSameItem : qCd := ([[(0, .aload_n 0, 1, 0, 0, 0, 0), (1, .getfield 43, 3, 3, 8, 0, 462), (4, .iload_n 2, 1, 0, 0, 0, 0), (5, .bipush 10, 2, 0, 0, 0, 0), (7, .imul, 1, 0, 0, 0, 0), (8, .iload_n 3, 1, 0, 0, 0, 0), (9, .iadd, 1, 0, 0, 0, 0), (10, .iaload, 1, 0, 0, 0, 0), (11, .aload_n 1, 1, 0, 0, 0, 0), (12, .getfield 43, 3, 3, 8, 0, 462), (15, .iload_n 2, 1, 0, 0, 0, 0)],
  [(16, .bipush 10, 2, 0, 0, 0, 0), (18, .imul, 1, 0, 0, 0, 0), (19, .iload_n 3, 1, 0, 0, 0, 0), (20, .iadd, 1, 0, 0, 0, 0), (21, .iaload, 1, 0, 0, 0, 0), (22, .if_icmp .ne 7, 3, 29, 0, 0, 0), (25, .iconst 1, 1, 0, 0, 0, 0), (26, .goto 4, 3, 30, 0, 0, 0), (29, .iconst 0, 1, 0, 0, 0, 0), (30, .ireturn, 1, 0, 0, 0, 0)]], [], 2, 4)
def qc_X3_hasSameRow : qCd := ([[(0, .aload_n 0, 1, 0, 0, 0, 0), (1, .getfield 33, 3, 3, 6, 0, 454), (4, .iload_n 2, 1, 0, 0, 0, 0), (5, .aaload, 1, 0, 0, 0, 0), (6, .astore 5, 2, 0, 0, 0, 0), (8, .aload_n 1, 1, 0, 0, 0, 0), (9, .getfield 33, 3, 3, 6, 0, 454), (12, .iload_n 2, 1, 0, 0, 0, 0), (13, .aaload, 1, 0, 0, 0, 0), (14, .astore 6, 2, 0, 0, 0, 0)],
  [(16, .iload_n 3, 1, 0, 0, 0, 0), (17, .aload 5, 2, 0, 0, 0, 0), (19, .getfield 92, 3, 9, 0, 1, 158), (22, .if_icmp .ge 87, 3, 109, 0, 0, 0), (25, .iload 4, 2, 0, 0, 0, 0), (27, .aload 6, 2, 0, 0, 0, 0), (29, .getfield 92, 3, 9, 0, 1, 158)],
  [(32, .if_icmp .ge 77, 3, 109, 0, 0, 0), (35, .aload 5, 2, 0, 0, 0, 0), (37, .getfield 89, 3, 9, 1, 1, 162), (40, .iload_n 3, 1, 0, 0, 0, 0), (41, .iaload, 1, 0, 0, 0, 0), (42, .aload 6, 2, 0, 0, 0, 0), (44, .getfield 89, 3, 9, 1, 1, 162), (47, .iload 4, 2, 0, 0, 0, 0)],
  [(49, .iaload, 1, 0, 0, 0, 0), (50, .if_icmp .ne 59, 3, 109, 0, 0, 0), (53, .aload 5, 2, 0, 0, 0, 0), (55, .getfield 93, 3, 9, 2, 1, 166), (58, .iload_n 3, 1, 0, 0, 0, 0), (59, .iaload, 1, 0, 0, 0, 0), (60, .aload 6, 2, 0, 0, 0, 0), (62, .getfield 93, 3, 9, 2, 1, 166)],
  [(65, .iload 4, 2, 0, 0, 0, 0), (67, .iaload, 1, 0, 0, 0, 0), (68, .if_icmp .ne 41, 3, 109, 0, 0, 0), (71, .aload 5, 2, 0, 0, 0, 0), (73, .getfield 96, 3, 9, 3, 1, 170), (76, .iload_n 3, 1, 0, 0, 0, 0), (77, .iaload, 1, 0, 0, 0, 0), (78, .aload 6, 2, 0, 0, 0, 0)],
  [(80, .getfield 96, 3, 9, 3, 1, 170), (83, .iload 4, 2, 0, 0, 0, 0), (85, .iaload, 1, 0, 0, 0, 0), (86, .if_icmp .ne 23, 3, 109, 0, 0, 0), (89, .aload_n 0, 1, 0, 0, 0, 0), (90, .aload_n 1, 1, 0, 0, 0, 0), (91, .iload_n 2, 1, 0, 0, 0, 0), (92, .aload 5, 2, 0, 0, 0, 0), (94, .getfield 89, 3, 9, 1, 1, 162)],
  [(97, .iload_n 3, 1, 0, 0, 0, 0), (98, .iaload, 1, 0, 0, 0, 0), (99, .invokevirtual 99, 3, 29, 4, 30, 926), (102, .ifCond .eq 7, 3, 109, 0, 0, 0), (105, .iconst 1, 1, 0, 0, 0, 0), (106, .goto 4, 3, 110, 0, 0, 0), (109, .iconst 0, 1, 0, 0, 0, 0), (110, .ireturn, 1, 0, 0, 0, 0)]], [], 2, 7)
def qc_X3_hasSamePage : qCd := ([[(0, .aload_n 0, 1, 0, 0, 0, 0), (1, .iload_n 2, 1, 0, 0, 0, 0), (2, .invokevirtual 103, 3, 27, 2, 30, 1625), (5, .istore_n 3, 1, 0, 0, 0, 0), (6, .iload_n 3, 1, 0, 0, 0, 0), (7, .aload_n 1, 1, 0, 0, 0, 0), (8, .iload_n 2, 1, 0, 0, 0, 0), (9, .invokevirtual 103, 3, 27, 2, 30, 1625), (12, .if_icmp .eq 5, 3, 17, 0, 0, 0), (15, .iconst 0, 1, 0, 0, 0, 0)],
  [(16, .ireturn, 1, 0, 0, 0, 0), (17, .iload_n 3, 1, 0, 0, 0, 0), (18, .iconst 3, 1, 0, 0, 0, 0), (19, .if_icmp .lt 5, 3, 24, 0, 0, 0), (22, .iconst 1, 1, 0, 0, 0, 0), (23, .ireturn, 1, 0, 0, 0, 0), (24, .iload_n 2, 1, 0, 0, 0, 0), (25, .aload_n 0, 1, 0, 0, 0, 0), (26, .getfield 39, 3, 3, 7, 0, 458), (29, .iload_n 3, 1, 0, 0, 0, 0), (30, .aaload, 1, 0, 0, 0, 0), (31, .getfield 75, 3, 8, 0, 1, 392)],
  [(34, .isub, 1, 0, 0, 0, 0), (35, .istore 4, 2, 0, 0, 0, 0), (37, .iload_n 2, 1, 0, 0, 0, 0), (38, .aload_n 1, 1, 0, 0, 0, 0), (39, .getfield 39, 3, 3, 7, 0, 458), (42, .iload_n 3, 1, 0, 0, 0, 0), (43, .aaload, 1, 0, 0, 0, 0), (44, .getfield 75, 3, 8, 0, 1, 392), (47, .isub, 1, 0, 0, 0, 0)],
  [(48, .istore 5, 2, 0, 0, 0, 0), (50, .aload_n 0, 1, 0, 0, 0, 0), (51, .getfield 39, 3, 3, 7, 0, 458), (54, .iload_n 3, 1, 0, 0, 0, 0), (55, .aaload, 1, 0, 0, 0, 0), (56, .getfield 106, 3, 8, 7, 1, 417), (59, .iload 4, 2, 0, 0, 0, 0), (61, .iaload, 1, 0, 0, 0, 0), (62, .aload_n 1, 1, 0, 0, 0, 0), (63, .getfield 39, 3, 3, 7, 0, 458)],
  [(66, .iload_n 3, 1, 0, 0, 0, 0), (67, .aaload, 1, 0, 0, 0, 0), (68, .getfield 106, 3, 8, 7, 1, 417), (71, .iload 5, 2, 0, 0, 0, 0), (73, .iaload, 1, 0, 0, 0, 0), (74, .if_icmp .ne 46, 3, 120, 0, 0, 0), (77, .aload_n 0, 1, 0, 0, 0, 0), (78, .aload_n 1, 1, 0, 0, 0, 0), (79, .iload_n 3, 1, 0, 0, 0, 0)],
  [(80, .iload 4, 2, 0, 0, 0, 0), (82, .iload 5, 2, 0, 0, 0, 0), (84, .invokevirtual 109, 3, 32, 5, 30, 1626), (87, .ifCond .eq 33, 3, 120, 0, 0, 0), (90, .aload_n 0, 1, 0, 0, 0, 0), (91, .aload_n 1, 1, 0, 0, 0, 0), (92, .iload_n 3, 1, 0, 0, 0, 0), (93, .iload 4, 2, 0, 0, 0, 0), (95, .iload 5, 2, 0, 0, 0, 0)],
  [(97, .invokevirtual 113, 3, 34, 5, 30, 1636), (100, .ifCond .eq 20, 3, 120, 0, 0, 0), (103, .aload_n 0, 1, 0, 0, 0, 0), (104, .aload_n 1, 1, 0, 0, 0, 0), (105, .iload_n 3, 1, 0, 0, 0, 0), (106, .iload 4, 2, 0, 0, 0, 0), (108, .iload 5, 2, 0, 0, 0, 0), (110, .invokevirtual 116, 3, 35, 5, 30, 1645)],
  [(113, .ifCond .eq 7, 3, 120, 0, 0, 0), (116, .iconst 1, 1, 0, 0, 0, 0), (117, .goto 4, 3, 121, 0, 0, 0), (120, .iconst 0, 1, 0, 0, 0, 0), (121, .ireturn, 1, 0, 0, 0, 0)]], [], 2, 6)
def qc_X3_hasSameRows : qCd := ([[(0, .aload_n 0, 1, 0, 0, 0, 0), (1, .getfield 39, 3, 3, 7, 0, 458), (4, .iload_n 2, 1, 0, 0, 0, 0), (5, .aaload, 1, 0, 0, 0, 0), (6, .iload_n 3, 1, 0, 0, 0, 0), (7, .invokevirtual 79, 3, 82, 2, 81, 1553), (10, .istore 5, 2, 0, 0, 0, 0), (12, .aload_n 1, 1, 0, 0, 0, 0), (13, .getfield 39, 3, 3, 7, 0, 458)],
  [(16, .iload_n 2, 1, 0, 0, 0, 0), (17, .aaload, 1, 0, 0, 0, 0), (18, .iload 4, 2, 0, 0, 0, 0), (20, .invokevirtual 79, 3, 82, 2, 81, 1553), (23, .istore 6, 2, 0, 0, 0, 0), (25, .aload_n 0, 1, 0, 0, 0, 0), (26, .getfield 39, 3, 3, 7, 0, 458), (29, .iload_n 2, 1, 0, 0, 0, 0), (30, .aaload, 1, 0, 0, 0, 0), (31, .getfield 83, 3, 8, 4, 1, 407)],
  [(34, .iload_n 3, 1, 0, 0, 0, 0), (35, .iaload, 1, 0, 0, 0, 0), (36, .iload 5, 2, 0, 0, 0, 0), (38, .isub, 1, 0, 0, 0, 0), (39, .istore 7, 2, 0, 0, 0, 0), (41, .iload 7, 2, 0, 0, 0, 0), (43, .aload_n 1, 1, 0, 0, 0, 0), (44, .getfield 39, 3, 3, 7, 0, 458), (47, .iload_n 2, 1, 0, 0, 0, 0)],
  [(48, .aaload, 1, 0, 0, 0, 0), (49, .getfield 83, 3, 8, 4, 1, 407), (52, .iload 4, 2, 0, 0, 0, 0), (54, .iaload, 1, 0, 0, 0, 0), (55, .iload 6, 2, 0, 0, 0, 0), (57, .isub, 1, 0, 0, 0, 0), (58, .if_icmp .eq 5, 3, 63, 0, 0, 0), (61, .iconst 0, 1, 0, 0, 0, 0), (62, .ireturn, 1, 0, 0, 0, 0), (63, .iconst 0, 1, 0, 0, 0, 0)],
  [(64, .istore 8, 2, 0, 0, 0, 0), (66, .iload 8, 2, 0, 0, 0, 0), (68, .iload 7, 2, 0, 0, 0, 0), (70, .if_icmp .ge 44, 3, 114, 0, 0, 0), (73, .aload_n 0, 1, 0, 0, 0, 0), (74, .aload_n 1, 1, 0, 0, 0, 0), (75, .iload_n 2, 1, 0, 0, 0, 0), (76, .iload 5, 2, 0, 0, 0, 0), (78, .iload 8, 2, 0, 0, 0, 0)],
  [(80, .iadd, 1, 0, 0, 0, 0), (81, .iload 6, 2, 0, 0, 0, 0), (83, .iload 8, 2, 0, 0, 0, 0), (85, .iadd, 1, 0, 0, 0, 0), (86, .invokevirtual 119, 3, 30, 5, 30, 1630), (89, .ifCond .eq 17, 3, 106, 0, 0, 0), (92, .aload_n 0, 1, 0, 0, 0, 0), (93, .aload_n 1, 1, 0, 0, 0, 0), (94, .iload_n 2, 1, 0, 0, 0, 0), (95, .iload 5, 2, 0, 0, 0, 0)],
  [(97, .iload 8, 2, 0, 0, 0, 0), (99, .iadd, 1, 0, 0, 0, 0), (100, .invokevirtual 122, 3, 33, 4, 30, 1631), (103, .ifCond .ne 5, 3, 108, 0, 0, 0), (106, .iconst 0, 1, 0, 0, 0, 0), (107, .ireturn, 1, 0, 0, 0, 0), (108, .iinc 8 1, 3, 0, 0, 0, 0), (111, .goto (-45), 3, 66, 0, 0, 0)],
  [(114, .iconst 1, 1, 0, 0, 0, 0), (115, .ireturn, 1, 0, 0, 0, 0)]], [], 2, 9)
def qc_X3_hasSameTexts : qCd := ([[(0, .aload_n 0, 1, 0, 0, 0, 0), (1, .getfield 33, 3, 3, 6, 0, 454), (4, .iload_n 2, 1, 0, 0, 0, 0), (5, .aaload, 1, 0, 0, 0, 0), (6, .astore 4, 2, 0, 0, 0, 0), (8, .aload 4, 2, 0, 0, 0, 0), (10, .getfield 93, 3, 9, 2, 1, 166), (13, .iload_n 3, 1, 0, 0, 0, 0), (14, .iaload, 1, 0, 0, 0, 0), (15, .istore 5, 2, 0, 0, 0, 0)],
  [(17, .iload 5, 2, 0, 0, 0, 0), (19, .aload 4, 2, 0, 0, 0, 0), (21, .getfield 96, 3, 9, 3, 1, 170), (24, .iload_n 3, 1, 0, 0, 0, 0), (25, .iaload, 1, 0, 0, 0, 0), (26, .if_icmp .ge 60, 3, 86, 0, 0, 0), (29, .iload_n 2, 1, 0, 0, 0, 0), (30, .aload 4, 2, 0, 0, 0, 0)],
  [(32, .getfield 89, 3, 9, 1, 1, 162), (35, .iload_n 3, 1, 0, 0, 0, 0), (36, .iaload, 1, 0, 0, 0, 0), (37, .iload 5, 2, 0, 0, 0, 0), (39, .invokestatic 125, 3, 147, 3, 103, 1635), (42, .istore 6, 2, 0, 0, 0, 0), (44, .aload_n 0, 1, 0, 0, 0, 0), (45, .getfield 50, 3, 3, 10, 0, 466)],
  [(48, .iload 6, 2, 0, 0, 0, 0), (50, .iaload, 1, 0, 0, 0, 0), (51, .aload_n 1, 1, 0, 0, 0, 0), (52, .getfield 50, 3, 3, 10, 0, 466), (55, .iload 6, 2, 0, 0, 0, 0), (57, .iaload, 1, 0, 0, 0, 0), (58, .if_icmp .ne 20, 3, 78, 0, 0, 0), (61, .aload_n 0, 1, 0, 0, 0, 0), (62, .getfield 53, 3, 3, 11, 0, 469)],
  [(65, .iload 6, 2, 0, 0, 0, 0), (67, .iaload, 1, 0, 0, 0, 0), (68, .aload_n 1, 1, 0, 0, 0, 0), (69, .getfield 53, 3, 3, 11, 0, 469), (72, .iload 6, 2, 0, 0, 0, 0), (74, .iaload, 1, 0, 0, 0, 0), (75, .if_icmp .eq 5, 3, 80, 0, 0, 0), (78, .iconst 0, 1, 0, 0, 0, 0), (79, .ireturn, 1, 0, 0, 0, 0)],
  [(80, .iinc 5 1, 3, 0, 0, 0, 0), (83, .goto (-66), 3, 17, 0, 0, 0), (86, .iconst 1, 1, 0, 0, 0, 0), (87, .ireturn, 1, 0, 0, 0, 0)]], [], 2, 7)
def qc_X3_hasSameFloats : qCd := ([[(0, .aload_n 0, 1, 0, 0, 0, 0), (1, .getfield 39, 3, 3, 7, 0, 458), (4, .iload_n 2, 1, 0, 0, 0, 0), (5, .aaload, 1, 0, 0, 0, 0), (6, .iload_n 3, 1, 0, 0, 0, 0), (7, .invokevirtual 129, 3, 83, 2, 81, 1640), (10, .istore 5, 2, 0, 0, 0, 0), (12, .aload_n 1, 1, 0, 0, 0, 0), (13, .getfield 39, 3, 3, 7, 0, 458)],
  [(16, .iload_n 2, 1, 0, 0, 0, 0), (17, .aaload, 1, 0, 0, 0, 0), (18, .iload 4, 2, 0, 0, 0, 0), (20, .invokevirtual 129, 3, 83, 2, 81, 1640), (23, .istore 6, 2, 0, 0, 0, 0), (25, .aload_n 0, 1, 0, 0, 0, 0), (26, .getfield 39, 3, 3, 7, 0, 458), (29, .iload_n 2, 1, 0, 0, 0, 0), (30, .aaload, 1, 0, 0, 0, 0), (31, .getfield 132, 3, 8, 5, 1, 412)],
  [(34, .iload_n 3, 1, 0, 0, 0, 0), (35, .iaload, 1, 0, 0, 0, 0), (36, .iload 5, 2, 0, 0, 0, 0), (38, .isub, 1, 0, 0, 0, 0), (39, .istore 7, 2, 0, 0, 0, 0), (41, .iload 7, 2, 0, 0, 0, 0), (43, .aload_n 1, 1, 0, 0, 0, 0), (44, .getfield 39, 3, 3, 7, 0, 458), (47, .iload_n 2, 1, 0, 0, 0, 0)],
  [(48, .aaload, 1, 0, 0, 0, 0), (49, .getfield 132, 3, 8, 5, 1, 412), (52, .iload 4, 2, 0, 0, 0, 0), (54, .iaload, 1, 0, 0, 0, 0), (55, .iload 6, 2, 0, 0, 0, 0), (57, .isub, 1, 0, 0, 0, 0), (58, .if_icmp .ne 7, 3, 65, 0, 0, 0), (61, .iconst 1, 1, 0, 0, 0, 0), (62, .goto 4, 3, 66, 0, 0, 0)],
  [(65, .iconst 0, 1, 0, 0, 0, 0), (66, .istore 8, 2, 0, 0, 0, 0), (68, .iconst 0, 1, 0, 0, 0, 0), (69, .istore 9, 2, 0, 0, 0, 0), (71, .iload 9, 2, 0, 0, 0, 0), (73, .iload 7, 2, 0, 0, 0, 0), (75, .if_icmp .ge 52, 3, 127, 0, 0, 0), (78, .iload 8, 2, 0, 0, 0, 0)],
  [(80, .ifCond .eq 47, 3, 127, 0, 0, 0), (83, .aload_n 0, 1, 0, 0, 0, 0), (84, .aload_n 1, 1, 0, 0, 0, 0), (85, .iload_n 2, 1, 0, 0, 0, 0), (86, .aload_n 0, 1, 0, 0, 0, 0), (87, .getfield 33, 3, 3, 6, 0, 454), (90, .iload_n 2, 1, 0, 0, 0, 0), (91, .aaload, 1, 0, 0, 0, 0), (92, .getfield 135, 3, 9, 13, 1, 191), (95, .iload 5, 2, 0, 0, 0, 0)],
  [(97, .iload 9, 2, 0, 0, 0, 0), (99, .iadd, 1, 0, 0, 0, 0), (100, .iaload, 1, 0, 0, 0, 0), (101, .aload_n 1, 1, 0, 0, 0, 0), (102, .getfield 33, 3, 3, 6, 0, 454), (105, .iload_n 2, 1, 0, 0, 0, 0), (106, .aaload, 1, 0, 0, 0, 0), (107, .getfield 135, 3, 9, 13, 1, 191), (110, .iload 6, 2, 0, 0, 0, 0)],
  [(112, .iload 9, 2, 0, 0, 0, 0), (114, .iadd, 1, 0, 0, 0, 0), (115, .iaload, 1, 0, 0, 0, 0), (116, .invokevirtual 138, 3, 36, 5, 30, 1641), (119, .istore 8, 2, 0, 0, 0, 0), (121, .iinc 9 1, 3, 0, 0, 0, 0), (124, .goto (-53), 3, 71, 0, 0, 0), (127, .iload 8, 2, 0, 0, 0, 0)],
  [(129, .ireturn, 1, 0, 0, 0, 0)]], [], 2, 10)
def qc_X3_hasSameNotes : qCd := ([[(0, .aload_n 0, 1, 0, 0, 0, 0), (1, .getfield 39, 3, 3, 7, 0, 458), (4, .iload_n 2, 1, 0, 0, 0, 0), (5, .aaload, 1, 0, 0, 0, 0), (6, .iload_n 3, 1, 0, 0, 0, 0), (7, .invokevirtual 141, 3, 84, 2, 81, 1649), (10, .istore 5, 2, 0, 0, 0, 0), (12, .aload_n 1, 1, 0, 0, 0, 0), (13, .getfield 39, 3, 3, 7, 0, 458)],
  [(16, .iload_n 2, 1, 0, 0, 0, 0), (17, .aaload, 1, 0, 0, 0, 0), (18, .iload 4, 2, 0, 0, 0, 0), (20, .invokevirtual 141, 3, 84, 2, 81, 1649), (23, .istore 6, 2, 0, 0, 0, 0), (25, .aload_n 0, 1, 0, 0, 0, 0), (26, .getfield 39, 3, 3, 7, 0, 458), (29, .iload_n 2, 1, 0, 0, 0, 0), (30, .aaload, 1, 0, 0, 0, 0), (31, .getfield 144, 3, 8, 6, 1, 414)],
  [(34, .iload_n 3, 1, 0, 0, 0, 0), (35, .iaload, 1, 0, 0, 0, 0), (36, .iload 5, 2, 0, 0, 0, 0), (38, .isub, 1, 0, 0, 0, 0), (39, .istore 7, 2, 0, 0, 0, 0), (41, .iload 7, 2, 0, 0, 0, 0), (43, .aload_n 1, 1, 0, 0, 0, 0), (44, .getfield 39, 3, 3, 7, 0, 458), (47, .iload_n 2, 1, 0, 0, 0, 0)],
  [(48, .aaload, 1, 0, 0, 0, 0), (49, .getfield 144, 3, 8, 6, 1, 414), (52, .iload 4, 2, 0, 0, 0, 0), (54, .iaload, 1, 0, 0, 0, 0), (55, .iload 6, 2, 0, 0, 0, 0), (57, .isub, 1, 0, 0, 0, 0), (58, .if_icmp .ne 7, 3, 65, 0, 0, 0), (61, .iconst 1, 1, 0, 0, 0, 0), (62, .goto 4, 3, 66, 0, 0, 0)],
  [(65, .iconst 0, 1, 0, 0, 0, 0), (66, .istore 8, 2, 0, 0, 0, 0), (68, .iconst 0, 1, 0, 0, 0, 0), (69, .istore 9, 2, 0, 0, 0, 0), (71, .iload 9, 2, 0, 0, 0, 0), (73, .iload 7, 2, 0, 0, 0, 0), (75, .if_icmp .ge 52, 3, 127, 0, 0, 0), (78, .iload 8, 2, 0, 0, 0, 0)],
  [(80, .ifCond .eq 47, 3, 127, 0, 0, 0), (83, .aload_n 0, 1, 0, 0, 0, 0), (84, .aload_n 1, 1, 0, 0, 0, 0), (85, .iload_n 2, 1, 0, 0, 0, 0), (86, .aload_n 0, 1, 0, 0, 0, 0), (87, .getfield 33, 3, 3, 6, 0, 454), (90, .iload_n 2, 1, 0, 0, 0, 0), (91, .aaload, 1, 0, 0, 0, 0), (92, .getfield 147, 3, 9, 14, 1, 193), (95, .iload 5, 2, 0, 0, 0, 0)],
  [(97, .iload 9, 2, 0, 0, 0, 0), (99, .iadd, 1, 0, 0, 0, 0), (100, .iaload, 1, 0, 0, 0, 0), (101, .aload_n 1, 1, 0, 0, 0, 0), (102, .getfield 33, 3, 3, 6, 0, 454), (105, .iload_n 2, 1, 0, 0, 0, 0), (106, .aaload, 1, 0, 0, 0, 0), (107, .getfield 147, 3, 9, 14, 1, 193), (110, .iload 6, 2, 0, 0, 0, 0)],
  [(112, .iload 9, 2, 0, 0, 0, 0), (114, .iadd, 1, 0, 0, 0, 0), (115, .iaload, 1, 0, 0, 0, 0), (116, .invokevirtual 138, 3, 36, 5, 30, 1641), (119, .istore 8, 2, 0, 0, 0, 0), (121, .iinc 9 1, 3, 0, 0, 0, 0), (124, .goto (-53), 3, 71, 0, 0, 0), (127, .iload 8, 2, 0, 0, 0, 0)],
  [(129, .ireturn, 1, 0, 0, 0, 0)]], [], 2, 10)
def qc_X3_hasSamePiece : qCd := ([[(0, .iload_n 3, 1, 0, 0, 0, 0), (1, .iload 4, 2, 0, 0, 0, 0), (3, .if_icmp .ne 22, 3, 25, 0, 0, 0), (6, .aload_n 0, 1, 0, 0, 0, 0), (7, .aload_n 1, 1, 0, 0, 0, 0), (8, .iload_n 2, 1, 0, 0, 0, 0), (9, .iload_n 3, 1, 0, 0, 0, 0), (10, .iconst 4, 1, 0, 0, 0, 0), (11, .idiv, 1, 0, 0, 0, 0), (12, .bipush 20, 2, 0, 0, 0, 0), (14, .idiv, 1, 0, 0, 0, 0), (15, .invokevirtual 99, 3, 29, 4, 30, 926)],
  [(18, .ifCond .eq 7, 3, 25, 0, 0, 0), (21, .iconst 1, 1, 0, 0, 0, 0), (22, .goto 4, 3, 26, 0, 0, 0), (25, .iconst 0, 1, 0, 0, 0, 0), (26, .ireturn, 1, 0, 0, 0, 0)]], [], 2, 5)
def qc_X4_init : qCd := ([[(0, .aload_n 0, 1, 0, 0, 0, 0), (1, .invokespecial 3, 3, 0, 1, 6, 348), (4, .aload_n 0, 1, 0, 0, 0, 0), (5, .bipush 10, 2, 0, 0, 0, 0), (7, .newarray .int, 2, 0, 27, 0, 0), (9, .putfield 9, 3, 4, 0, 0, 350), (12, .aload_n 0, 1, 0, 0, 0, 0), (13, .bipush 10, 2, 0, 0, 0, 0), (15, .sipush 180, 3, 0, 0, 0, 0)],
  [(18, .multianewarray 15 2, 4, 0, 28, 29, 349), (22, .putfield 17, 3, 4, 1, 0, 352), (25, .aload_n 0, 1, 0, 0, 0, 0), (26, .bipush 10, 2, 0, 0, 0, 0), (28, .sipush 180, 3, 0, 0, 0, 0), (31, .multianewarray 15 2, 4, 0, 30, 31, 349)],
  [(35, .putfield 20, 3, 4, 2, 0, 354), (38, .aload_n 0, 1, 0, 0, 0, 0), (39, .iconst 0, 1, 0, 0, 0, 0), (40, .putfield 23, 3, 4, 3, 0, 356), (43, .aload_n 0, 1, 0, 0, 0, 0), (44, .iconst 0, 1, 0, 0, 0, 0), (45, .putfield 27, 3, 4, 4, 0, 358)],
  [(48, .aload_n 0, 1, 0, 0, 0, 0), (49, .iconst 0, 1, 0, 0, 0, 0), (50, .putfield 30, 3, 4, 5, 0, 360), (53, .return_, 1, 0, 0, 0, 0)]], [], 0, 1)
def qc_X4_collect : qCd := ([[(0, .aload_n 0, 1, 0, 0, 0, 0), (1, .getfield 9, 3, 4, 0, 0, 350), (4, .iconst 0, 1, 0, 0, 0, 0), (5, .invokestatic 33, 3, 267, 2, 2, 1358), (8, .iconst 0, 1, 0, 0, 0, 0), (9, .istore_n 3, 1, 0, 0, 0, 0), (10, .iload_n 3, 1, 0, 0, 0, 0), (11, .iconst 3, 1, 0, 0, 0, 0), (12, .if_icmp .ge 96, 3, 108, 0, 0, 0), (15, .iconst 0, 1, 0, 0, 0, 0)],
  [(16, .istore 4, 2, 0, 0, 0, 0), (18, .iload 4, 2, 0, 0, 0, 0), (20, .aload_n 1, 1, 0, 0, 0, 0), (21, .iload_n 3, 1, 0, 0, 0, 0), (22, .aaload, 1, 0, 0, 0, 0), (23, .getfield 39, 3, 1, 1, 1, 513), (26, .if_icmp .ge 76, 3, 102, 0, 0, 0), (29, .aload_n 1, 1, 0, 0, 0, 0), (30, .iload_n 3, 1, 0, 0, 0, 0), (31, .aaload, 1, 0, 0, 0, 0)],
  [(32, .getfield 43, 3, 1, 0, 1, 507), (35, .iload 4, 2, 0, 0, 0, 0), (37, .aaload, 1, 0, 0, 0, 0), (38, .astore 5, 2, 0, 0, 0, 0), (40, .iconst 0, 1, 0, 0, 0, 0), (41, .istore 6, 2, 0, 0, 0, 0), (43, .iload 6, 2, 0, 0, 0, 0), (45, .aload 5, 2, 0, 0, 0, 0), (47, .getfield 47, 3, 5, 2, 1, 58)],
  [(50, .if_icmp .ge 46, 3, 96, 0, 0, 0), (53, .aload 5, 2, 0, 0, 0, 0), (55, .getfield 50, 3, 5, 5, 1, 66), (58, .iload 6, 2, 0, 0, 0, 0), (60, .iaload, 1, 0, 0, 0, 0), (61, .iconst 4, 1, 0, 0, 0, 0), (62, .if_icmp .ne 28, 3, 90, 0, 0, 0)],
  [(65, .aload_n 0, 1, 0, 0, 0, 0), (66, .aload 5, 2, 0, 0, 0, 0), (68, .getfield 53, 3, 5, 6, 1, 72), (71, .iload 6, 2, 0, 0, 0, 0), (73, .iaload, 1, 0, 0, 0, 0), (74, .aload_n 2, 1, 0, 0, 0, 0), (75, .getfield 56, 3, 3, 9, 1, 464), (78, .iload_n 3, 1, 0, 0, 0, 0), (79, .iload 4, 2, 0, 0, 0, 0)],
  [(81, .iload 6, 2, 0, 0, 0, 0), (83, .invokestatic 61, 3, 147, 3, 103, 1359), (86, .iaload, 1, 0, 0, 0, 0), (87, .invokevirtual 65, 3, 39, 3, 40, 1360), (90, .iinc 6 1, 3, 0, 0, 0, 0), (93, .goto (-50), 3, 43, 0, 0, 0)],
  [(96, .iinc 4 1, 3, 0, 0, 0, 0), (99, .goto (-81), 3, 18, 0, 0, 0), (102, .iinc 3 1, 3, 0, 0, 0, 0), (105, .goto (-95), 3, 10, 0, 0, 0), (108, .return_, 1, 0, 0, 0, 0)]], [], 0, 7)
def qc_X4_addEntry : qCd := ([[(0, .aload_n 0, 1, 0, 0, 0, 0), (1, .getfield 9, 3, 4, 0, 0, 350), (4, .iload_n 1, 1, 0, 0, 0, 0), (5, .iaload, 1, 0, 0, 0, 0), (6, .iconst 1, 1, 0, 0, 0, 0), (7, .isub, 1, 0, 0, 0, 0), (8, .istore_n 3, 1, 0, 0, 0, 0), (9, .iload_n 3, 1, 0, 0, 0, 0), (10, .ifCond .lt 29, 3, 39, 0, 0, 0), (13, .iload_n 2, 1, 0, 0, 0, 0), (14, .aload_n 0, 1, 0, 0, 0, 0), (15, .getfield 20, 3, 4, 2, 0, 354)],
  [(18, .iload_n 1, 1, 0, 0, 0, 0), (19, .aaload, 1, 0, 0, 0, 0), (20, .iload_n 3, 1, 0, 0, 0, 0), (21, .iaload, 1, 0, 0, 0, 0), (22, .iconst 1, 1, 0, 0, 0, 0), (23, .iadd, 1, 0, 0, 0, 0), (24, .if_icmp .gt 15, 3, 39, 0, 0, 0), (27, .aload_n 0, 1, 0, 0, 0, 0), (28, .getfield 20, 3, 4, 2, 0, 354), (31, .iload_n 1, 1, 0, 0, 0, 0)],
  [(32, .aaload, 1, 0, 0, 0, 0), (33, .iload_n 3, 1, 0, 0, 0, 0), (34, .iload_n 2, 1, 0, 0, 0, 0), (35, .iastore, 1, 0, 0, 0, 0), (36, .goto 53, 3, 89, 0, 0, 0), (39, .aload_n 0, 1, 0, 0, 0, 0), (40, .getfield 9, 3, 4, 0, 0, 350), (43, .iload_n 1, 1, 0, 0, 0, 0), (44, .iaload, 1, 0, 0, 0, 0), (45, .sipush 180, 3, 0, 0, 0, 0)],
  [(48, .if_icmp .ge 41, 3, 89, 0, 0, 0), (51, .aload_n 0, 1, 0, 0, 0, 0), (52, .getfield 17, 3, 4, 1, 0, 352), (55, .iload_n 1, 1, 0, 0, 0, 0), (56, .aaload, 1, 0, 0, 0, 0), (57, .aload_n 0, 1, 0, 0, 0, 0), (58, .getfield 9, 3, 4, 0, 0, 350), (61, .iload_n 1, 1, 0, 0, 0, 0), (62, .iaload, 1, 0, 0, 0, 0), (63, .iload_n 2, 1, 0, 0, 0, 0)],
  [(64, .iastore, 1, 0, 0, 0, 0), (65, .aload_n 0, 1, 0, 0, 0, 0), (66, .getfield 20, 3, 4, 2, 0, 354), (69, .iload_n 1, 1, 0, 0, 0, 0), (70, .aaload, 1, 0, 0, 0, 0), (71, .aload_n 0, 1, 0, 0, 0, 0), (72, .getfield 9, 3, 4, 0, 0, 350), (75, .iload_n 1, 1, 0, 0, 0, 0), (76, .iaload, 1, 0, 0, 0, 0), (77, .iload_n 2, 1, 0, 0, 0, 0), (78, .iastore, 1, 0, 0, 0, 0), (79, .aload_n 0, 1, 0, 0, 0, 0)],
  [(80, .getfield 9, 3, 4, 0, 0, 350), (83, .iload_n 1, 1, 0, 0, 0, 0), (84, .dup2, 1, 0, 0, 0, 0), (85, .iaload, 1, 0, 0, 0, 0), (86, .iconst 1, 1, 0, 0, 0, 0), (87, .iadd, 1, 0, 0, 0, 0), (88, .iastore, 1, 0, 0, 0, 0), (89, .return_, 1, 0, 0, 0, 0)]], [], 0, 4)
def qc_X4_setLines : qCd := ([[(0, .aload_n 0, 1, 0, 0, 0, 0), (1, .iload_n 2, 1, 0, 0, 0, 0), (2, .putfield 30, 3, 4, 5, 0, 360), (5, .aload_n 0, 1, 0, 0, 0, 0), (6, .iconst 0, 1, 0, 0, 0, 0), (7, .putfield 23, 3, 4, 3, 0, 356), (10, .iconst 0, 1, 0, 0, 0, 0), (11, .istore_n 3, 1, 0, 0, 0, 0), (12, .iload_n 3, 1, 0, 0, 0, 0), (13, .bipush 10, 2, 0, 0, 0, 0), (15, .if_icmp .ge 42, 3, 57, 0, 0, 0)],
  [(18, .aload_n 0, 1, 0, 0, 0, 0), (19, .dup, 1, 0, 0, 0, 0), (20, .getfield 23, 3, 4, 3, 0, 356), (23, .aload_n 0, 1, 0, 0, 0, 0), (24, .getfield 9, 3, 4, 0, 0, 350), (27, .iload_n 3, 1, 0, 0, 0, 0), (28, .iaload, 1, 0, 0, 0, 0), (29, .iconst 3, 1, 0, 0, 0, 0), (30, .iadd, 1, 0, 0, 0, 0), (31, .iconst 1, 1, 0, 0, 0, 0)],
  [(32, .isub, 1, 0, 0, 0, 0), (33, .iconst 3, 1, 0, 0, 0, 0), (34, .idiv, 1, 0, 0, 0, 0), (35, .aload_n 1, 1, 0, 0, 0, 0), (36, .iload_n 3, 1, 0, 0, 0, 0), (37, .iaload, 1, 0, 0, 0, 0), (38, .ifCond .lt 7, 3, 45, 0, 0, 0), (41, .iconst 1, 1, 0, 0, 0, 0), (42, .goto 4, 3, 46, 0, 0, 0), (45, .iconst 0, 1, 0, 0, 0, 0), (46, .iadd, 1, 0, 0, 0, 0), (47, .iadd, 1, 0, 0, 0, 0)],
  [(48, .putfield 23, 3, 4, 3, 0, 356), (51, .iinc 3 1, 3, 0, 0, 0, 0), (54, .goto (-42), 3, 12, 0, 0, 0), (57, .aload_n 0, 1, 0, 0, 0, 0), (58, .iload_n 2, 1, 0, 0, 0, 0), (59, .ifCond .le 20, 3, 79, 0, 0, 0), (62, .aload_n 0, 1, 0, 0, 0, 0), (63, .getfield 23, 3, 4, 3, 0, 356)],
  [(66, .iconst 2, 1, 0, 0, 0, 0), (67, .iload_n 2, 1, 0, 0, 0, 0), (68, .imul, 1, 0, 0, 0, 0), (69, .iadd, 1, 0, 0, 0, 0), (70, .iconst 1, 1, 0, 0, 0, 0), (71, .isub, 1, 0, 0, 0, 0), (72, .iconst 2, 1, 0, 0, 0, 0), (73, .iload_n 2, 1, 0, 0, 0, 0), (74, .imul, 1, 0, 0, 0, 0), (75, .idiv, 1, 0, 0, 0, 0), (76, .goto 4, 3, 80, 0, 0, 0), (79, .iconst 0, 1, 0, 0, 0, 0)],
  [(80, .putfield 27, 3, 4, 4, 0, 358), (83, .return_, 1, 0, 0, 0, 0)]], [], 0, 4)
def qc_X4_pageWith : qCd := ([[(0, .aload_n 0, 1, 0, 0, 0, 0), (1, .getfield 30, 3, 4, 5, 0, 360), (4, .ifCond .le 14, 3, 18, 0, 0, 0), (7, .iload_n 1, 1, 0, 0, 0, 0), (8, .iconst 2, 1, 0, 0, 0, 0), (9, .aload_n 0, 1, 0, 0, 0, 0), (10, .getfield 30, 3, 4, 5, 0, 360), (13, .imul, 1, 0, 0, 0, 0), (14, .idiv, 1, 0, 0, 0, 0), (15, .goto 4, 3, 19, 0, 0, 0)],
  [(18, .iconst 0, 1, 0, 0, 0, 0), (19, .ireturn, 1, 0, 0, 0, 0)]], [], 1, 2)
def qc_X4_columnOf : qCd := ([[(0, .aload_n 0, 1, 0, 0, 0, 0), (1, .iload_n 1, 1, 0, 0, 0, 0), (2, .invokevirtual 69, 3, 41, 2, 40, 1598), (5, .istore_n 2, 1, 0, 0, 0, 0), (6, .iload_n 2, 1, 0, 0, 0, 0), (7, .aload_n 0, 1, 0, 0, 0, 0), (8, .getfield 27, 3, 4, 4, 0, 358), (11, .iconst 1, 1, 0, 0, 0, 0), (12, .isub, 1, 0, 0, 0, 0), (13, .if_icmp .ne 7, 3, 20, 0, 0, 0)],
  [(16, .iconst 1, 1, 0, 0, 0, 0), (17, .goto 4, 3, 21, 0, 0, 0), (20, .iconst 0, 1, 0, 0, 0, 0), (21, .istore_n 3, 1, 0, 0, 0, 0), (22, .iload_n 3, 1, 0, 0, 0, 0), (23, .ifCond .eq 19, 3, 42, 0, 0, 0), (26, .aload_n 0, 1, 0, 0, 0, 0), (27, .getfield 23, 3, 4, 3, 0, 356), (30, .iload_n 2, 1, 0, 0, 0, 0), (31, .iconst 2, 1, 0, 0, 0, 0)],
  [(32, .imul, 1, 0, 0, 0, 0), (33, .aload_n 0, 1, 0, 0, 0, 0), (34, .getfield 30, 3, 4, 5, 0, 360), (37, .imul, 1, 0, 0, 0, 0), (38, .isub, 1, 0, 0, 0, 0), (39, .goto 9, 3, 48, 0, 0, 0), (42, .iconst 2, 1, 0, 0, 0, 0), (43, .aload_n 0, 1, 0, 0, 0, 0), (44, .getfield 30, 3, 4, 5, 0, 360), (47, .imul, 1, 0, 0, 0, 0)],
  [(48, .istore 4, 2, 0, 0, 0, 0), (50, .iload_n 1, 1, 0, 0, 0, 0), (51, .iload_n 2, 1, 0, 0, 0, 0), (52, .iconst 2, 1, 0, 0, 0, 0), (53, .imul, 1, 0, 0, 0, 0), (54, .aload_n 0, 1, 0, 0, 0, 0), (55, .getfield 30, 3, 4, 5, 0, 360), (58, .imul, 1, 0, 0, 0, 0), (59, .isub, 1, 0, 0, 0, 0), (60, .iload 4, 2, 0, 0, 0, 0), (62, .iconst 1, 1, 0, 0, 0, 0), (63, .iadd, 1, 0, 0, 0, 0)],
  [(64, .iconst 2, 1, 0, 0, 0, 0), (65, .idiv, 1, 0, 0, 0, 0), (66, .if_icmp .ge 7, 3, 73, 0, 0, 0), (69, .iconst 0, 1, 0, 0, 0, 0), (70, .goto 4, 3, 74, 0, 0, 0), (73, .iconst 1, 1, 0, 0, 0, 0), (74, .ireturn, 1, 0, 0, 0, 0)]], [], 1, 5)
def qc_X5_init : qCd := ([[(0, .aload_n 0, 1, 0, 0, 0, 0), (1, .invokespecial 3, 3, 0, 1, 6, 47), (4, .aload_n 0, 1, 0, 0, 0, 0), (5, .iconst 0, 1, 0, 0, 0, 0), (6, .putfield 9, 3, 5, 0, 0, 48), (9, .aload_n 0, 1, 0, 0, 0, 0), (10, .iconst 0, 1, 0, 0, 0, 0), (11, .putfield 15, 3, 5, 1, 0, 53), (14, .aload_n 0, 1, 0, 0, 0, 0), (15, .iconst 0, 1, 0, 0, 0, 0)],
  [(16, .putfield 19, 3, 5, 2, 0, 55), (19, .aload_n 0, 1, 0, 0, 0, 0), (20, .iconst 0, 1, 0, 0, 0, 0), (21, .putfield 22, 3, 5, 3, 0, 61), (24, .aload_n 0, 1, 0, 0, 0, 0), (25, .bipush 20, 2, 0, 0, 0, 0), (27, .newarray .int, 2, 0, 32, 0, 0), (29, .putfield 25, 3, 5, 4, 0, 64)],
  [(32, .aload_n 0, 1, 0, 0, 0, 0), (33, .bipush 20, 2, 0, 0, 0, 0), (35, .newarray .int, 2, 0, 33, 0, 0), (37, .putfield 29, 3, 5, 5, 0, 65), (40, .aload_n 0, 1, 0, 0, 0, 0), (41, .bipush 20, 2, 0, 0, 0, 0), (43, .newarray .int, 2, 0, 34, 0, 0), (45, .putfield 32, 3, 5, 6, 0, 71)],
  [(48, .aload_n 0, 1, 0, 0, 0, 0), (49, .bipush 20, 2, 0, 0, 0, 0), (51, .newarray .int, 2, 0, 35, 0, 0), (53, .putfield 35, 3, 5, 7, 0, 77), (56, .aload_n 0, 1, 0, 0, 0, 0), (57, .iconst 0, 1, 0, 0, 0, 0), (58, .putfield 38, 3, 5, 8, 0, 79), (61, .aload_n 0, 1, 0, 0, 0, 0), (62, .bipush 20, 2, 0, 0, 0, 0)],
  [(64, .newarray .int, 2, 0, 36, 0, 0), (66, .putfield 41, 3, 5, 9, 0, 81), (69, .aload_n 0, 1, 0, 0, 0, 0), (70, .iconst 0, 1, 0, 0, 0, 0), (71, .putfield 44, 3, 5, 10, 0, 83), (74, .aload_n 0, 1, 0, 0, 0, 0), (75, .iconst 0, 1, 0, 0, 0, 0), (76, .putfield 47, 3, 5, 11, 0, 87), (79, .aload_n 0, 1, 0, 0, 0, 0)],
  [(80, .bipush 20, 2, 0, 0, 0, 0), (82, .newarray .int, 2, 0, 37, 0, 0), (84, .putfield 50, 3, 5, 12, 0, 90), (87, .return_, 1, 0, 0, 0, 0)]], [], 0, 1)
def qc_X5_addWord : qCd := ([[(0, .aload_n 0, 1, 0, 0, 0, 0), (1, .getfield 19, 3, 5, 2, 0, 55), (4, .bipush 20, 2, 0, 0, 0, 0), (6, .if_icmp .ge 43, 3, 49, 0, 0, 0), (9, .aload_n 0, 1, 0, 0, 0, 0), (10, .getfield 25, 3, 5, 4, 0, 64), (13, .aload_n 0, 1, 0, 0, 0, 0), (14, .getfield 19, 3, 5, 2, 0, 55)],
  [(17, .iload_n 1, 1, 0, 0, 0, 0), (18, .iastore, 1, 0, 0, 0, 0), (19, .aload_n 0, 1, 0, 0, 0, 0), (20, .getfield 29, 3, 5, 5, 0, 65), (23, .aload_n 0, 1, 0, 0, 0, 0), (24, .getfield 19, 3, 5, 2, 0, 55), (27, .iload_n 2, 1, 0, 0, 0, 0), (28, .iastore, 1, 0, 0, 0, 0), (29, .aload_n 0, 1, 0, 0, 0, 0), (30, .getfield 32, 3, 5, 6, 0, 71)],
  [(33, .aload_n 0, 1, 0, 0, 0, 0), (34, .getfield 19, 3, 5, 2, 0, 55), (37, .iload_n 3, 1, 0, 0, 0, 0), (38, .iastore, 1, 0, 0, 0, 0), (39, .aload_n 0, 1, 0, 0, 0, 0), (40, .dup, 1, 0, 0, 0, 0), (41, .getfield 19, 3, 5, 2, 0, 55), (44, .iconst 1, 1, 0, 0, 0, 0), (45, .iadd, 1, 0, 0, 0, 0), (46, .putfield 19, 3, 5, 2, 0, 55)],
  [(49, .return_, 1, 0, 0, 0, 0)]], [], 0, 4)
def qc_X5_takeWords : qCd := ([[(0, .aload_n 0, 1, 0, 0, 0, 0), (1, .iconst 0, 1, 0, 0, 0, 0), (2, .putfield 9, 3, 5, 0, 0, 48), (5, .aload_n 0, 1, 0, 0, 0, 0), (6, .iconst 0, 1, 0, 0, 0, 0), (7, .putfield 19, 3, 5, 2, 0, 55), (10, .aload_n 0, 1, 0, 0, 0, 0), (11, .iconst 0, 1, 0, 0, 0, 0), (12, .putfield 38, 3, 5, 8, 0, 79), (15, .aload_n 0, 1, 0, 0, 0, 0)],
  [(16, .getfield 35, 3, 5, 7, 0, 77), (19, .iconst 0, 1, 0, 0, 0, 0), (20, .invokestatic 53, 3, 267, 2, 2, 774), (23, .iconst 0, 1, 0, 0, 0, 0), (24, .istore_n 2, 1, 0, 0, 0, 0), (25, .iload_n 2, 1, 0, 0, 0, 0), (26, .aload_n 1, 1, 0, 0, 0, 0), (27, .getfield 19, 3, 5, 2, 0, 55), (30, .if_icmp .ge 31, 3, 61, 0, 0, 0)],
  [(33, .aload_n 0, 1, 0, 0, 0, 0), (34, .aload_n 1, 1, 0, 0, 0, 0), (35, .getfield 25, 3, 5, 4, 0, 64), (38, .iload_n 2, 1, 0, 0, 0, 0), (39, .iaload, 1, 0, 0, 0, 0), (40, .aload_n 1, 1, 0, 0, 0, 0), (41, .getfield 29, 3, 5, 5, 0, 65), (44, .iload_n 2, 1, 0, 0, 0, 0), (45, .iaload, 1, 0, 0, 0, 0), (46, .aload_n 1, 1, 0, 0, 0, 0), (47, .getfield 32, 3, 5, 6, 0, 71)],
  [(50, .iload_n 2, 1, 0, 0, 0, 0), (51, .iaload, 1, 0, 0, 0, 0), (52, .invokevirtual 59, 3, 44, 4, 50, 775), (55, .iinc 2 1, 3, 0, 0, 0, 0), (58, .goto (-33), 3, 25, 0, 0, 0), (61, .return_, 1, 0, 0, 0, 0)]], [], 0, 3)
def qc_X5_takeHead : qCd := ([[(0, .aload_n 0, 1, 0, 0, 0, 0), (1, .iconst 1, 1, 0, 0, 0, 0), (2, .putfield 9, 3, 5, 0, 0, 48), (5, .aload_n 0, 1, 0, 0, 0, 0), (6, .iload_n 1, 1, 0, 0, 0, 0), (7, .putfield 15, 3, 5, 1, 0, 53), (10, .aload_n 0, 1, 0, 0, 0, 0), (11, .iconst 1, 1, 0, 0, 0, 0), (12, .putfield 44, 3, 5, 10, 0, 83), (15, .return_, 1, 0, 0, 0, 0)]], [], 0, 2)
def qc_X5_widthAt : qCd := ([[(0, .aload_n 0, 1, 0, 0, 0, 0), (1, .getfield 25, 3, 5, 4, 0, 64), (4, .iload_n 1, 1, 0, 0, 0, 0), (5, .iaload, 1, 0, 0, 0, 0), (6, .aload_n 0, 1, 0, 0, 0, 0), (7, .getfield 35, 3, 5, 7, 0, 77), (10, .iload_n 1, 1, 0, 0, 0, 0), (11, .iaload, 1, 0, 0, 0, 0), (12, .iadd, 1, 0, 0, 0, 0), (13, .ireturn, 1, 0, 0, 0, 0)]], [], 1, 2)
def qc_X5_sumOf : qCd := ([[(0, .iconst 0, 1, 0, 0, 0, 0), (1, .istore_n 2, 1, 0, 0, 0, 0), (2, .iconst 0, 1, 0, 0, 0, 0), (3, .istore_n 3, 1, 0, 0, 0, 0), (4, .iload_n 3, 1, 0, 0, 0, 0), (5, .aload_n 0, 1, 0, 0, 0, 0), (6, .getfield 19, 3, 5, 2, 0, 55), (9, .if_icmp .ge 37, 3, 46, 0, 0, 0), (12, .aload_n 0, 1, 0, 0, 0, 0), (13, .getfield 29, 3, 5, 5, 0, 65)],
  [(16, .iload_n 3, 1, 0, 0, 0, 0), (17, .iaload, 1, 0, 0, 0, 0), (18, .iload_n 1, 1, 0, 0, 0, 0), (19, .if_icmp .ne 21, 3, 40, 0, 0, 0), (22, .iload_n 2, 1, 0, 0, 0, 0), (23, .iload_n 1, 1, 0, 0, 0, 0), (24, .iconst 2, 1, 0, 0, 0, 0), (25, .if_icmp .ne 12, 3, 37, 0, 0, 0), (28, .aload_n 0, 1, 0, 0, 0, 0), (29, .getfield 32, 3, 5, 6, 0, 71)],
  [(32, .iload_n 3, 1, 0, 0, 0, 0), (33, .iaload, 1, 0, 0, 0, 0), (34, .goto 4, 3, 38, 0, 0, 0), (37, .iconst 1, 1, 0, 0, 0, 0), (38, .iadd, 1, 0, 0, 0, 0), (39, .istore_n 2, 1, 0, 0, 0, 0), (40, .iinc 3 1, 3, 0, 0, 0, 0), (43, .goto (-39), 3, 4, 0, 0, 0), (46, .iload_n 2, 1, 0, 0, 0, 0), (47, .ireturn, 1, 0, 0, 0, 0)]], [], 1, 4)
def qc_X5_labels : qCd := ([[(0, .iconst 0, 1, 0, 0, 0, 0), (1, .istore_n 1, 1, 0, 0, 0, 0), (2, .iconst 0, 1, 0, 0, 0, 0), (3, .istore_n 2, 1, 0, 0, 0, 0), (4, .iload_n 2, 1, 0, 0, 0, 0), (5, .aload_n 0, 1, 0, 0, 0, 0), (6, .getfield 19, 3, 5, 2, 0, 55), (9, .if_icmp .ge 34, 3, 43, 0, 0, 0), (12, .iload_n 1, 1, 0, 0, 0, 0), (13, .aload_n 0, 1, 0, 0, 0, 0), (14, .getfield 29, 3, 5, 5, 0, 65)],
  [(17, .iload_n 2, 1, 0, 0, 0, 0), (18, .iaload, 1, 0, 0, 0, 0), (19, .iconst 1, 1, 0, 0, 0, 0), (20, .if_icmp .ne 14, 3, 34, 0, 0, 0), (23, .iconst 1, 1, 0, 0, 0, 0), (24, .aload_n 0, 1, 0, 0, 0, 0), (25, .getfield 32, 3, 5, 6, 0, 71), (28, .iload_n 2, 1, 0, 0, 0, 0), (29, .iaload, 1, 0, 0, 0, 0), (30, .ishl, 1, 0, 0, 0, 0), (31, .goto 4, 3, 35, 0, 0, 0)],
  [(34, .iconst 0, 1, 0, 0, 0, 0), (35, .ior, 1, 0, 0, 0, 0), (36, .istore_n 1, 1, 0, 0, 0, 0), (37, .iinc 2 1, 3, 0, 0, 0, 0), (40, .goto (-36), 3, 4, 0, 0, 0), (43, .iload_n 1, 1, 0, 0, 0, 0), (44, .ireturn, 1, 0, 0, 0, 0)]], [], 1, 3)
def qc_X5_isBroken : qCd := ([[(0, .aload_n 0, 1, 0, 0, 0, 0), (1, .getfield 38, 3, 5, 8, 0, 79), (4, .iload_n 1, 1, 0, 0, 0, 0), (5, .if_icmp .eq 5, 3, 10, 0, 0, 0), (8, .iconst 0, 1, 0, 0, 0, 0), (9, .ireturn, 1, 0, 0, 0, 0), (10, .iconst 0, 1, 0, 0, 0, 0), (11, .istore_n 2, 1, 0, 0, 0, 0), (12, .iload_n 2, 1, 0, 0, 0, 0), (13, .aload_n 0, 1, 0, 0, 0, 0), (14, .getfield 19, 3, 5, 2, 0, 55)],
  [(17, .if_icmp .ge 25, 3, 42, 0, 0, 0), (20, .aload_n 0, 1, 0, 0, 0, 0), (21, .getfield 41, 3, 5, 9, 0, 81), (24, .iload_n 2, 1, 0, 0, 0, 0), (25, .iaload, 1, 0, 0, 0, 0), (26, .aload_n 0, 1, 0, 0, 0, 0), (27, .iload_n 2, 1, 0, 0, 0, 0), (28, .invokevirtual 63, 3, 47, 2, 50, 873), (31, .if_icmp .eq 5, 3, 36, 0, 0, 0)],
  [(34, .iconst 0, 1, 0, 0, 0, 0), (35, .ireturn, 1, 0, 0, 0, 0), (36, .iinc 2 1, 3, 0, 0, 0, 0), (39, .goto (-27), 3, 12, 0, 0, 0), (42, .iconst 1, 1, 0, 0, 0, 0), (43, .ireturn, 1, 0, 0, 0, 0)]], [], 2, 3)
def qc_X6_init : qCd := ([[(0, .aload_n 0, 1, 0, 0, 0, 0), (1, .invokespecial 3, 3, 0, 1, 6, 322), (4, .aload_n 0, 1, 0, 0, 0, 0), (5, .sipush 600, 3, 0, 0, 0, 0), (8, .newarray .int, 2, 0, 38, 0, 0), (10, .putfield 9, 3, 6, 0, 0, 323), (13, .aload_n 0, 1, 0, 0, 0, 0), (14, .bipush 60, 2, 0, 0, 0, 0)],
  [(16, .newarray .int, 2, 0, 39, 0, 0), (18, .putfield 15, 3, 6, 1, 0, 325), (21, .aload_n 0, 1, 0, 0, 0, 0), (22, .iconst 0, 1, 0, 0, 0, 0), (23, .putfield 18, 3, 6, 2, 0, 326), (26, .aload_n 0, 1, 0, 0, 0, 0), (27, .iconst 0, 1, 0, 0, 0, 0), (28, .putfield 22, 3, 6, 3, 0, 327), (31, .aload_n 0, 1, 0, 0, 0, 0)],
  [(32, .iconst 0, 1, 0, 0, 0, 0), (33, .putfield 25, 3, 6, 4, 0, 328), (36, .aload_n 0, 1, 0, 0, 0, 0), (37, .iconst 0, 1, 0, 0, 0, 0), (38, .putfield 28, 3, 6, 5, 0, 329), (41, .return_, 1, 0, 0, 0, 0)]], [], 0, 1)
def qc_X6_putAll : qCd := ([[(0, .aload_n 0, 1, 0, 0, 0, 0), (1, .getfield 9, 3, 6, 0, 0, 323), (4, .iconst (-1), 1, 0, 0, 0, 0), (5, .invokestatic 31, 3, 267, 2, 2, 1328), (8, .aload_n 0, 1, 0, 0, 0, 0), (9, .aload_n 2, 1, 0, 0, 0, 0), (10, .getfield 37, 3, 3, 1, 1, 442), (13, .putfield 25, 3, 6, 4, 0, 328)],
  [(16, .iconst 0, 1, 0, 0, 0, 0), (17, .istore_n 3, 1, 0, 0, 0, 0), (18, .iload_n 3, 1, 0, 0, 0, 0), (19, .iconst 3, 1, 0, 0, 0, 0), (20, .if_icmp .ge 87, 3, 107, 0, 0, 0), (23, .aload_n 0, 1, 0, 0, 0, 0), (24, .iconst 0, 1, 0, 0, 0, 0), (25, .putfield 18, 3, 6, 2, 0, 326), (28, .iconst 0, 1, 0, 0, 0, 0), (29, .istore 4, 2, 0, 0, 0, 0), (31, .iload 4, 2, 0, 0, 0, 0)],
  [(33, .aload_n 2, 1, 0, 0, 0, 0), (34, .getfield 40, 3, 3, 7, 1, 459), (37, .iload_n 3, 1, 0, 0, 0, 0), (38, .aaload, 1, 0, 0, 0, 0), (39, .getfield 44, 3, 8, 2, 1, 401), (42, .if_icmp .ge 59, 3, 101, 0, 0, 0), (45, .aload_n 0, 1, 0, 0, 0, 0), (46, .aload_n 2, 1, 0, 0, 0, 0), (47, .getfield 40, 3, 3, 7, 1, 459)],
  [(50, .iload_n 3, 1, 0, 0, 0, 0), (51, .aaload, 1, 0, 0, 0, 0), (52, .getfield 49, 3, 8, 0, 1, 391), (55, .iload 4, 2, 0, 0, 0, 0), (57, .iadd, 1, 0, 0, 0, 0), (58, .putfield 22, 3, 6, 3, 0, 327), (61, .aload_n 0, 1, 0, 0, 0, 0), (62, .iconst 0, 1, 0, 0, 0, 0), (63, .putfield 28, 3, 6, 5, 0, 329)],
  [(66, .aload_n 0, 1, 0, 0, 0, 0), (67, .aload_n 1, 1, 0, 0, 0, 0), (68, .iload_n 3, 1, 0, 0, 0, 0), (69, .aaload, 1, 0, 0, 0, 0), (70, .invokevirtual 52, 3, 53, 2, 60, 1329), (73, .aload_n 0, 1, 0, 0, 0, 0), (74, .aload_n 1, 1, 0, 0, 0, 0), (75, .iload_n 3, 1, 0, 0, 0, 0), (76, .aaload, 1, 0, 0, 0, 0), (77, .iload_n 3, 1, 0, 0, 0, 0), (78, .aload_n 2, 1, 0, 0, 0, 0), (79, .getfield 56, 3, 3, 6, 1, 455)],
  [(82, .iload_n 3, 1, 0, 0, 0, 0), (83, .aaload, 1, 0, 0, 0, 0), (84, .aload_n 2, 1, 0, 0, 0, 0), (85, .getfield 40, 3, 3, 7, 1, 459), (88, .iload_n 3, 1, 0, 0, 0, 0), (89, .aaload, 1, 0, 0, 0, 0), (90, .iload 4, 2, 0, 0, 0, 0), (92, .invokevirtual 60, 3, 54, 6, 60, 1339), (95, .iinc 4 1, 3, 0, 0, 0, 0)],
  [(98, .goto (-67), 3, 31, 0, 0, 0), (101, .iinc 3 1, 3, 0, 0, 0, 0), (104, .goto (-86), 3, 18, 0, 0, 0), (107, .return_, 1, 0, 0, 0, 0)]], [], 0, 5)
def qc_X6_putOver : qCd := ([[(0, .aload_n 0, 1, 0, 0, 0, 0), (1, .getfield 18, 3, 6, 2, 0, 326), (4, .istore_n 2, 1, 0, 0, 0, 0), (5, .aload_n 0, 1, 0, 0, 0, 0), (6, .iconst 0, 1, 0, 0, 0, 0), (7, .putfield 18, 3, 6, 2, 0, 326), (10, .iconst 0, 1, 0, 0, 0, 0), (11, .istore_n 3, 1, 0, 0, 0, 0), (12, .iload_n 3, 1, 0, 0, 0, 0), (13, .iload_n 2, 1, 0, 0, 0, 0), (14, .if_icmp .ge 46, 3, 60, 0, 0, 0)],
  [(17, .aload_n 0, 1, 0, 0, 0, 0), (18, .getfield 15, 3, 6, 1, 0, 325), (21, .iload_n 3, 1, 0, 0, 0, 0), (22, .iaload, 1, 0, 0, 0, 0), (23, .istore 4, 2, 0, 0, 0, 0), (25, .aload_n 0, 1, 0, 0, 0, 0), (26, .iload 4, 2, 0, 0, 0, 0), (28, .aload_n 1, 1, 0, 0, 0, 0), (29, .getfield 64, 3, 1, 0, 1, 509)],
  [(32, .iload 4, 2, 0, 0, 0, 0), (34, .bipush 20, 2, 0, 0, 0, 0), (36, .idiv, 1, 0, 0, 0, 0), (37, .bipush 10, 2, 0, 0, 0, 0), (39, .irem, 1, 0, 0, 0, 0), (40, .aaload, 1, 0, 0, 0, 0), (41, .getfield 70, 3, 5, 6, 1, 73), (44, .iload 4, 2, 0, 0, 0, 0), (46, .bipush 20, 2, 0, 0, 0, 0)],
  [(48, .irem, 1, 0, 0, 0, 0), (49, .iaload, 1, 0, 0, 0, 0), (50, .iconst 0, 1, 0, 0, 0, 0), (51, .invokevirtual 75, 3, 55, 4, 60, 1333), (54, .iinc 3 1, 3, 0, 0, 0, 0), (57, .goto (-45), 3, 12, 0, 0, 0), (60, .return_, 1, 0, 0, 0, 0)]], [], 0, 5)
def qc_X6_putPage : qCd := ([[(0, .aload 4, 2, 0, 0, 0, 0), (2, .iload 5, 2, 0, 0, 0, 0), (4, .invokevirtual 79, 3, 82, 2, 81, 1343), (7, .istore 6, 2, 0, 0, 0, 0), (9, .aload 4, 2, 0, 0, 0, 0), (11, .iload 5, 2, 0, 0, 0, 0), (13, .invokevirtual 83, 3, 83, 2, 81, 1344)],
  [(16, .istore 7, 2, 0, 0, 0, 0), (18, .aload 4, 2, 0, 0, 0, 0), (20, .getfield 86, 3, 8, 5, 1, 411), (23, .iload 5, 2, 0, 0, 0, 0), (25, .iaload, 1, 0, 0, 0, 0), (26, .iload 7, 2, 0, 0, 0, 0), (28, .if_icmp .le 12, 3, 40, 0, 0, 0), (31, .aload_n 3, 1, 0, 0, 0, 0)],
  [(32, .iload 7, 2, 0, 0, 0, 0), (34, .invokevirtual 89, 3, 93, 2, 91, 1345), (37, .goto 4, 3, 41, 0, 0, 0), (40, .iconst 0, 1, 0, 0, 0, 0), (41, .istore 8, 2, 0, 0, 0, 0), (43, .aload 4, 2, 0, 0, 0, 0), (45, .getfield 94, 3, 8, 7, 1, 416)],
  [(48, .iload 5, 2, 0, 0, 0, 0), (50, .iaload, 1, 0, 0, 0, 0), (51, .istore 9, 2, 0, 0, 0, 0), (53, .iload 6, 2, 0, 0, 0, 0), (55, .istore 10, 2, 0, 0, 0, 0), (57, .iload 10, 2, 0, 0, 0, 0), (59, .aload 4, 2, 0, 0, 0, 0), (61, .getfield 97, 3, 8, 4, 1, 408)],
  [(64, .iload 5, 2, 0, 0, 0, 0), (66, .iaload, 1, 0, 0, 0, 0), (67, .if_icmp .ge 126, 3, 193, 0, 0, 0), (70, .iload 10, 2, 0, 0, 0, 0), (72, .iload 6, 2, 0, 0, 0, 0), (74, .if_icmp .le 30, 3, 104, 0, 0, 0), (77, .aload_n 3, 1, 0, 0, 0, 0), (78, .iload 10, 2, 0, 0, 0, 0)],
  [(80, .invokevirtual 100, 3, 92, 2, 91, 1349), (83, .ifCond .eq 21, 3, 104, 0, 0, 0), (86, .iload 8, 2, 0, 0, 0, 0), (88, .iload 9, 2, 0, 0, 0, 0), (90, .ifCond .le 7, 3, 97, 0, 0, 0), (93, .iconst 2, 1, 0, 0, 0, 0), (94, .goto 4, 3, 98, 0, 0, 0)],
  [(97, .iconst 1, 1, 0, 0, 0, 0), (98, .iadd, 1, 0, 0, 0, 0), (99, .istore 8, 2, 0, 0, 0, 0), (101, .iinc 9 (-1), 3, 0, 0, 0, 0), (104, .aload_n 1, 1, 0, 0, 0, 0), (105, .getfield 64, 3, 1, 0, 1, 509), (108, .aload_n 3, 1, 0, 0, 0, 0), (109, .getfield 104, 3, 9, 1, 1, 161)],
  [(112, .iload 10, 2, 0, 0, 0, 0), (114, .iaload, 1, 0, 0, 0, 0), (115, .aaload, 1, 0, 0, 0, 0), (116, .astore 11, 2, 0, 0, 0, 0), (118, .aload_n 3, 1, 0, 0, 0, 0), (119, .getfield 107, 3, 9, 2, 1, 165), (122, .iload 10, 2, 0, 0, 0, 0), (124, .iaload, 1, 0, 0, 0, 0), (125, .istore 12, 2, 0, 0, 0, 0), (127, .iload 12, 2, 0, 0, 0, 0)],
  [(129, .aload_n 3, 1, 0, 0, 0, 0), (130, .getfield 110, 3, 9, 3, 1, 169), (133, .iload 10, 2, 0, 0, 0, 0), (135, .iaload, 1, 0, 0, 0, 0), (136, .if_icmp .ge 48, 3, 184, 0, 0, 0), (139, .aload 11, 2, 0, 0, 0, 0), (141, .getfield 113, 3, 5, 5, 1, 68)],
  [(144, .iload 12, 2, 0, 0, 0, 0), (146, .iaload, 1, 0, 0, 0, 0), (147, .iconst 5, 1, 0, 0, 0, 0), (148, .if_icmp .ne 30, 3, 178, 0, 0, 0), (151, .aload_n 0, 1, 0, 0, 0, 0), (152, .iload_n 2, 1, 0, 0, 0, 0), (153, .aload_n 3, 1, 0, 0, 0, 0), (154, .getfield 104, 3, 9, 1, 1, 161), (157, .iload 10, 2, 0, 0, 0, 0), (159, .iaload, 1, 0, 0, 0, 0)],
  [(160, .iload 12, 2, 0, 0, 0, 0), (162, .invokestatic 116, 3, 147, 3, 103, 1353), (165, .aload 11, 2, 0, 0, 0, 0), (167, .getfield 70, 3, 5, 6, 1, 73), (170, .iload 12, 2, 0, 0, 0, 0), (172, .iaload, 1, 0, 0, 0, 0), (173, .iload 8, 2, 0, 0, 0, 0), (175, .invokevirtual 75, 3, 55, 4, 60, 1333)],
  [(178, .iinc 12 1, 3, 0, 0, 0, 0), (181, .goto (-54), 3, 127, 0, 0, 0), (184, .iinc 8 1, 3, 0, 0, 0, 0), (187, .iinc 10 1, 3, 0, 0, 0, 0), (190, .goto (-133), 3, 57, 0, 0, 0)],
  [(193, .return_, 1, 0, 0, 0, 0)]], [], 0, 13)
def qc_X6_putOne : qCd := ([[(0, .iload_n 3, 1, 0, 0, 0, 0), (1, .aload_n 0, 1, 0, 0, 0, 0), (2, .getfield 28, 3, 6, 5, 0, 329), (5, .invokestatic 120, 3, 264, 2, 2, 1337), (8, .aload_n 0, 1, 0, 0, 0, 0), (9, .getfield 25, 3, 6, 4, 0, 328), (12, .iload_n 2, 1, 0, 0, 0, 0), (13, .isub, 1, 0, 0, 0, 0), (14, .invokestatic 126, 3, 265, 2, 2, 1338)],
  [(17, .istore 4, 2, 0, 0, 0, 0), (19, .iload 4, 2, 0, 0, 0, 0), (21, .aload_n 0, 1, 0, 0, 0, 0), (22, .getfield 28, 3, 6, 5, 0, 329), (25, .if_icmp .lt 30, 3, 55, 0, 0, 0), (28, .aload_n 0, 1, 0, 0, 0, 0), (29, .getfield 9, 3, 6, 0, 0, 323)],
  [(32, .iload_n 1, 1, 0, 0, 0, 0), (33, .bipush 100, 2, 0, 0, 0, 0), (35, .aload_n 0, 1, 0, 0, 0, 0), (36, .getfield 22, 3, 6, 3, 0, 327), (39, .imul, 1, 0, 0, 0, 0), (40, .iload 4, 2, 0, 0, 0, 0), (42, .iadd, 1, 0, 0, 0, 0), (43, .iastore, 1, 0, 0, 0, 0), (44, .aload_n 0, 1, 0, 0, 0, 0), (45, .iload 4, 2, 0, 0, 0, 0), (47, .iload_n 2, 1, 0, 0, 0, 0)],
  [(48, .iadd, 1, 0, 0, 0, 0), (49, .putfield 28, 3, 6, 5, 0, 329), (52, .goto 32, 3, 84, 0, 0, 0), (55, .aload_n 0, 1, 0, 0, 0, 0), (56, .getfield 18, 3, 6, 2, 0, 326), (59, .bipush 60, 2, 0, 0, 0, 0), (61, .if_icmp .ge 23, 3, 84, 0, 0, 0)],
  [(64, .aload_n 0, 1, 0, 0, 0, 0), (65, .getfield 15, 3, 6, 1, 0, 325), (68, .aload_n 0, 1, 0, 0, 0, 0), (69, .getfield 18, 3, 6, 2, 0, 326), (72, .iload_n 1, 1, 0, 0, 0, 0), (73, .iastore, 1, 0, 0, 0, 0), (74, .aload_n 0, 1, 0, 0, 0, 0), (75, .dup, 1, 0, 0, 0, 0), (76, .getfield 18, 3, 6, 2, 0, 326), (79, .iconst 1, 1, 0, 0, 0, 0)],
  [(80, .iadd, 1, 0, 0, 0, 0), (81, .putfield 18, 3, 6, 2, 0, 326), (84, .return_, 1, 0, 0, 0, 0)]], [], 0, 5)
def qc_X7_init : qCd := ([[(0, .aload_n 0, 1, 0, 0, 0, 0), (1, .invokespecial 5, 3, 0, 1, 6, 149), (4, .aload_n 0, 1, 0, 0, 0, 0), (5, .sipush 1420, 3, 0, 0, 0, 0), (8, .newarray .int, 2, 0, 40, 0, 0), (10, .putfield 11, 3, 7, 0, 0, 237), (13, .aload_n 0, 1, 0, 0, 0, 0), (14, .sipush 22720, 3, 0, 0, 0, 0)],
  [(17, .newarray .int, 2, 0, 41, 0, 0), (19, .putfield 15, 3, 7, 1, 0, 238), (22, .aload_n 0, 1, 0, 0, 0, 0), (23, .sipush 22720, 3, 0, 0, 0, 0), (26, .newarray .int, 2, 0, 42, 0, 0), (28, .putfield 18, 3, 7, 2, 0, 239), (31, .aload_n 0, 1, 0, 0, 0, 0)],
  [(32, .new 21, 3, 0, 9, 0, 150), (35, .dup, 1, 0, 0, 0, 0), (36, .invokespecial 23, 3, 87, 1, 95, 152), (39, .putfield 24, 3, 7, 3, 0, 240), (42, .aload_n 0, 1, 0, 0, 0, 0), (43, .iconst 0, 1, 0, 0, 0, 0), (44, .putfield 28, 3, 7, 4, 0, 241), (47, .aload_n 0, 1, 0, 0, 0, 0)],
  [(48, .iconst 0, 1, 0, 0, 0, 0), (49, .putfield 32, 3, 7, 5, 0, 242), (52, .aload_n 0, 1, 0, 0, 0, 0), (53, .iconst 0, 1, 0, 0, 0, 0), (54, .putfield 35, 3, 7, 6, 0, 243), (57, .aload_n 0, 1, 0, 0, 0, 0), (58, .iconst 0, 1, 0, 0, 0, 0), (59, .putfield 38, 3, 7, 7, 0, 244), (62, .aload_n 0, 1, 0, 0, 0, 0), (63, .iconst 0, 1, 0, 0, 0, 0)],
  [(64, .putfield 41, 3, 7, 8, 0, 245), (67, .aload_n 0, 1, 0, 0, 0, 0), (68, .iconst 0, 1, 0, 0, 0, 0), (69, .putfield 44, 3, 7, 9, 0, 246), (72, .aload_n 0, 1, 0, 0, 0, 0), (73, .iconst 0, 1, 0, 0, 0, 0), (74, .putfield 48, 3, 7, 10, 0, 247), (77, .aload_n 0, 1, 0, 0, 0, 0), (78, .iconst 0, 1, 0, 0, 0, 0), (79, .putfield 51, 3, 7, 11, 0, 248)],
  [(82, .aload_n 0, 1, 0, 0, 0, 0), (83, .iconst 0, 1, 0, 0, 0, 0), (84, .putfield 54, 3, 7, 12, 0, 249), (87, .return_, 1, 0, 0, 0, 0)]], [], 0, 1)
def qc_X7_begin : qCd := ([[(0, .aload_n 0, 1, 0, 0, 0, 0), (1, .aload_n 1, 1, 0, 0, 0, 0), (2, .putfield 24, 3, 7, 3, 0, 240), (5, .aload_n 0, 1, 0, 0, 0, 0), (6, .iload_n 2, 1, 0, 0, 0, 0), (7, .putfield 28, 3, 7, 4, 0, 241), (10, .return_, 1, 0, 0, 0, 0)]], [], 0, 3)
def ql_X7_isPage_0 : List (List qI) := [[(0, .aload_n 0, 1, 0, 0, 0, 0), (1, .getfield 24, 3, 7, 3, 0, 240), (4, .getfield 57, 3, 9, 7, 1, 179), (7, .iload_n 2, 1, 0, 0, 0, 0), (8, .iaload, 1, 0, 0, 0, 0), (9, .aload_n 0, 1, 0, 0, 0, 0), (10, .getfield 24, 3, 7, 3, 0, 240), (13, .getfield 57, 3, 9, 7, 1, 179)],
  [(16, .iload_n 1, 1, 0, 0, 0, 0), (17, .iconst 1, 1, 0, 0, 0, 0), (18, .iadd, 1, 0, 0, 0, 0), (19, .iaload, 1, 0, 0, 0, 0), (20, .isub, 1, 0, 0, 0, 0), (21, .istore 6, 2, 0, 0, 0, 0), (23, .iload_n 2, 1, 0, 0, 0, 0), (24, .iload_n 1, 1, 0, 0, 0, 0), (25, .isub, 1, 0, 0, 0, 0), (26, .iload 6, 2, 0, 0, 0, 0), (28, .iadd, 1, 0, 0, 0, 0), (29, .aload_n 0, 1, 0, 0, 0, 0), (30, .getfield 24, 3, 7, 3, 0, 240)],
  [(33, .getfield 60, 3, 9, 15, 1, 195), (36, .iload_n 3, 1, 0, 0, 0, 0), (37, .iload 4, 2, 0, 0, 0, 0), (39, .iadd, 1, 0, 0, 0, 0), (40, .iaload, 1, 0, 0, 0, 0), (41, .iadd, 1, 0, 0, 0, 0), (42, .aload_n 0, 1, 0, 0, 0, 0), (43, .getfield 24, 3, 7, 3, 0, 240), (46, .getfield 60, 3, 9, 15, 1, 195)],
  [(49, .iload_n 3, 1, 0, 0, 0, 0), (50, .iaload, 1, 0, 0, 0, 0), (51, .isub, 1, 0, 0, 0, 0), (52, .istore 7, 2, 0, 0, 0, 0), (54, .iload 7, 2, 0, 0, 0, 0), (56, .aload_n 0, 1, 0, 0, 0, 0), (57, .getfield 28, 3, 7, 4, 0, 241), (60, .if_icmp .gt 27, 3, 87, 0, 0, 0), (63, .iload_n 2, 1, 0, 0, 0, 0)],
  [(64, .aload_n 0, 1, 0, 0, 0, 0), (65, .getfield 24, 3, 7, 3, 0, 240), (68, .getfield 63, 3, 9, 0, 1, 157), (71, .if_icmp .ge 18, 3, 89, 0, 0, 0), (74, .aload_n 0, 1, 0, 0, 0, 0), (75, .getfield 24, 3, 7, 3, 0, 240), (78, .getfield 66, 3, 9, 11, 1, 187)],
  [(81, .iload_n 2, 1, 0, 0, 0, 0), (82, .iaload, 1, 0, 0, 0, 0), (83, .iload_n 1, 1, 0, 0, 0, 0), (84, .if_icmp .lt 5, 3, 89, 0, 0, 0), (87, .iconst 0, 1, 0, 0, 0, 0), (88, .ireturn, 1, 0, 0, 0, 0), (89, .aload_n 0, 1, 0, 0, 0, 0), (90, .getfield 24, 3, 7, 3, 0, 240), (93, .getfield 69, 3, 9, 9, 1, 183)],
  [(96, .iload_n 2, 1, 0, 0, 0, 0), (97, .iaload, 1, 0, 0, 0, 0), (98, .iload 5, 2, 0, 0, 0, 0), (100, .isub, 1, 0, 0, 0, 0), (101, .istore 8, 2, 0, 0, 0, 0), (103, .aload_n 0, 1, 0, 0, 0, 0), (104, .getfield 28, 3, 7, 4, 0, 241), (107, .iload 7, 2, 0, 0, 0, 0), (109, .isub, 1, 0, 0, 0, 0), (110, .iconst 1, 1, 0, 0, 0, 0), (111, .isub, 1, 0, 0, 0, 0)],
  [(112, .istore 9, 2, 0, 0, 0, 0), (114, .aload_n 0, 1, 0, 0, 0, 0), (115, .iload 9, 2, 0, 0, 0, 0), (117, .iconst 1, 1, 0, 0, 0, 0), (118, .if_icmp .ge 7, 3, 125, 0, 0, 0), (121, .iconst 0, 1, 0, 0, 0, 0), (122, .goto 17, 3, 139, 0, 0, 0), (125, .iload 8, 2, 0, 0, 0, 0), (127, .iload 9, 2, 0, 0, 0, 0)],
  [(129, .if_icmp .ge 8, 3, 137, 0, 0, 0), (132, .iload 8, 2, 0, 0, 0, 0), (134, .goto 5, 3, 139, 0, 0, 0), (137, .iload 9, 2, 0, 0, 0, 0), (139, .putfield 32, 3, 7, 5, 0, 242), (142, .iload 5, 2, 0, 0, 0, 0)],
  [(144, .aload_n 0, 1, 0, 0, 0, 0), (145, .getfield 32, 3, 7, 5, 0, 242), (148, .iadd, 1, 0, 0, 0, 0), (149, .aload_n 0, 1, 0, 0, 0, 0), (150, .getfield 24, 3, 7, 3, 0, 240), (153, .getfield 72, 3, 9, 10, 1, 185), (156, .iload_n 2, 1, 0, 0, 0, 0), (157, .iaload, 1, 0, 0, 0, 0), (158, .if_icmp .ge 5, 3, 163, 0, 0, 0)],
  [(161, .iconst 0, 1, 0, 0, 0, 0), (162, .ireturn, 1, 0, 0, 0, 0), (163, .aload_n 0, 1, 0, 0, 0, 0), (164, .getfield 24, 3, 7, 3, 0, 240), (167, .getfield 75, 3, 9, 8, 1, 181), (170, .iload_n 2, 1, 0, 0, 0, 0), (171, .iaload, 1, 0, 0, 0, 0), (172, .iload_n 3, 1, 0, 0, 0, 0), (173, .isub, 1, 0, 0, 0, 0), (174, .iload 4, 2, 0, 0, 0, 0)],
  [(176, .isub, 1, 0, 0, 0, 0), (177, .istore 10, 2, 0, 0, 0, 0), (179, .aload_n 0, 1, 0, 0, 0, 0), (180, .iconst 3, 1, 0, 0, 0, 0), (181, .iload 10, 2, 0, 0, 0, 0), (183, .imul, 1, 0, 0, 0, 0), (184, .iconst 2, 1, 0, 0, 0, 0), (185, .iload 8, 2, 0, 0, 0, 0), (187, .aload_n 0, 1, 0, 0, 0, 0), (188, .getfield 32, 3, 7, 5, 0, 242), (191, .isub, 1, 0, 0, 0, 0)],
  [(192, .imul, 1, 0, 0, 0, 0), (193, .iadd, 1, 0, 0, 0, 0), (194, .putfield 41, 3, 7, 8, 0, 245), (197, .aload_n 0, 1, 0, 0, 0, 0), (198, .dup, 1, 0, 0, 0, 0), (199, .getfield 41, 3, 7, 8, 0, 245), (202, .aload_n 0, 1, 0, 0, 0, 0), (203, .getfield 24, 3, 7, 3, 0, 240), (206, .getfield 78, 3, 9, 6, 1, 177)],
  [(209, .iload_n 1, 1, 0, 0, 0, 0), (210, .baload, 1, 0, 0, 0, 0), (211, .ifCond .eq 8, 3, 219, 0, 0, 0), (214, .bipush 15, 2, 0, 0, 0, 0), (216, .goto 4, 3, 220, 0, 0, 0), (219, .iconst 0, 1, 0, 0, 0, 0), (220, .aload_n 0, 1, 0, 0, 0, 0), (221, .getfield 24, 3, 7, 3, 0, 240)],
  [(224, .getfield 82, 3, 9, 5, 1, 175), (227, .iload_n 2, 1, 0, 0, 0, 0), (228, .iconst 1, 1, 0, 0, 0, 0), (229, .isub, 1, 0, 0, 0, 0), (230, .baload, 1, 0, 0, 0, 0), (231, .ifCond .eq 8, 3, 239, 0, 0, 0), (234, .bipush 15, 2, 0, 0, 0, 0), (236, .goto 4, 3, 240, 0, 0, 0), (239, .iconst 0, 1, 0, 0, 0, 0)],
  [(240, .iadd, 1, 0, 0, 0, 0), (241, .iadd, 1, 0, 0, 0, 0), (242, .putfield 41, 3, 7, 8, 0, 245), (245, .aload_n 0, 1, 0, 0, 0, 0), (246, .iload 7, 2, 0, 0, 0, 0), (248, .aload_n 0, 1, 0, 0, 0, 0), (249, .getfield 32, 3, 7, 5, 0, 242), (252, .ifCond .le 12, 3, 264, 0, 0, 0), (255, .aload_n 0, 1, 0, 0, 0, 0)],
  [(256, .getfield 32, 3, 7, 5, 0, 242), (259, .iconst 1, 1, 0, 0, 0, 0), (260, .iadd, 1, 0, 0, 0, 0), (261, .goto 4, 3, 265, 0, 0, 0), (264, .iconst 0, 1, 0, 0, 0, 0), (265, .iadd, 1, 0, 0, 0, 0), (266, .putfield 38, 3, 7, 7, 0, 244), (269, .aload_n 0, 1, 0, 0, 0, 0), (270, .iload_n 2, 1, 0, 0, 0, 0), (271, .aload_n 0, 1, 0, 0, 0, 0)],
  [(272, .getfield 24, 3, 7, 3, 0, 240), (275, .getfield 63, 3, 9, 0, 1, 157), (278, .if_icmp .ne 21, 3, 299, 0, 0, 0), (281, .iload 10, 2, 0, 0, 0, 0), (283, .ifCond .ne 16, 3, 299, 0, 0, 0), (286, .aload_n 0, 1, 0, 0, 0, 0), (287, .getfield 32, 3, 7, 5, 0, 242)],
  [(290, .iload 8, 2, 0, 0, 0, 0), (292, .if_icmp .ne 7, 3, 299, 0, 0, 0), (295, .iconst 1, 1, 0, 0, 0, 0), (296, .goto 4, 3, 300, 0, 0, 0), (299, .iconst 0, 1, 0, 0, 0, 0), (300, .putfield 44, 3, 7, 9, 0, 246), (303, .aload_n 0, 1, 0, 0, 0, 0)],
  [(304, .getfield 28, 3, 7, 4, 0, 241), (307, .aload_n 0, 1, 0, 0, 0, 0), (308, .getfield 38, 3, 7, 7, 0, 244), (311, .isub, 1, 0, 0, 0, 0), (312, .istore 11, 2, 0, 0, 0, 0), (314, .aload_n 0, 1, 0, 0, 0, 0), (315, .aload_n 0, 1, 0, 0, 0, 0), (316, .getfield 44, 3, 7, 9, 0, 246), (319, .ifCond .eq 7, 3, 326, 0, 0, 0)]]
def ql_X7_isPage_1 : List (List qI) := [[(322, .iconst 0, 1, 0, 0, 0, 0), (323, .goto 17, 3, 340, 0, 0, 0), (326, .iload 11, 2, 0, 0, 0, 0), (328, .iload 6, 2, 0, 0, 0, 0), (330, .if_icmp .ge 8, 3, 338, 0, 0, 0), (333, .iload 11, 2, 0, 0, 0, 0), (335, .goto 5, 3, 340, 0, 0, 0)],
  [(338, .iload 6, 2, 0, 0, 0, 0), (340, .putfield 35, 3, 7, 6, 0, 243), (343, .aload_n 0, 1, 0, 0, 0, 0), (344, .dup, 1, 0, 0, 0, 0), (345, .getfield 38, 3, 7, 7, 0, 244), (348, .aload_n 0, 1, 0, 0, 0, 0), (349, .getfield 35, 3, 7, 6, 0, 243)],
  [(352, .iadd, 1, 0, 0, 0, 0), (353, .putfield 38, 3, 7, 7, 0, 244), (356, .iload 11, 2, 0, 0, 0, 0), (358, .aload_n 0, 1, 0, 0, 0, 0), (359, .getfield 35, 3, 7, 6, 0, 243), (362, .isub, 1, 0, 0, 0, 0), (363, .istore 11, 2, 0, 0, 0, 0), (365, .aload_n 0, 1, 0, 0, 0, 0), (366, .dup, 1, 0, 0, 0, 0), (367, .getfield 41, 3, 7, 8, 0, 245)],
  [(370, .aload_n 0, 1, 0, 0, 0, 0), (371, .getfield 44, 3, 7, 9, 0, 246), (374, .ifCond .eq 7, 3, 381, 0, 0, 0), (377, .iconst 0, 1, 0, 0, 0, 0), (378, .goto 13, 3, 391, 0, 0, 0), (381, .aload_n 0, 1, 0, 0, 0, 0), (382, .getfield 35, 3, 7, 6, 0, 243)],
  [(385, .iload 11, 2, 0, 0, 0, 0), (387, .iload 11, 2, 0, 0, 0, 0), (389, .imul, 1, 0, 0, 0, 0), (390, .iadd, 1, 0, 0, 0, 0), (391, .iadd, 1, 0, 0, 0, 0), (392, .putfield 41, 3, 7, 8, 0, 245), (395, .iconst 1, 1, 0, 0, 0, 0), (396, .ireturn, 1, 0, 0, 0, 0)]]
def qc_X7_isPage : qCd := (ql_X7_isPage_0 ++ (ql_X7_isPage_1), [], 2, 12)
def qc_X7_mostFloats : qCd := ([[(0, .aload_n 0, 1, 0, 0, 0, 0), (1, .getfield 24, 3, 7, 3, 0, 240), (4, .getfield 75, 3, 9, 8, 1, 181), (7, .iload_n 1, 1, 0, 0, 0, 0), (8, .iaload, 1, 0, 0, 0, 0), (9, .iload_n 2, 1, 0, 0, 0, 0), (10, .isub, 1, 0, 0, 0, 0), (11, .istore_n 3, 1, 0, 0, 0, 0), (12, .iload_n 3, 1, 0, 0, 0, 0), (13, .iconst 2, 1, 0, 0, 0, 0), (14, .if_icmp .ge 7, 3, 21, 0, 0, 0)],
  [(17, .iload_n 3, 1, 0, 0, 0, 0), (18, .goto 4, 3, 22, 0, 0, 0), (21, .iconst 2, 1, 0, 0, 0, 0), (22, .ireturn, 1, 0, 0, 0, 0)]], [], 1, 4)
def qc_X7_costBehind : qCd := ([[(0, .iload_n 1, 1, 0, 0, 0, 0), (1, .ifCond .eq 16, 3, 17, 0, 0, 0), (4, .iload_n 1, 1, 0, 0, 0, 0), (5, .bipush 15, 2, 0, 0, 0, 0), (7, .if_icmp .eq 10, 3, 17, 0, 0, 0), (10, .aload_n 0, 1, 0, 0, 0, 0), (11, .getfield 44, 3, 7, 9, 0, 246), (14, .ifCond .eq 5, 3, 19, 0, 0, 0)],
  [(17, .iconst 0, 1, 0, 0, 0, 0), (18, .ireturn, 1, 0, 0, 0, 0), (19, .aload_n 0, 1, 0, 0, 0, 0), (20, .getfield 38, 3, 7, 7, 0, 244), (23, .iload_n 1, 1, 0, 0, 0, 0), (24, .if_icmp .ge 12, 3, 36, 0, 0, 0), (27, .iload_n 1, 1, 0, 0, 0, 0), (28, .aload_n 0, 1, 0, 0, 0, 0), (29, .getfield 38, 3, 7, 7, 0, 244)],
  [(32, .isub, 1, 0, 0, 0, 0), (33, .goto 9, 3, 42, 0, 0, 0), (36, .aload_n 0, 1, 0, 0, 0, 0), (37, .getfield 38, 3, 7, 7, 0, 244), (40, .iload_n 1, 1, 0, 0, 0, 0), (41, .isub, 1, 0, 0, 0, 0), (42, .ireturn, 1, 0, 0, 0, 0)]], [], 1, 2)
def qc_X7_aheadOfNext : qCd := ([[(0, .iload_n 1, 1, 0, 0, 0, 0), (1, .ifCond .ne 10, 3, 11, 0, 0, 0), (4, .aload_n 0, 1, 0, 0, 0, 0), (5, .getfield 38, 3, 7, 7, 0, 244), (8, .goto 4, 3, 12, 0, 0, 0), (11, .iconst 0, 1, 0, 0, 0, 0), (12, .ireturn, 1, 0, 0, 0, 0)]], [], 1, 2)
def qc_X7_placeAt : qCd := ([[(0, .aload_n 0, 1, 0, 0, 0, 0), (1, .getfield 24, 3, 7, 3, 0, 240), (4, .getfield 75, 3, 9, 8, 1, 181), (7, .iload_n 1, 1, 0, 0, 0, 0), (8, .iaload, 1, 0, 0, 0, 0), (9, .iload_n 2, 1, 0, 0, 0, 0), (10, .isub, 1, 0, 0, 0, 0), (11, .istore 4, 2, 0, 0, 0, 0), (13, .aload_n 0, 1, 0, 0, 0, 0), (14, .getfield 24, 3, 7, 3, 0, 240)],
  [(17, .getfield 69, 3, 9, 9, 1, 183), (20, .iload_n 1, 1, 0, 0, 0, 0), (21, .iaload, 1, 0, 0, 0, 0), (22, .iload_n 3, 1, 0, 0, 0, 0), (23, .isub, 1, 0, 0, 0, 0), (24, .istore 5, 2, 0, 0, 0, 0), (26, .iload_n 1, 1, 0, 0, 0, 0), (27, .bipush 20, 2, 0, 0, 0, 0), (29, .imul, 1, 0, 0, 0, 0), (30, .iload 4, 2, 0, 0, 0, 0)],
  [(32, .iconst 4, 1, 0, 0, 0, 0), (33, .imul, 1, 0, 0, 0, 0), (34, .iadd, 1, 0, 0, 0, 0), (35, .iload 5, 2, 0, 0, 0, 0), (37, .iadd, 1, 0, 0, 0, 0), (38, .ireturn, 1, 0, 0, 0, 0)]], [], 1, 6)
def qc_X7_floatsAt : qCd := ([[(0, .aload_n 0, 1, 0, 0, 0, 0), (1, .getfield 24, 3, 7, 3, 0, 240), (4, .getfield 75, 3, 9, 8, 1, 181), (7, .iload_n 1, 1, 0, 0, 0, 0), (8, .bipush 20, 2, 0, 0, 0, 0), (10, .idiv, 1, 0, 0, 0, 0), (11, .iaload, 1, 0, 0, 0, 0), (12, .iload_n 1, 1, 0, 0, 0, 0), (13, .bipush 20, 2, 0, 0, 0, 0), (15, .irem, 1, 0, 0, 0, 0)],
  [(16, .iconst 4, 1, 0, 0, 0, 0), (17, .idiv, 1, 0, 0, 0, 0), (18, .isub, 1, 0, 0, 0, 0), (19, .ireturn, 1, 0, 0, 0, 0)]], [], 1, 2)
def qc_X7_notesAt : qCd := ([[(0, .aload_n 0, 1, 0, 0, 0, 0), (1, .getfield 24, 3, 7, 3, 0, 240), (4, .getfield 69, 3, 9, 9, 1, 183), (7, .iload_n 1, 1, 0, 0, 0, 0), (8, .bipush 20, 2, 0, 0, 0, 0), (10, .idiv, 1, 0, 0, 0, 0), (11, .iaload, 1, 0, 0, 0, 0), (12, .iload_n 1, 1, 0, 0, 0, 0), (13, .iconst 4, 1, 0, 0, 0, 0), (14, .irem, 1, 0, 0, 0, 0), (15, .isub, 1, 0, 0, 0, 0)],
  [(16, .ireturn, 1, 0, 0, 0, 0)]], [], 1, 2)
def qc_X7_fillBare : qCd := ([[(0, .aload_n 0, 1, 0, 0, 0, 0), (1, .iload_n 1, 1, 0, 0, 0, 0), (2, .putfield 48, 3, 7, 10, 0, 247), (5, .aload_n 0, 1, 0, 0, 0, 0), (6, .getfield 48, 3, 7, 10, 0, 247), (9, .aload_n 0, 1, 0, 0, 0, 0), (10, .getfield 24, 3, 7, 3, 0, 240), (13, .getfield 85, 3, 9, 12, 1, 189)],
  [(16, .if_icmp .ge 47, 3, 63, 0, 0, 0), (19, .aload_n 0, 1, 0, 0, 0, 0), (20, .getfield 24, 3, 7, 3, 0, 240), (23, .getfield 60, 3, 9, 15, 1, 195), (26, .aload_n 0, 1, 0, 0, 0, 0), (27, .getfield 48, 3, 7, 10, 0, 247), (30, .iconst 1, 1, 0, 0, 0, 0), (31, .iadd, 1, 0, 0, 0, 0)],
  [(32, .iaload, 1, 0, 0, 0, 0), (33, .aload_n 0, 1, 0, 0, 0, 0), (34, .getfield 24, 3, 7, 3, 0, 240), (37, .getfield 60, 3, 9, 15, 1, 195), (40, .iload_n 1, 1, 0, 0, 0, 0), (41, .iaload, 1, 0, 0, 0, 0), (42, .isub, 1, 0, 0, 0, 0), (43, .aload_n 0, 1, 0, 0, 0, 0), (44, .getfield 28, 3, 7, 4, 0, 241), (47, .if_icmp .gt 16, 3, 63, 0, 0, 0)],
  [(50, .aload_n 0, 1, 0, 0, 0, 0), (51, .dup, 1, 0, 0, 0, 0), (52, .getfield 48, 3, 7, 10, 0, 247), (55, .iconst 1, 1, 0, 0, 0, 0), (56, .iadd, 1, 0, 0, 0, 0), (57, .putfield 48, 3, 7, 10, 0, 247), (60, .goto (-55), 3, 5, 0, 0, 0), (63, .aload_n 0, 1, 0, 0, 0, 0)],
  [(64, .getfield 24, 3, 7, 3, 0, 240), (67, .getfield 60, 3, 9, 15, 1, 195), (70, .aload_n 0, 1, 0, 0, 0, 0), (71, .getfield 48, 3, 7, 10, 0, 247), (74, .iaload, 1, 0, 0, 0, 0), (75, .aload_n 0, 1, 0, 0, 0, 0), (76, .getfield 24, 3, 7, 3, 0, 240), (79, .getfield 60, 3, 9, 15, 1, 195)],
  [(82, .iload_n 1, 1, 0, 0, 0, 0), (83, .iaload, 1, 0, 0, 0, 0), (84, .isub, 1, 0, 0, 0, 0), (85, .istore_n 3, 1, 0, 0, 0, 0), (86, .aload_n 0, 1, 0, 0, 0, 0), (87, .getfield 24, 3, 7, 3, 0, 240), (90, .getfield 88, 3, 9, 16, 1, 197), (93, .iload_n 2, 1, 0, 0, 0, 0), (94, .isub, 1, 0, 0, 0, 0), (95, .istore 4, 2, 0, 0, 0, 0)],
  [(97, .aload_n 0, 1, 0, 0, 0, 0), (98, .getfield 28, 3, 7, 4, 0, 241), (101, .iload_n 3, 1, 0, 0, 0, 0), (102, .isub, 1, 0, 0, 0, 0), (103, .iconst 1, 1, 0, 0, 0, 0), (104, .isub, 1, 0, 0, 0, 0), (105, .istore 5, 2, 0, 0, 0, 0), (107, .aload_n 0, 1, 0, 0, 0, 0), (108, .iload 5, 2, 0, 0, 0, 0), (110, .iconst 1, 1, 0, 0, 0, 0), (111, .if_icmp .ge 7, 3, 118, 0, 0, 0)],
  [(114, .iconst 0, 1, 0, 0, 0, 0), (115, .goto 17, 3, 132, 0, 0, 0), (118, .iload 4, 2, 0, 0, 0, 0), (120, .iload 5, 2, 0, 0, 0, 0), (122, .if_icmp .ge 8, 3, 130, 0, 0, 0), (125, .iload 4, 2, 0, 0, 0, 0), (127, .goto 5, 3, 132, 0, 0, 0)],
  [(130, .iload 5, 2, 0, 0, 0, 0), (132, .putfield 51, 3, 7, 11, 0, 248), (135, .aload_n 0, 1, 0, 0, 0, 0), (136, .iload_n 3, 1, 0, 0, 0, 0), (137, .aload_n 0, 1, 0, 0, 0, 0), (138, .getfield 51, 3, 7, 11, 0, 248), (141, .ifCond .le 12, 3, 153, 0, 0, 0)],
  [(144, .aload_n 0, 1, 0, 0, 0, 0), (145, .getfield 51, 3, 7, 11, 0, 248), (148, .iconst 1, 1, 0, 0, 0, 0), (149, .iadd, 1, 0, 0, 0, 0), (150, .goto 4, 3, 154, 0, 0, 0), (153, .iconst 0, 1, 0, 0, 0, 0), (154, .iadd, 1, 0, 0, 0, 0), (155, .putfield 54, 3, 7, 12, 0, 249), (158, .return_, 1, 0, 0, 0, 0)]], [], 0, 6)
def qc_X7_barePages : qCd := ([[(0, .iconst 0, 1, 0, 0, 0, 0), (1, .istore_n 3, 1, 0, 0, 0, 0), (2, .iload_n 3, 1, 0, 0, 0, 0), (3, .bipush 16, 2, 0, 0, 0, 0), (5, .if_icmp .ge 49, 3, 54, 0, 0, 0), (8, .iload_n 1, 1, 0, 0, 0, 0), (9, .aload_n 0, 1, 0, 0, 0, 0), (10, .getfield 24, 3, 7, 3, 0, 240), (13, .getfield 85, 3, 9, 12, 1, 189)],
  [(16, .if_icmp .lt 14, 3, 30, 0, 0, 0), (19, .iload_n 2, 1, 0, 0, 0, 0), (20, .aload_n 0, 1, 0, 0, 0, 0), (21, .getfield 24, 3, 7, 3, 0, 240), (24, .getfield 88, 3, 9, 16, 1, 197), (27, .if_icmp .ge 27, 3, 54, 0, 0, 0), (30, .aload_n 0, 1, 0, 0, 0, 0), (31, .iload_n 1, 1, 0, 0, 0, 0)],
  [(32, .iload_n 2, 1, 0, 0, 0, 0), (33, .invokevirtual 91, 3, 65, 3, 70, 1001), (36, .aload_n 0, 1, 0, 0, 0, 0), (37, .getfield 48, 3, 7, 10, 0, 247), (40, .istore_n 1, 1, 0, 0, 0, 0), (41, .iload_n 2, 1, 0, 0, 0, 0), (42, .aload_n 0, 1, 0, 0, 0, 0), (43, .getfield 51, 3, 7, 11, 0, 248), (46, .iadd, 1, 0, 0, 0, 0), (47, .istore_n 2, 1, 0, 0, 0, 0)],
  [(48, .iinc 3 1, 3, 0, 0, 0, 0), (51, .goto (-49), 3, 2, 0, 0, 0), (54, .iload_n 3, 1, 0, 0, 0, 0), (55, .ireturn, 1, 0, 0, 0, 0)]], [], 1, 4)
def qc_X7_hasAdded : qCd := ([[(0, .aload_n 1, 1, 0, 0, 0, 0), (1, .aload_n 1, 1, 0, 0, 0, 0), (2, .getfield 95, 3, 8, 1, 1, 398), (5, .invokevirtual 98, 3, 82, 2, 81, 950), (8, .istore 4, 2, 0, 0, 0, 0), (10, .aload_n 1, 1, 0, 0, 0, 0), (11, .aload_n 1, 1, 0, 0, 0, 0), (12, .getfield 95, 3, 8, 1, 1, 398), (15, .invokevirtual 102, 3, 83, 2, 81, 951)],
  [(18, .istore 5, 2, 0, 0, 0, 0), (20, .aload_n 1, 1, 0, 0, 0, 0), (21, .aload_n 1, 1, 0, 0, 0, 0), (22, .getfield 95, 3, 8, 1, 1, 398), (25, .invokevirtual 105, 3, 84, 2, 81, 952), (28, .istore 6, 2, 0, 0, 0, 0), (30, .iload_n 2, 1, 0, 0, 0, 0), (31, .iload 4, 2, 0, 0, 0, 0)],
  [(33, .if_icmp .le 44, 3, 77, 0, 0, 0), (36, .iload_n 2, 1, 0, 0, 0, 0), (37, .aload_n 0, 1, 0, 0, 0, 0), (38, .getfield 24, 3, 7, 3, 0, 240), (41, .getfield 63, 3, 9, 0, 1, 157), (44, .if_icmp .gt 33, 3, 77, 0, 0, 0), (47, .iload_n 3, 1, 0, 0, 0, 0)],
  [(48, .ifCond .lt 29, 3, 77, 0, 0, 0), (51, .iload_n 3, 1, 0, 0, 0, 0), (52, .aload_n 0, 1, 0, 0, 0, 0), (53, .iload_n 2, 1, 0, 0, 0, 0), (54, .iload 5, 2, 0, 0, 0, 0), (56, .invokevirtual 108, 3, 59, 3, 70, 953), (59, .if_icmp .gt 18, 3, 77, 0, 0, 0), (62, .aload_n 0, 1, 0, 0, 0, 0), (63, .iload 4, 2, 0, 0, 0, 0)],
  [(65, .iload_n 2, 1, 0, 0, 0, 0), (66, .iload 5, 2, 0, 0, 0, 0), (68, .iload_n 3, 1, 0, 0, 0, 0), (69, .iload 6, 2, 0, 0, 0, 0), (71, .invokevirtual 112, 3, 58, 6, 70, 957), (74, .ifCond .ne 5, 3, 79, 0, 0, 0), (77, .iconst 0, 1, 0, 0, 0, 0), (78, .ireturn, 1, 0, 0, 0, 0), (79, .aload_n 1, 1, 0, 0, 0, 0)],
  [(80, .dup, 1, 0, 0, 0, 0), (81, .getfield 116, 3, 8, 3, 1, 404), (84, .aload_n 0, 1, 0, 0, 0, 0), (85, .getfield 41, 3, 7, 8, 0, 245), (88, .aload_n 0, 1, 0, 0, 0, 0), (89, .aload_n 1, 1, 0, 0, 0, 0), (90, .invokestatic 119, 3, 68, 1, 72, 961), (93, .invokevirtual 123, 3, 60, 2, 70, 964)],
  [(96, .iadd, 1, 0, 0, 0, 0), (97, .iadd, 1, 0, 0, 0, 0), (98, .putfield 116, 3, 8, 3, 1, 404), (101, .aload_n 1, 1, 0, 0, 0, 0), (102, .iload_n 2, 1, 0, 0, 0, 0), (103, .iload 5, 2, 0, 0, 0, 0), (105, .iload_n 3, 1, 0, 0, 0, 0), (106, .iadd, 1, 0, 0, 0, 0), (107, .iload 6, 2, 0, 0, 0, 0), (109, .aload_n 0, 1, 0, 0, 0, 0), (110, .getfield 32, 3, 7, 5, 0, 242)],
  [(113, .iadd, 1, 0, 0, 0, 0), (114, .aload_n 0, 1, 0, 0, 0, 0), (115, .getfield 35, 3, 7, 6, 0, 243), (118, .aload_n 0, 1, 0, 0, 0, 0), (119, .getfield 38, 3, 7, 7, 0, 244), (122, .invokevirtual 126, 3, 81, 6, 81, 968), (125, .iconst 1, 1, 0, 0, 0, 0), (126, .ireturn, 1, 0, 0, 0, 0)]], [], 2, 7)
def qc_X7_aheadOf : qCd := ([[(0, .aload_n 0, 1, 0, 0, 0, 0), (1, .getfield 95, 3, 8, 1, 1, 398), (4, .ifCond .ne 6, 3, 10, 0, 0, 0), (7, .bipush 15, 2, 0, 0, 0, 0), (9, .ireturn, 1, 0, 0, 0, 0), (10, .aload_n 0, 1, 0, 0, 0, 0), (11, .getfield 95, 3, 8, 1, 1, 398), (14, .iconst 2, 1, 0, 0, 0, 0), (15, .irem, 1, 0, 0, 0, 0)],
  [(16, .ifCond .ne 17, 3, 33, 0, 0, 0), (19, .aload_n 0, 1, 0, 0, 0, 0), (20, .getfield 130, 3, 8, 8, 1, 419), (23, .aload_n 0, 1, 0, 0, 0, 0), (24, .getfield 95, 3, 8, 1, 1, 398), (27, .iconst 1, 1, 0, 0, 0, 0), (28, .isub, 1, 0, 0, 0, 0), (29, .iaload, 1, 0, 0, 0, 0), (30, .goto 4, 3, 34, 0, 0, 0)],
  [(33, .iconst 0, 1, 0, 0, 0, 0), (34, .ireturn, 1, 0, 0, 0, 0)]], [], 1, 1)
def qc_X7_hasMadeRest : qCd := ([[(0, .aload_n 1, 1, 0, 0, 0, 0), (1, .aload_n 1, 1, 0, 0, 0, 0), (2, .getfield 95, 3, 8, 1, 1, 398), (5, .invokevirtual 98, 3, 82, 2, 81, 950), (8, .istore_n 2, 1, 0, 0, 0, 0), (9, .aload_n 0, 1, 0, 0, 0, 0), (10, .iload_n 2, 1, 0, 0, 0, 0), (11, .aload_n 1, 1, 0, 0, 0, 0), (12, .aload_n 1, 1, 0, 0, 0, 0), (13, .getfield 95, 3, 8, 1, 1, 398)],
  [(16, .invokevirtual 102, 3, 83, 2, 81, 951), (19, .aload_n 1, 1, 0, 0, 0, 0), (20, .aload_n 1, 1, 0, 0, 0, 0), (21, .getfield 95, 3, 8, 1, 1, 398), (24, .invokevirtual 105, 3, 84, 2, 81, 952), (27, .invokevirtual 132, 3, 62, 4, 70, 976), (30, .istore_n 3, 1, 0, 0, 0, 0), (31, .aload_n 1, 1, 0, 0, 0, 0)],
  [(32, .invokestatic 119, 3, 68, 1, 72, 961), (35, .istore 4, 2, 0, 0, 0, 0), (37, .aload_n 0, 1, 0, 0, 0, 0), (38, .getfield 11, 3, 7, 0, 0, 237), (41, .iconst 0, 1, 0, 0, 0, 0), (42, .invokestatic 136, 3, 267, 2, 2, 980), (45, .aload_n 0, 1, 0, 0, 0, 0), (46, .getfield 11, 3, 7, 0, 0, 237)],
  [(49, .iload_n 3, 1, 0, 0, 0, 0), (50, .iconst 1, 1, 0, 0, 0, 0), (51, .iload 4, 2, 0, 0, 0, 0), (53, .ishl, 1, 0, 0, 0, 0), (54, .iastore, 1, 0, 0, 0, 0), (55, .iload_n 2, 1, 0, 0, 0, 0), (56, .bipush 20, 2, 0, 0, 0, 0), (58, .imul, 1, 0, 0, 0, 0), (59, .istore 5, 2, 0, 0, 0, 0), (61, .iload 5, 2, 0, 0, 0, 0), (63, .aload_n 0, 1, 0, 0, 0, 0)],
  [(64, .getfield 24, 3, 7, 3, 0, 240), (67, .getfield 63, 3, 9, 0, 1, 157), (70, .bipush 20, 2, 0, 0, 0, 0), (72, .imul, 1, 0, 0, 0, 0), (73, .if_icmp .ge 25, 3, 98, 0, 0, 0), (76, .aload_n 0, 1, 0, 0, 0, 0), (77, .getfield 11, 3, 7, 0, 0, 237)],
  [(80, .iload 5, 2, 0, 0, 0, 0), (82, .iaload, 1, 0, 0, 0, 0), (83, .ifCond .eq 9, 3, 92, 0, 0, 0), (86, .aload_n 0, 1, 0, 0, 0, 0), (87, .iload 5, 2, 0, 0, 0, 0), (89, .invokevirtual 142, 3, 70, 2, 70, 981), (92, .iinc 5 1, 3, 0, 0, 0, 0), (95, .goto (-34), 3, 61, 0, 0, 0)],
  [(98, .aload_n 0, 1, 0, 0, 0, 0), (99, .invokevirtual 146, 3, 71, 1, 70, 993), (102, .aload_n 0, 1, 0, 0, 0, 0), (103, .getfield 24, 3, 7, 3, 0, 240), (106, .getfield 63, 3, 9, 0, 1, 157), (109, .bipush 20, 2, 0, 0, 0, 0), (111, .imul, 1, 0, 0, 0, 0)],
  [(112, .iconst 1, 1, 0, 0, 0, 0), (113, .isub, 1, 0, 0, 0, 0), (114, .istore 5, 2, 0, 0, 0, 0), (116, .iload 5, 2, 0, 0, 0, 0), (118, .iload_n 2, 1, 0, 0, 0, 0), (119, .bipush 20, 2, 0, 0, 0, 0), (121, .imul, 1, 0, 0, 0, 0), (122, .if_icmp .lt 25, 3, 147, 0, 0, 0), (125, .aload_n 0, 1, 0, 0, 0, 0), (126, .getfield 11, 3, 7, 0, 0, 237)],
  [(129, .iload 5, 2, 0, 0, 0, 0), (131, .iaload, 1, 0, 0, 0, 0), (132, .ifCond .eq 9, 3, 141, 0, 0, 0), (135, .aload_n 0, 1, 0, 0, 0, 0), (136, .iload 5, 2, 0, 0, 0, 0), (138, .invokevirtual 149, 3, 72, 2, 70, 1276), (141, .iinc 5 (-1), 3, 0, 0, 0, 0)],
  [(144, .goto (-28), 3, 116, 0, 0, 0), (147, .aload_n 0, 1, 0, 0, 0, 0), (148, .getfield 15, 3, 7, 1, 0, 238), (151, .iload_n 3, 1, 0, 0, 0, 0), (152, .bipush 16, 2, 0, 0, 0, 0), (154, .imul, 1, 0, 0, 0, 0), (155, .iload 4, 2, 0, 0, 0, 0), (157, .iadd, 1, 0, 0, 0, 0), (158, .iaload, 1, 0, 0, 0, 0), (159, .ldc 152, 2, 268435456, 0, 0, 1280)],
  [(161, .if_icmp .lt 5, 3, 166, 0, 0, 0), (164, .iconst 0, 1, 0, 0, 0, 0), (165, .ireturn, 1, 0, 0, 0, 0), (166, .aload_n 0, 1, 0, 0, 0, 0), (167, .aload_n 1, 1, 0, 0, 0, 0), (168, .invokevirtual 153, 3, 75, 2, 70, 1289), (171, .aload_n 0, 1, 0, 0, 0, 0), (172, .aload_n 1, 1, 0, 0, 0, 0), (173, .invokevirtual 157, 3, 76, 2, 70, 1294)],
  [(176, .iconst 1, 1, 0, 0, 0, 0), (177, .ireturn, 1, 0, 0, 0, 0)]], [], 2, 6)
def qc_X7_reachBehind : qCd := ([[(0, .iload_n 1, 1, 0, 0, 0, 0), (1, .bipush 20, 2, 0, 0, 0, 0), (3, .idiv, 1, 0, 0, 0, 0), (4, .istore_n 2, 1, 0, 0, 0, 0), (5, .aload_n 0, 1, 0, 0, 0, 0), (6, .iload_n 1, 1, 0, 0, 0, 0), (7, .invokevirtual 160, 3, 63, 2, 70, 985), (10, .istore_n 3, 1, 0, 0, 0, 0), (11, .aload_n 0, 1, 0, 0, 0, 0), (12, .iload_n 1, 1, 0, 0, 0, 0), (13, .invokevirtual 163, 3, 64, 2, 70, 989)],
  [(16, .istore 4, 2, 0, 0, 0, 0), (18, .aload_n 0, 1, 0, 0, 0, 0), (19, .getfield 11, 3, 7, 0, 0, 237), (22, .iload_n 1, 1, 0, 0, 0, 0), (23, .iaload, 1, 0, 0, 0, 0), (24, .bipush (-2), 2, 0, 0, 0, 0), (26, .iand, 1, 0, 0, 0, 0), (27, .ifCond .eq 7, 3, 34, 0, 0, 0), (30, .iconst 1, 1, 0, 0, 0, 0), (31, .goto 4, 3, 35, 0, 0, 0)],
  [(34, .iconst 0, 1, 0, 0, 0, 0), (35, .istore 5, 2, 0, 0, 0, 0), (37, .aload_n 0, 1, 0, 0, 0, 0), (38, .getfield 11, 3, 7, 0, 0, 237), (41, .iload_n 1, 1, 0, 0, 0, 0), (42, .iaload, 1, 0, 0, 0, 0), (43, .iconst 1, 1, 0, 0, 0, 0), (44, .iand, 1, 0, 0, 0, 0), (45, .ifCond .eq 7, 3, 52, 0, 0, 0)],
  [(48, .iconst 1, 1, 0, 0, 0, 0), (49, .goto 4, 3, 53, 0, 0, 0), (52, .iconst 0, 1, 0, 0, 0, 0), (53, .istore 6, 2, 0, 0, 0, 0), (55, .iload_n 2, 1, 0, 0, 0, 0), (56, .iconst 1, 1, 0, 0, 0, 0), (57, .iadd, 1, 0, 0, 0, 0), (58, .istore 7, 2, 0, 0, 0, 0), (60, .iload 7, 2, 0, 0, 0, 0), (62, .aload_n 0, 1, 0, 0, 0, 0), (63, .getfield 24, 3, 7, 3, 0, 240)],
  [(66, .getfield 63, 3, 9, 0, 1, 157), (69, .if_icmp .ge 119, 3, 188, 0, 0, 0), (72, .iload 7, 2, 0, 0, 0, 0), (74, .iload_n 2, 1, 0, 0, 0, 0), (75, .aload_n 0, 1, 0, 0, 0, 0), (76, .getfield 28, 3, 7, 4, 0, 241), (79, .iadd, 1, 0, 0, 0, 0)],
  [(80, .if_icmp .gt 108, 3, 188, 0, 0, 0), (83, .aload_n 0, 1, 0, 0, 0, 0), (84, .iload 7, 2, 0, 0, 0, 0), (86, .iload_n 3, 1, 0, 0, 0, 0), (87, .invokevirtual 108, 3, 59, 3, 70, 953), (90, .istore 8, 2, 0, 0, 0, 0), (92, .iload 8, 2, 0, 0, 0, 0), (94, .ifCond .lt 88, 3, 182, 0, 0, 0)],
  [(97, .aload_n 0, 1, 0, 0, 0, 0), (98, .iload_n 2, 1, 0, 0, 0, 0), (99, .iload 7, 2, 0, 0, 0, 0), (101, .iload_n 3, 1, 0, 0, 0, 0), (102, .iload 8, 2, 0, 0, 0, 0), (104, .iload 4, 2, 0, 0, 0, 0), (106, .invokevirtual 112, 3, 58, 6, 70, 957), (109, .ifCond .eq 67, 3, 176, 0, 0, 0)],
  [(112, .aload_n 0, 1, 0, 0, 0, 0), (113, .iload 7, 2, 0, 0, 0, 0), (115, .iload_n 3, 1, 0, 0, 0, 0), (116, .iload 8, 2, 0, 0, 0, 0), (118, .iadd, 1, 0, 0, 0, 0), (119, .iload 4, 2, 0, 0, 0, 0), (121, .aload_n 0, 1, 0, 0, 0, 0), (122, .getfield 32, 3, 7, 5, 0, 242), (125, .iadd, 1, 0, 0, 0, 0), (126, .invokevirtual 132, 3, 62, 4, 70, 976)],
  [(129, .istore 9, 2, 0, 0, 0, 0), (131, .aload_n 0, 1, 0, 0, 0, 0), (132, .getfield 11, 3, 7, 0, 0, 237), (135, .iload 9, 2, 0, 0, 0, 0), (137, .dup2, 1, 0, 0, 0, 0), (138, .iaload, 1, 0, 0, 0, 0), (139, .iload 5, 2, 0, 0, 0, 0), (141, .ifCond .eq 7, 3, 148, 0, 0, 0)],
  [(144, .iconst 1, 1, 0, 0, 0, 0), (145, .goto 4, 3, 149, 0, 0, 0), (148, .iconst 0, 1, 0, 0, 0, 0), (149, .ior, 1, 0, 0, 0, 0), (150, .iastore, 1, 0, 0, 0, 0), (151, .aload_n 0, 1, 0, 0, 0, 0), (152, .getfield 11, 3, 7, 0, 0, 237), (155, .iload 9, 2, 0, 0, 0, 0), (157, .dup2, 1, 0, 0, 0, 0), (158, .iaload, 1, 0, 0, 0, 0), (159, .iload 6, 2, 0, 0, 0, 0)],
  [(161, .ifCond .eq 12, 3, 173, 0, 0, 0), (164, .iconst 1, 1, 0, 0, 0, 0), (165, .aload_n 0, 1, 0, 0, 0, 0), (166, .getfield 38, 3, 7, 7, 0, 244), (169, .ishl, 1, 0, 0, 0, 0), (170, .goto 4, 3, 174, 0, 0, 0), (173, .iconst 0, 1, 0, 0, 0, 0), (174, .ior, 1, 0, 0, 0, 0), (175, .iastore, 1, 0, 0, 0, 0)],
  [(176, .iinc 8 (-1), 3, 0, 0, 0, 0), (179, .goto (-87), 3, 92, 0, 0, 0), (182, .iinc 7 1, 3, 0, 0, 0, 0), (185, .goto (-125), 3, 60, 0, 0, 0), (188, .return_, 1, 0, 0, 0, 0)]], [], 0, 10)
def qc_X7_weighEnds : qCd := ([[(0, .aload_n 0, 1, 0, 0, 0, 0), (1, .getfield 24, 3, 7, 3, 0, 240), (4, .getfield 63, 3, 9, 0, 1, 157), (7, .bipush 20, 2, 0, 0, 0, 0), (9, .imul, 1, 0, 0, 0, 0), (10, .istore_n 1, 1, 0, 0, 0, 0), (11, .iload_n 1, 1, 0, 0, 0, 0), (12, .sipush 1420, 3, 0, 0, 0, 0), (15, .if_icmp .ge 70, 3, 85, 0, 0, 0)],
  [(18, .iload_n 1, 1, 0, 0, 0, 0), (19, .aload_n 0, 1, 0, 0, 0, 0), (20, .getfield 24, 3, 7, 3, 0, 240), (23, .getfield 63, 3, 9, 0, 1, 157), (26, .iconst 1, 1, 0, 0, 0, 0), (27, .iadd, 1, 0, 0, 0, 0), (28, .bipush 20, 2, 0, 0, 0, 0), (30, .imul, 1, 0, 0, 0, 0), (31, .if_icmp .ge 54, 3, 85, 0, 0, 0)],
  [(34, .aload_n 0, 1, 0, 0, 0, 0), (35, .iload_n 1, 1, 0, 0, 0, 0), (36, .invokevirtual 160, 3, 63, 2, 70, 985), (39, .istore_n 2, 1, 0, 0, 0, 0), (40, .aload_n 0, 1, 0, 0, 0, 0), (41, .iload_n 1, 1, 0, 0, 0, 0), (42, .invokevirtual 163, 3, 64, 2, 70, 989), (45, .istore_n 3, 1, 0, 0, 0, 0), (46, .iload_n 2, 1, 0, 0, 0, 0), (47, .ifCond .lt 32, 3, 79, 0, 0, 0)],
  [(50, .iload_n 3, 1, 0, 0, 0, 0), (51, .ifCond .lt 28, 3, 79, 0, 0, 0), (54, .aload_n 0, 1, 0, 0, 0, 0), (55, .getfield 15, 3, 7, 1, 0, 238), (58, .iload_n 1, 1, 0, 0, 0, 0), (59, .bipush 16, 2, 0, 0, 0, 0), (61, .imul, 1, 0, 0, 0, 0), (62, .iload_n 1, 1, 0, 0, 0, 0), (63, .iconst 1, 1, 0, 0, 0, 0)],
  [(64, .iadd, 1, 0, 0, 0, 0), (65, .bipush 16, 2, 0, 0, 0, 0), (67, .imul, 1, 0, 0, 0, 0), (68, .iconst 5, 1, 0, 0, 0, 0), (69, .aload_n 0, 1, 0, 0, 0, 0), (70, .iload_n 2, 1, 0, 0, 0, 0), (71, .iload_n 3, 1, 0, 0, 0, 0), (72, .invokevirtual 166, 3, 66, 3, 70, 997), (75, .imul, 1, 0, 0, 0, 0), (76, .invokestatic 169, 3, 268, 4, 2, 1005), (79, .iinc 1 1, 3, 0, 0, 0, 0)],
  [(82, .goto (-71), 3, 11, 0, 0, 0), (85, .return_, 1, 0, 0, 0, 0)]], [], 0, 4)
def qc_X7_weigh : qCd := ([[(0, .iload_n 1, 1, 0, 0, 0, 0), (1, .bipush 20, 2, 0, 0, 0, 0), (3, .idiv, 1, 0, 0, 0, 0), (4, .istore_n 2, 1, 0, 0, 0, 0), (5, .aload_n 0, 1, 0, 0, 0, 0), (6, .iload_n 1, 1, 0, 0, 0, 0), (7, .invokevirtual 160, 3, 63, 2, 70, 985), (10, .istore_n 3, 1, 0, 0, 0, 0), (11, .aload_n 0, 1, 0, 0, 0, 0), (12, .iload_n 1, 1, 0, 0, 0, 0), (13, .invokevirtual 163, 3, 64, 2, 70, 989)],
  [(16, .istore 4, 2, 0, 0, 0, 0), (18, .aload_n 0, 1, 0, 0, 0, 0), (19, .getfield 15, 3, 7, 1, 0, 238), (22, .iload_n 1, 1, 0, 0, 0, 0), (23, .bipush 16, 2, 0, 0, 0, 0), (25, .imul, 1, 0, 0, 0, 0), (26, .iload_n 1, 1, 0, 0, 0, 0), (27, .iconst 1, 1, 0, 0, 0, 0), (28, .iadd, 1, 0, 0, 0, 0), (29, .bipush 16, 2, 0, 0, 0, 0), (31, .imul, 1, 0, 0, 0, 0)],
  [(32, .ldc 152, 2, 268435456, 0, 0, 1280), (34, .invokestatic 169, 3, 268, 4, 2, 1005), (37, .iload_n 2, 1, 0, 0, 0, 0), (38, .aload_n 0, 1, 0, 0, 0, 0), (39, .getfield 28, 3, 7, 4, 0, 241), (42, .iadd, 1, 0, 0, 0, 0), (43, .aload_n 0, 1, 0, 0, 0, 0), (44, .getfield 24, 3, 7, 3, 0, 240), (47, .getfield 63, 3, 9, 0, 1, 157)],
  [(50, .if_icmp .ge 12, 3, 62, 0, 0, 0), (53, .iload_n 2, 1, 0, 0, 0, 0), (54, .aload_n 0, 1, 0, 0, 0, 0), (55, .getfield 28, 3, 7, 4, 0, 241), (58, .iadd, 1, 0, 0, 0, 0), (59, .goto 10, 3, 69, 0, 0, 0), (62, .aload_n 0, 1, 0, 0, 0, 0), (63, .getfield 24, 3, 7, 3, 0, 240)],
  [(66, .getfield 63, 3, 9, 0, 1, 157), (69, .istore 5, 2, 0, 0, 0, 0), (71, .iload 5, 2, 0, 0, 0, 0), (73, .istore 6, 2, 0, 0, 0, 0), (75, .iload 6, 2, 0, 0, 0, 0), (77, .iload_n 2, 1, 0, 0, 0, 0), (78, .if_icmp .le 77, 3, 155, 0, 0, 0)],
  [(81, .aload_n 0, 1, 0, 0, 0, 0), (82, .iload 6, 2, 0, 0, 0, 0), (84, .iload_n 3, 1, 0, 0, 0, 0), (85, .invokevirtual 108, 3, 59, 3, 70, 953), (88, .istore 7, 2, 0, 0, 0, 0), (90, .iload 7, 2, 0, 0, 0, 0), (92, .ifCond .lt 57, 3, 149, 0, 0, 0), (95, .aload_n 0, 1, 0, 0, 0, 0)],
  [(96, .iload_n 2, 1, 0, 0, 0, 0), (97, .iload 6, 2, 0, 0, 0, 0), (99, .iload_n 3, 1, 0, 0, 0, 0), (100, .iload 7, 2, 0, 0, 0, 0), (102, .iload 4, 2, 0, 0, 0, 0), (104, .invokevirtual 112, 3, 58, 6, 70, 957), (107, .ifCond .eq 36, 3, 143, 0, 0, 0), (110, .aload_n 0, 1, 0, 0, 0, 0), (111, .iload 6, 2, 0, 0, 0, 0)],
  [(113, .iload_n 3, 1, 0, 0, 0, 0), (114, .iload 7, 2, 0, 0, 0, 0), (116, .iadd, 1, 0, 0, 0, 0), (117, .iload 4, 2, 0, 0, 0, 0), (119, .aload_n 0, 1, 0, 0, 0, 0), (120, .getfield 32, 3, 7, 5, 0, 242), (123, .iadd, 1, 0, 0, 0, 0), (124, .invokevirtual 132, 3, 62, 4, 70, 976), (127, .istore 8, 2, 0, 0, 0, 0)],
  [(129, .aload_n 0, 1, 0, 0, 0, 0), (130, .iload_n 1, 1, 0, 0, 0, 0), (131, .iload 8, 2, 0, 0, 0, 0), (133, .iload 6, 2, 0, 0, 0, 0), (135, .iconst 4, 1, 0, 0, 0, 0), (136, .imul, 1, 0, 0, 0, 0), (137, .iload 7, 2, 0, 0, 0, 0), (139, .iadd, 1, 0, 0, 0, 0), (140, .invokevirtual 172, 3, 73, 4, 70, 1281), (143, .iinc 7 (-1), 3, 0, 0, 0, 0)],
  [(146, .goto (-56), 3, 90, 0, 0, 0), (149, .iinc 6 (-1), 3, 0, 0, 0, 0), (152, .goto (-77), 3, 75, 0, 0, 0), (155, .return_, 1, 0, 0, 0, 0)]], [], 0, 9)
def qc_X7_weighPage : qCd := ([[(0, .aload_n 0, 1, 0, 0, 0, 0), (1, .getfield 11, 3, 7, 0, 0, 237), (4, .iload_n 1, 1, 0, 0, 0, 0), (5, .iaload, 1, 0, 0, 0, 0), (6, .istore 4, 2, 0, 0, 0, 0), (8, .iload 4, 2, 0, 0, 0, 0), (10, .iconst 1, 1, 0, 0, 0, 0), (11, .iand, 1, 0, 0, 0, 0), (12, .ifCond .eq 33, 3, 45, 0, 0, 0), (15, .aload_n 0, 1, 0, 0, 0, 0)],
  [(16, .iload_n 1, 1, 0, 0, 0, 0), (17, .bipush 16, 2, 0, 0, 0, 0), (19, .imul, 1, 0, 0, 0, 0), (20, .iconst 0, 1, 0, 0, 0, 0), (21, .iadd, 1, 0, 0, 0, 0), (22, .aload_n 0, 1, 0, 0, 0, 0), (23, .getfield 41, 3, 7, 8, 0, 245), (26, .aload_n 0, 1, 0, 0, 0, 0), (27, .getfield 15, 3, 7, 1, 0, 238), (30, .iload_n 2, 1, 0, 0, 0, 0), (31, .bipush 16, 2, 0, 0, 0, 0)],
  [(33, .imul, 1, 0, 0, 0, 0), (34, .aload_n 0, 1, 0, 0, 0, 0), (35, .getfield 38, 3, 7, 7, 0, 244), (38, .iadd, 1, 0, 0, 0, 0), (39, .iaload, 1, 0, 0, 0, 0), (40, .iadd, 1, 0, 0, 0, 0), (41, .iload_n 3, 1, 0, 0, 0, 0), (42, .invokevirtual 176, 3, 74, 4, 70, 1285), (45, .aload_n 0, 1, 0, 0, 0, 0), (46, .getfield 41, 3, 7, 8, 0, 245)],
  [(49, .aload_n 0, 1, 0, 0, 0, 0), (50, .getfield 15, 3, 7, 1, 0, 238), (53, .iload_n 2, 1, 0, 0, 0, 0), (54, .bipush 16, 2, 0, 0, 0, 0), (56, .imul, 1, 0, 0, 0, 0), (57, .iconst 0, 1, 0, 0, 0, 0), (58, .iadd, 1, 0, 0, 0, 0), (59, .iaload, 1, 0, 0, 0, 0), (60, .iadd, 1, 0, 0, 0, 0), (61, .istore 5, 2, 0, 0, 0, 0), (63, .iload 4, 2, 0, 0, 0, 0)],
  [(65, .iconst 1, 1, 0, 0, 0, 0), (66, .ishr, 1, 0, 0, 0, 0), (67, .istore 6, 2, 0, 0, 0, 0), (69, .iconst 1, 1, 0, 0, 0, 0), (70, .istore 7, 2, 0, 0, 0, 0), (72, .iload 7, 2, 0, 0, 0, 0), (74, .bipush 16, 2, 0, 0, 0, 0), (76, .if_icmp .ge 48, 3, 124, 0, 0, 0), (79, .iload 6, 2, 0, 0, 0, 0)],
  [(81, .ifCond .eq 43, 3, 124, 0, 0, 0), (84, .iload 6, 2, 0, 0, 0, 0), (86, .iconst 1, 1, 0, 0, 0, 0), (87, .iand, 1, 0, 0, 0, 0), (88, .ifCond .eq 24, 3, 112, 0, 0, 0), (91, .aload_n 0, 1, 0, 0, 0, 0), (92, .iload_n 1, 1, 0, 0, 0, 0), (93, .bipush 16, 2, 0, 0, 0, 0), (95, .imul, 1, 0, 0, 0, 0)],
  [(96, .iload 7, 2, 0, 0, 0, 0), (98, .iadd, 1, 0, 0, 0, 0), (99, .iload 5, 2, 0, 0, 0, 0), (101, .aload_n 0, 1, 0, 0, 0, 0), (102, .iload 7, 2, 0, 0, 0, 0), (104, .invokevirtual 123, 3, 60, 2, 70, 964), (107, .iadd, 1, 0, 0, 0, 0), (108, .iload_n 3, 1, 0, 0, 0, 0), (109, .invokevirtual 176, 3, 74, 4, 70, 1285)],
  [(112, .iload 6, 2, 0, 0, 0, 0), (114, .iconst 1, 1, 0, 0, 0, 0), (115, .ishr, 1, 0, 0, 0, 0), (116, .istore 6, 2, 0, 0, 0, 0), (118, .iinc 7 1, 3, 0, 0, 0, 0), (121, .goto (-49), 3, 72, 0, 0, 0), (124, .return_, 1, 0, 0, 0, 0)]], [], 0, 8)
def qc_X7_weighWay : qCd := ([[(0, .iload_n 2, 1, 0, 0, 0, 0), (1, .aload_n 0, 1, 0, 0, 0, 0), (2, .getfield 15, 3, 7, 1, 0, 238), (5, .iload_n 1, 1, 0, 0, 0, 0), (6, .iaload, 1, 0, 0, 0, 0), (7, .if_icmp .ge 17, 3, 24, 0, 0, 0), (10, .aload_n 0, 1, 0, 0, 0, 0), (11, .getfield 15, 3, 7, 1, 0, 238), (14, .iload_n 1, 1, 0, 0, 0, 0), (15, .iload_n 2, 1, 0, 0, 0, 0)],
  [(16, .iastore, 1, 0, 0, 0, 0), (17, .aload_n 0, 1, 0, 0, 0, 0), (18, .getfield 18, 3, 7, 2, 0, 239), (21, .iload_n 1, 1, 0, 0, 0, 0), (22, .iload_n 3, 1, 0, 0, 0, 0), (23, .iastore, 1, 0, 0, 0, 0), (24, .return_, 1, 0, 0, 0, 0)]], [], 0, 4)
def qc_X7_addChosen : qCd := ([[(0, .iconst 1, 1, 0, 0, 0, 0), (1, .istore_n 2, 1, 0, 0, 0, 0), (2, .iconst 0, 1, 0, 0, 0, 0), (3, .istore_n 3, 1, 0, 0, 0, 0), (4, .iload_n 3, 1, 0, 0, 0, 0), (5, .bipush 70, 2, 0, 0, 0, 0), (7, .if_icmp .ge 100, 3, 107, 0, 0, 0), (10, .iload_n 2, 1, 0, 0, 0, 0), (11, .ifCond .eq 96, 3, 107, 0, 0, 0), (14, .aload_n 0, 1, 0, 0, 0, 0), (15, .aload_n 1, 1, 0, 0, 0, 0)],
  [(16, .aload_n 1, 1, 0, 0, 0, 0), (17, .getfield 95, 3, 8, 1, 1, 398), (20, .invokevirtual 98, 3, 82, 2, 81, 950), (23, .aload_n 1, 1, 0, 0, 0, 0), (24, .aload_n 1, 1, 0, 0, 0, 0), (25, .getfield 95, 3, 8, 1, 1, 398), (28, .invokevirtual 102, 3, 83, 2, 81, 951), (31, .aload_n 1, 1, 0, 0, 0, 0)],
  [(32, .aload_n 1, 1, 0, 0, 0, 0), (33, .getfield 95, 3, 8, 1, 1, 398), (36, .invokevirtual 105, 3, 84, 2, 81, 952), (39, .invokevirtual 132, 3, 62, 4, 70, 976), (42, .istore 4, 2, 0, 0, 0, 0), (44, .aload_n 0, 1, 0, 0, 0, 0), (45, .getfield 18, 3, 7, 2, 0, 239)],
  [(48, .iload 4, 2, 0, 0, 0, 0), (50, .bipush 16, 2, 0, 0, 0, 0), (52, .imul, 1, 0, 0, 0, 0), (53, .aload_n 1, 1, 0, 0, 0, 0), (54, .invokestatic 119, 3, 68, 1, 72, 961), (57, .iadd, 1, 0, 0, 0, 0), (58, .iaload, 1, 0, 0, 0, 0), (59, .istore 5, 2, 0, 0, 0, 0), (61, .aload_n 0, 1, 0, 0, 0, 0), (62, .aload_n 1, 1, 0, 0, 0, 0), (63, .iload 5, 2, 0, 0, 0, 0)],
  [(65, .iconst 4, 1, 0, 0, 0, 0), (66, .idiv, 1, 0, 0, 0, 0), (67, .iload 5, 2, 0, 0, 0, 0), (69, .iconst 4, 1, 0, 0, 0, 0), (70, .irem, 1, 0, 0, 0, 0), (71, .invokevirtual 179, 3, 67, 4, 70, 1293), (74, .ifCond .eq 25, 3, 99, 0, 0, 0), (77, .aload_n 1, 1, 0, 0, 0, 0), (78, .aload_n 1, 1, 0, 0, 0, 0), (79, .getfield 95, 3, 8, 1, 1, 398)],
  [(82, .invokevirtual 98, 3, 82, 2, 81, 950), (85, .aload_n 0, 1, 0, 0, 0, 0), (86, .getfield 24, 3, 7, 3, 0, 240), (89, .getfield 63, 3, 9, 0, 1, 157), (92, .if_icmp .ge 7, 3, 99, 0, 0, 0), (95, .iconst 1, 1, 0, 0, 0, 0)],
  [(96, .goto 4, 3, 100, 0, 0, 0), (99, .iconst 0, 1, 0, 0, 0, 0), (100, .istore_n 2, 1, 0, 0, 0, 0), (101, .iinc 3 1, 3, 0, 0, 0, 0), (104, .goto (-100), 3, 4, 0, 0, 0), (107, .return_, 1, 0, 0, 0, 0)]], [], 0, 6)
def qc_X7_addBare : qCd := ([[(0, .aload_n 1, 1, 0, 0, 0, 0), (1, .aload_n 1, 1, 0, 0, 0, 0), (2, .getfield 95, 3, 8, 1, 1, 398), (5, .invokevirtual 102, 3, 83, 2, 81, 951), (8, .istore_n 2, 1, 0, 0, 0, 0), (9, .aload_n 1, 1, 0, 0, 0, 0), (10, .aload_n 1, 1, 0, 0, 0, 0), (11, .getfield 95, 3, 8, 1, 1, 398), (14, .invokevirtual 105, 3, 84, 2, 81, 952)],
  [(17, .istore_n 3, 1, 0, 0, 0, 0), (18, .aload_n 0, 1, 0, 0, 0, 0), (19, .iload_n 2, 1, 0, 0, 0, 0), (20, .iload_n 3, 1, 0, 0, 0, 0), (21, .invokevirtual 166, 3, 66, 3, 70, 997), (24, .istore 4, 2, 0, 0, 0, 0), (26, .iload 4, 2, 0, 0, 0, 0), (28, .ifCond .le 55, 3, 83, 0, 0, 0), (31, .aload_n 0, 1, 0, 0, 0, 0)],
  [(32, .iload_n 2, 1, 0, 0, 0, 0), (33, .iload_n 3, 1, 0, 0, 0, 0), (34, .invokevirtual 91, 3, 65, 3, 70, 1001), (37, .aload_n 0, 1, 0, 0, 0, 0), (38, .getfield 48, 3, 7, 10, 0, 247), (41, .istore_n 2, 1, 0, 0, 0, 0), (42, .iload_n 3, 1, 0, 0, 0, 0), (43, .aload_n 0, 1, 0, 0, 0, 0), (44, .getfield 51, 3, 7, 11, 0, 248), (47, .iadd, 1, 0, 0, 0, 0)],
  [(48, .istore_n 3, 1, 0, 0, 0, 0), (49, .aload_n 1, 1, 0, 0, 0, 0), (50, .aload_n 0, 1, 0, 0, 0, 0), (51, .getfield 24, 3, 7, 3, 0, 240), (54, .getfield 63, 3, 9, 0, 1, 157), (57, .iload_n 2, 1, 0, 0, 0, 0), (58, .iload_n 3, 1, 0, 0, 0, 0), (59, .iconst 0, 1, 0, 0, 0, 0), (60, .aload_n 0, 1, 0, 0, 0, 0), (61, .getfield 54, 3, 7, 12, 0, 249)],
  [(64, .invokevirtual 126, 3, 81, 6, 81, 968), (67, .aload_n 1, 1, 0, 0, 0, 0), (68, .dup, 1, 0, 0, 0, 0), (69, .getfield 116, 3, 8, 3, 1, 404), (72, .iconst 5, 1, 0, 0, 0, 0), (73, .iadd, 1, 0, 0, 0, 0), (74, .putfield 116, 3, 8, 3, 1, 404), (77, .iinc 4 (-1), 3, 0, 0, 0, 0)],
  [(80, .goto (-54), 3, 26, 0, 0, 0), (83, .return_, 1, 0, 0, 0, 0)]], [], 0, 5)
def qc_X7_leastByAll : qCd := ([[(0, .aload_n 0, 1, 0, 0, 0, 0), (1, .aload_n 1, 1, 0, 0, 0, 0), (2, .iload_n 2, 1, 0, 0, 0, 0), (3, .invokevirtual 183, 3, 57, 3, 70, 1512), (6, .aload_n 1, 1, 0, 0, 0, 0), (7, .getfield 63, 3, 9, 0, 1, 157), (10, .ifCond .ne 7, 3, 17, 0, 0, 0), (13, .iconst 0, 1, 0, 0, 0, 0), (14, .goto 12, 3, 26, 0, 0, 0)],
  [(17, .aload_n 0, 1, 0, 0, 0, 0), (18, .iconst 0, 1, 0, 0, 0, 0), (19, .iconst 0, 1, 0, 0, 0, 0), (20, .iconst 0, 1, 0, 0, 0, 0), (21, .bipush 15, 2, 0, 0, 0, 0), (23, .invokestatic 187, 3, 78, 5, 72, 1513), (26, .ireturn, 1, 0, 0, 0, 0)]], [], 1, 3)
def qc_X7_leastFrom : qCd := ([[(0, .iload_n 1, 1, 0, 0, 0, 0), (1, .aload_n 0, 1, 0, 0, 0, 0), (2, .getfield 24, 3, 7, 3, 0, 240), (5, .getfield 63, 3, 9, 0, 1, 157), (8, .if_icmp .lt 12, 3, 20, 0, 0, 0), (11, .iconst 5, 1, 0, 0, 0, 0), (12, .aload_n 0, 1, 0, 0, 0, 0), (13, .iload_n 2, 1, 0, 0, 0, 0), (14, .iload_n 3, 1, 0, 0, 0, 0), (15, .invokevirtual 166, 3, 66, 3, 70, 997)],
  [(18, .imul, 1, 0, 0, 0, 0), (19, .ireturn, 1, 0, 0, 0, 0), (20, .iload_n 1, 1, 0, 0, 0, 0), (21, .bipush 8, 2, 0, 0, 0, 0), (23, .if_icmp .lt 6, 3, 29, 0, 0, 0), (26, .ldc 152, 2, 268435456, 0, 0, 1280), (28, .ireturn, 1, 0, 0, 0, 0), (29, .ldc 152, 2, 268435456, 0, 0, 1280), (31, .istore 5, 2, 0, 0, 0, 0)],
  [(33, .iload_n 1, 1, 0, 0, 0, 0), (34, .iconst 1, 1, 0, 0, 0, 0), (35, .iadd, 1, 0, 0, 0, 0), (36, .istore 6, 2, 0, 0, 0, 0), (38, .iload 6, 2, 0, 0, 0, 0), (40, .aload_n 0, 1, 0, 0, 0, 0), (41, .getfield 24, 3, 7, 3, 0, 240), (44, .getfield 63, 3, 9, 0, 1, 157), (47, .if_icmp .gt 99, 3, 146, 0, 0, 0)],
  [(50, .aload_n 0, 1, 0, 0, 0, 0), (51, .iload 6, 2, 0, 0, 0, 0), (53, .iload_n 2, 1, 0, 0, 0, 0), (54, .invokevirtual 108, 3, 59, 3, 70, 953), (57, .istore 7, 2, 0, 0, 0, 0), (59, .iload 7, 2, 0, 0, 0, 0), (61, .ifCond .lt 79, 3, 140, 0, 0, 0)],
  [(64, .aload_n 0, 1, 0, 0, 0, 0), (65, .iload_n 1, 1, 0, 0, 0, 0), (66, .iload 6, 2, 0, 0, 0, 0), (68, .iload_n 2, 1, 0, 0, 0, 0), (69, .iload 7, 2, 0, 0, 0, 0), (71, .iload_n 3, 1, 0, 0, 0, 0), (72, .invokevirtual 112, 3, 58, 6, 70, 957), (75, .ifCond .eq 59, 3, 134, 0, 0, 0), (78, .aload_n 0, 1, 0, 0, 0, 0), (79, .getfield 41, 3, 7, 8, 0, 245)],
  [(82, .aload_n 0, 1, 0, 0, 0, 0), (83, .iload 4, 2, 0, 0, 0, 0), (85, .invokevirtual 123, 3, 60, 2, 70, 964), (88, .iadd, 1, 0, 0, 0, 0), (89, .istore 8, 2, 0, 0, 0, 0), (91, .iload 8, 2, 0, 0, 0, 0), (93, .aload_n 0, 1, 0, 0, 0, 0), (94, .iload 6, 2, 0, 0, 0, 0)],
  [(96, .iload_n 2, 1, 0, 0, 0, 0), (97, .iload 7, 2, 0, 0, 0, 0), (99, .iadd, 1, 0, 0, 0, 0), (100, .iload_n 3, 1, 0, 0, 0, 0), (101, .aload_n 0, 1, 0, 0, 0, 0), (102, .getfield 32, 3, 7, 5, 0, 242), (105, .iadd, 1, 0, 0, 0, 0), (106, .aload_n 0, 1, 0, 0, 0, 0), (107, .iload 4, 2, 0, 0, 0, 0), (109, .invokevirtual 191, 3, 61, 2, 70, 1516)],
  [(112, .invokestatic 187, 3, 78, 5, 72, 1513), (115, .iadd, 1, 0, 0, 0, 0), (116, .istore 8, 2, 0, 0, 0, 0), (118, .iload 8, 2, 0, 0, 0, 0), (120, .iload 5, 2, 0, 0, 0, 0), (122, .if_icmp .ge 8, 3, 130, 0, 0, 0), (125, .iload 8, 2, 0, 0, 0, 0), (127, .goto 5, 3, 132, 0, 0, 0)],
  [(130, .iload 5, 2, 0, 0, 0, 0), (132, .istore 5, 2, 0, 0, 0, 0), (134, .iinc 7 (-1), 3, 0, 0, 0, 0), (137, .goto (-78), 3, 59, 0, 0, 0), (140, .iinc 6 1, 3, 0, 0, 0, 0), (143, .goto (-105), 3, 38, 0, 0, 0)],
  [(146, .iload 5, 2, 0, 0, 0, 0), (148, .ireturn, 1, 0, 0, 0, 0)]], [], 1, 9)
def qc_X8_init : qCd := ([[(0, .aload_n 0, 1, 0, 0, 0, 0), (1, .invokespecial 3, 3, 0, 1, 6, 389), (4, .aload_n 0, 1, 0, 0, 0, 0), (5, .iconst 0, 1, 0, 0, 0, 0), (6, .putfield 9, 3, 8, 0, 0, 390), (9, .aload_n 0, 1, 0, 0, 0, 0), (10, .iconst 0, 1, 0, 0, 0, 0), (11, .putfield 15, 3, 8, 1, 0, 395), (14, .aload_n 0, 1, 0, 0, 0, 0), (15, .iconst 0, 1, 0, 0, 0, 0)],
  [(16, .putfield 18, 3, 8, 2, 0, 400), (19, .aload_n 0, 1, 0, 0, 0, 0), (20, .iconst 0, 1, 0, 0, 0, 0), (21, .putfield 21, 3, 8, 3, 0, 403), (24, .aload_n 0, 1, 0, 0, 0, 0), (25, .bipush 86, 2, 0, 0, 0, 0), (27, .newarray .int, 2, 0, 43, 0, 0), (29, .putfield 24, 3, 8, 4, 0, 406)],
  [(32, .aload_n 0, 1, 0, 0, 0, 0), (33, .bipush 86, 2, 0, 0, 0, 0), (35, .newarray .int, 2, 0, 44, 0, 0), (37, .putfield 28, 3, 8, 5, 0, 410), (40, .aload_n 0, 1, 0, 0, 0, 0), (41, .bipush 86, 2, 0, 0, 0, 0), (43, .newarray .int, 2, 0, 45, 0, 0), (45, .putfield 31, 3, 8, 6, 0, 413)],
  [(48, .aload_n 0, 1, 0, 0, 0, 0), (49, .bipush 86, 2, 0, 0, 0, 0), (51, .newarray .int, 2, 0, 46, 0, 0), (53, .putfield 34, 3, 8, 7, 0, 415), (56, .aload_n 0, 1, 0, 0, 0, 0), (57, .bipush 86, 2, 0, 0, 0, 0), (59, .newarray .int, 2, 0, 47, 0, 0), (61, .putfield 37, 3, 8, 8, 0, 418)],
  [(64, .return_, 1, 0, 0, 0, 0)]], [], 0, 1)
def qc_X8_begin : qCd := ([[(0, .aload_n 0, 1, 0, 0, 0, 0), (1, .iload_n 1, 1, 0, 0, 0, 0), (2, .putfield 9, 3, 8, 0, 0, 390), (5, .aload_n 0, 1, 0, 0, 0, 0), (6, .iconst 0, 1, 0, 0, 0, 0), (7, .putfield 15, 3, 8, 1, 0, 395), (10, .aload_n 0, 1, 0, 0, 0, 0), (11, .iconst 0, 1, 0, 0, 0, 0), (12, .putfield 18, 3, 8, 2, 0, 400), (15, .aload_n 0, 1, 0, 0, 0, 0)],
  [(16, .iconst 0, 1, 0, 0, 0, 0), (17, .putfield 21, 3, 8, 3, 0, 403), (20, .return_, 1, 0, 0, 0, 0)]], [], 0, 2)
def qc_X8_addPage : qCd := ([[(0, .aload_n 0, 1, 0, 0, 0, 0), (1, .getfield 15, 3, 8, 1, 0, 395), (4, .bipush 86, 2, 0, 0, 0, 0), (6, .if_icmp .ge 91, 3, 97, 0, 0, 0), (9, .aload_n 0, 1, 0, 0, 0, 0), (10, .dup, 1, 0, 0, 0, 0), (11, .getfield 18, 3, 8, 2, 0, 400), (14, .iload_n 1, 1, 0, 0, 0, 0), (15, .aload_n 0, 1, 0, 0, 0, 0)],
  [(16, .aload_n 0, 1, 0, 0, 0, 0), (17, .getfield 15, 3, 8, 1, 0, 395), (20, .invokevirtual 40, 3, 82, 2, 80, 934), (23, .if_icmp .le 7, 3, 30, 0, 0, 0), (26, .iconst 1, 1, 0, 0, 0, 0), (27, .goto 4, 3, 31, 0, 0, 0), (30, .iconst 0, 1, 0, 0, 0, 0), (31, .iadd, 1, 0, 0, 0, 0)],
  [(32, .putfield 18, 3, 8, 2, 0, 400), (35, .aload_n 0, 1, 0, 0, 0, 0), (36, .getfield 24, 3, 8, 4, 0, 406), (39, .aload_n 0, 1, 0, 0, 0, 0), (40, .getfield 15, 3, 8, 1, 0, 395), (43, .iload_n 1, 1, 0, 0, 0, 0), (44, .iastore, 1, 0, 0, 0, 0), (45, .aload_n 0, 1, 0, 0, 0, 0), (46, .getfield 28, 3, 8, 5, 0, 410)],
  [(49, .aload_n 0, 1, 0, 0, 0, 0), (50, .getfield 15, 3, 8, 1, 0, 395), (53, .iload_n 2, 1, 0, 0, 0, 0), (54, .iastore, 1, 0, 0, 0, 0), (55, .aload_n 0, 1, 0, 0, 0, 0), (56, .getfield 31, 3, 8, 6, 0, 413), (59, .aload_n 0, 1, 0, 0, 0, 0), (60, .getfield 15, 3, 8, 1, 0, 395), (63, .iload_n 3, 1, 0, 0, 0, 0)],
  [(64, .iastore, 1, 0, 0, 0, 0), (65, .aload_n 0, 1, 0, 0, 0, 0), (66, .getfield 34, 3, 8, 7, 0, 415), (69, .aload_n 0, 1, 0, 0, 0, 0), (70, .getfield 15, 3, 8, 1, 0, 395), (73, .iload 4, 2, 0, 0, 0, 0), (75, .iastore, 1, 0, 0, 0, 0), (76, .aload_n 0, 1, 0, 0, 0, 0), (77, .getfield 37, 3, 8, 8, 0, 418)],
  [(80, .aload_n 0, 1, 0, 0, 0, 0), (81, .getfield 15, 3, 8, 1, 0, 395), (84, .iload 5, 2, 0, 0, 0, 0), (86, .iastore, 1, 0, 0, 0, 0), (87, .aload_n 0, 1, 0, 0, 0, 0), (88, .dup, 1, 0, 0, 0, 0), (89, .getfield 15, 3, 8, 1, 0, 395), (92, .iconst 1, 1, 0, 0, 0, 0), (93, .iadd, 1, 0, 0, 0, 0), (94, .putfield 15, 3, 8, 1, 0, 395)],
  [(97, .return_, 1, 0, 0, 0, 0)]], [], 0, 6)
def qc_X8_rowsBefore : qCd := ([[(0, .iload_n 1, 1, 0, 0, 0, 0), (1, .ifCond .le 14, 3, 15, 0, 0, 0), (4, .aload_n 0, 1, 0, 0, 0, 0), (5, .getfield 24, 3, 8, 4, 0, 406), (8, .iload_n 1, 1, 0, 0, 0, 0), (9, .iconst 1, 1, 0, 0, 0, 0), (10, .isub, 1, 0, 0, 0, 0), (11, .iaload, 1, 0, 0, 0, 0), (12, .goto 4, 3, 16, 0, 0, 0), (15, .iconst 0, 1, 0, 0, 0, 0)],
  [(16, .ireturn, 1, 0, 0, 0, 0)]], [], 1, 2)
def qc_X8_floatsBefore : qCd := ([[(0, .iload_n 1, 1, 0, 0, 0, 0), (1, .ifCond .le 14, 3, 15, 0, 0, 0), (4, .aload_n 0, 1, 0, 0, 0, 0), (5, .getfield 28, 3, 8, 5, 0, 410), (8, .iload_n 1, 1, 0, 0, 0, 0), (9, .iconst 1, 1, 0, 0, 0, 0), (10, .isub, 1, 0, 0, 0, 0), (11, .iaload, 1, 0, 0, 0, 0), (12, .goto 4, 3, 16, 0, 0, 0), (15, .iconst 0, 1, 0, 0, 0, 0)],
  [(16, .ireturn, 1, 0, 0, 0, 0)]], [], 1, 2)
def qc_X8_notesBefore : qCd := ([[(0, .iload_n 1, 1, 0, 0, 0, 0), (1, .ifCond .le 14, 3, 15, 0, 0, 0), (4, .aload_n 0, 1, 0, 0, 0, 0), (5, .getfield 31, 3, 8, 6, 0, 413), (8, .iload_n 1, 1, 0, 0, 0, 0), (9, .iconst 1, 1, 0, 0, 0, 0), (10, .isub, 1, 0, 0, 0, 0), (11, .iaload, 1, 0, 0, 0, 0), (12, .goto 4, 3, 16, 0, 0, 0), (15, .iconst 0, 1, 0, 0, 0, 0)],
  [(16, .ireturn, 1, 0, 0, 0, 0)]], [], 1, 2)
def qc_X8_pageWith : qCd := ([[(0, .iconst 0, 1, 0, 0, 0, 0), (1, .istore_n 2, 1, 0, 0, 0, 0), (2, .iload_n 2, 1, 0, 0, 0, 0), (3, .aload_n 0, 1, 0, 0, 0, 0), (4, .getfield 15, 3, 8, 1, 0, 395), (7, .if_icmp .ge 26, 3, 33, 0, 0, 0), (10, .iload_n 1, 1, 0, 0, 0, 0), (11, .aload_n 0, 1, 0, 0, 0, 0), (12, .getfield 24, 3, 8, 4, 0, 406), (15, .iload_n 2, 1, 0, 0, 0, 0)],
  [(16, .iaload, 1, 0, 0, 0, 0), (17, .if_icmp .ge 10, 3, 27, 0, 0, 0), (20, .aload_n 0, 1, 0, 0, 0, 0), (21, .getfield 9, 3, 8, 0, 0, 390), (24, .iload_n 2, 1, 0, 0, 0, 0), (25, .iadd, 1, 0, 0, 0, 0), (26, .ireturn, 1, 0, 0, 0, 0), (27, .iinc 2 1, 3, 0, 0, 0, 0), (30, .goto (-28), 3, 2, 0, 0, 0)],
  [(33, .iconst (-1), 1, 0, 0, 0, 0), (34, .ireturn, 1, 0, 0, 0, 0)]], [], 1, 3)
def qc_X8_tell : qCd := ([[(0, .iload_n 2, 1, 0, 0, 0, 0), (1, .tableswitch 77 0 3 #[31, 44, 57, 70], 31, 0, 0, 0, 0)],
  [],
  [(32, .aload_n 0, 1, 0, 0, 0, 0), (33, .getfield 24, 3, 8, 4, 0, 406), (36, .iload_n 1, 1, 0, 0, 0, 0), (37, .iaload, 1, 0, 0, 0, 0), (38, .aload_n 0, 1, 0, 0, 0, 0), (39, .iload_n 1, 1, 0, 0, 0, 0), (40, .invokevirtual 40, 3, 82, 2, 80, 934), (43, .isub, 1, 0, 0, 0, 0), (44, .ireturn, 1, 0, 0, 0, 0), (45, .aload_n 0, 1, 0, 0, 0, 0), (46, .getfield 28, 3, 8, 5, 0, 410)],
  [(49, .iload_n 1, 1, 0, 0, 0, 0), (50, .iaload, 1, 0, 0, 0, 0), (51, .aload_n 0, 1, 0, 0, 0, 0), (52, .iload_n 1, 1, 0, 0, 0, 0), (53, .invokevirtual 44, 3, 83, 2, 80, 938), (56, .isub, 1, 0, 0, 0, 0), (57, .ireturn, 1, 0, 0, 0, 0), (58, .aload_n 0, 1, 0, 0, 0, 0), (59, .getfield 31, 3, 8, 6, 0, 413), (62, .iload_n 1, 1, 0, 0, 0, 0), (63, .iaload, 1, 0, 0, 0, 0)],
  [(64, .aload_n 0, 1, 0, 0, 0, 0), (65, .iload_n 1, 1, 0, 0, 0, 0), (66, .invokevirtual 47, 3, 84, 2, 80, 942), (69, .isub, 1, 0, 0, 0, 0), (70, .ireturn, 1, 0, 0, 0, 0), (71, .aload_n 0, 1, 0, 0, 0, 0), (72, .getfield 34, 3, 8, 7, 0, 415), (75, .iload_n 1, 1, 0, 0, 0, 0), (76, .iaload, 1, 0, 0, 0, 0), (77, .ireturn, 1, 0, 0, 0, 0), (78, .aload_n 0, 1, 0, 0, 0, 0), (79, .getfield 37, 3, 8, 8, 0, 418)],
  [(82, .iload_n 1, 1, 0, 0, 0, 0), (83, .iaload, 1, 0, 0, 0, 0), (84, .ireturn, 1, 0, 0, 0, 0)]], [], 1, 3)
def qc_X9_init : qCd := ([[(0, .aload_n 0, 1, 0, 0, 0, 0), (1, .invokespecial 3, 3, 0, 1, 6, 155), (4, .aload_n 0, 1, 0, 0, 0, 0), (5, .iconst 0, 1, 0, 0, 0, 0), (6, .putfield 9, 3, 9, 0, 0, 156), (9, .aload_n 0, 1, 0, 0, 0, 0), (10, .bipush 70, 2, 0, 0, 0, 0), (12, .newarray .int, 2, 0, 48, 0, 0), (14, .putfield 15, 3, 9, 1, 0, 160)],
  [(17, .aload_n 0, 1, 0, 0, 0, 0), (18, .bipush 70, 2, 0, 0, 0, 0), (20, .newarray .int, 2, 0, 49, 0, 0), (22, .putfield 19, 3, 9, 2, 0, 164), (25, .aload_n 0, 1, 0, 0, 0, 0), (26, .bipush 70, 2, 0, 0, 0, 0), (28, .newarray .int, 2, 0, 50, 0, 0), (30, .putfield 22, 3, 9, 3, 0, 168)],
  [(33, .aload_n 0, 1, 0, 0, 0, 0), (34, .bipush 70, 2, 0, 0, 0, 0), (36, .newarray .int, 2, 0, 51, 0, 0), (38, .putfield 25, 3, 9, 4, 0, 172), (41, .aload_n 0, 1, 0, 0, 0, 0), (42, .bipush 70, 2, 0, 0, 0, 0), (44, .newarray .boolean, 2, 0, 52, 0, 0), (46, .putfield 28, 3, 9, 5, 0, 174)],
  [(49, .aload_n 0, 1, 0, 0, 0, 0), (50, .bipush 70, 2, 0, 0, 0, 0), (52, .newarray .boolean, 2, 0, 53, 0, 0), (54, .putfield 32, 3, 9, 6, 0, 176), (57, .aload_n 0, 1, 0, 0, 0, 0), (58, .bipush 71, 2, 0, 0, 0, 0), (60, .newarray .int, 2, 0, 54, 0, 0), (62, .putfield 35, 3, 9, 7, 0, 178)],
  [(65, .aload_n 0, 1, 0, 0, 0, 0), (66, .bipush 71, 2, 0, 0, 0, 0), (68, .newarray .int, 2, 0, 55, 0, 0), (70, .putfield 38, 3, 9, 8, 0, 180), (73, .aload_n 0, 1, 0, 0, 0, 0), (74, .bipush 71, 2, 0, 0, 0, 0), (76, .newarray .int, 2, 0, 56, 0, 0), (78, .putfield 41, 3, 9, 9, 0, 182)],
  [(81, .aload_n 0, 1, 0, 0, 0, 0), (82, .bipush 71, 2, 0, 0, 0, 0), (84, .newarray .int, 2, 0, 57, 0, 0), (86, .putfield 44, 3, 9, 10, 0, 184), (89, .aload_n 0, 1, 0, 0, 0, 0), (90, .bipush 71, 2, 0, 0, 0, 0), (92, .newarray .int, 2, 0, 58, 0, 0), (94, .putfield 47, 3, 9, 11, 0, 186)],
  [(97, .aload_n 0, 1, 0, 0, 0, 0), (98, .iconst 0, 1, 0, 0, 0, 0), (99, .putfield 50, 3, 9, 12, 0, 188), (102, .aload_n 0, 1, 0, 0, 0, 0), (103, .iconst 4, 1, 0, 0, 0, 0), (104, .newarray .int, 2, 0, 59, 0, 0), (106, .putfield 53, 3, 9, 13, 0, 190), (109, .aload_n 0, 1, 0, 0, 0, 0), (110, .bipush 12, 2, 0, 0, 0, 0)],
  [(112, .newarray .int, 2, 0, 60, 0, 0), (114, .putfield 56, 3, 9, 14, 0, 192), (117, .aload_n 0, 1, 0, 0, 0, 0), (118, .iconst 5, 1, 0, 0, 0, 0), (119, .newarray .int, 2, 0, 61, 0, 0), (121, .putfield 59, 3, 9, 15, 0, 194), (124, .aload_n 0, 1, 0, 0, 0, 0), (125, .iconst 0, 1, 0, 0, 0, 0), (126, .putfield 62, 3, 9, 16, 0, 196)],
  [(129, .aload_n 0, 1, 0, 0, 0, 0), (130, .iconst 0, 1, 0, 0, 0, 0), (131, .putfield 65, 3, 9, 17, 0, 198), (134, .return_, 1, 0, 0, 0, 0)]], [], 0, 1)
def qc_X9_collect : qCd := ([[(0, .aload_n 0, 1, 0, 0, 0, 0), (1, .iconst 0, 1, 0, 0, 0, 0), (2, .putfield 9, 3, 9, 0, 0, 156), (5, .aload_n 0, 1, 0, 0, 0, 0), (6, .iconst 0, 1, 0, 0, 0, 0), (7, .putfield 50, 3, 9, 12, 0, 188), (10, .aload_n 0, 1, 0, 0, 0, 0), (11, .iconst 0, 1, 0, 0, 0, 0), (12, .putfield 62, 3, 9, 16, 0, 196), (15, .aload_n 0, 1, 0, 0, 0, 0)],
  [(16, .iconst 0, 1, 0, 0, 0, 0), (17, .putfield 65, 3, 9, 17, 0, 198), (20, .iconst 0, 1, 0, 0, 0, 0), (21, .istore_n 2, 1, 0, 0, 0, 0), (22, .iload_n 2, 1, 0, 0, 0, 0), (23, .aload_n 1, 1, 0, 0, 0, 0), (24, .getfield 68, 3, 1, 1, 1, 514), (27, .if_icmp .ge 51, 3, 78, 0, 0, 0), (30, .aload_n 1, 1, 0, 0, 0, 0), (31, .getfield 71, 3, 1, 0, 1, 506)],
  [(34, .iload_n 2, 1, 0, 0, 0, 0), (35, .aaload, 1, 0, 0, 0, 0), (36, .astore_n 3, 1, 0, 0, 0, 0), (37, .iconst 0, 1, 0, 0, 0, 0), (38, .istore 4, 2, 0, 0, 0, 0), (40, .iload 4, 2, 0, 0, 0, 0), (42, .aload_n 3, 1, 0, 0, 0, 0), (43, .getfield 75, 3, 5, 10, 1, 84), (46, .if_icmp .ge 26, 3, 72, 0, 0, 0)],
  [(49, .aload_n 0, 1, 0, 0, 0, 0), (50, .getfield 9, 3, 9, 0, 0, 156), (53, .bipush 70, 2, 0, 0, 0, 0), (55, .if_icmp .ge 17, 3, 72, 0, 0, 0), (58, .aload_n 0, 1, 0, 0, 0, 0), (59, .aload_n 3, 1, 0, 0, 0, 0), (60, .iload_n 2, 1, 0, 0, 0, 0), (61, .iload 4, 2, 0, 0, 0, 0), (63, .invokevirtual 80, 3, 89, 4, 90, 898)],
  [(66, .iinc 4 1, 3, 0, 0, 0, 0), (69, .goto (-29), 3, 40, 0, 0, 0), (72, .iinc 2 1, 3, 0, 0, 0, 0), (75, .goto (-53), 3, 22, 0, 0, 0), (78, .iconst 1, 1, 0, 0, 0, 0), (79, .istore_n 2, 1, 0, 0, 0, 0)],
  [(80, .iload_n 2, 1, 0, 0, 0, 0), (81, .aload_n 0, 1, 0, 0, 0, 0), (82, .getfield 9, 3, 9, 0, 0, 156), (85, .if_icmp .gt 20, 3, 105, 0, 0, 0), (88, .aload_n 0, 1, 0, 0, 0, 0), (89, .getfield 47, 3, 9, 11, 0, 186), (92, .iload_n 2, 1, 0, 0, 0, 0), (93, .aload_n 0, 1, 0, 0, 0, 0), (94, .iload_n 2, 1, 0, 0, 0, 0), (95, .invokevirtual 84, 3, 91, 2, 90, 906)],
  [(98, .iastore, 1, 0, 0, 0, 0), (99, .iinc 2 1, 3, 0, 0, 0, 0), (102, .goto (-22), 3, 80, 0, 0, 0), (105, .return_, 1, 0, 0, 0, 0)]], [], 0, 5)
def qc_X9_addRow : qCd := ([[(0, .aload_n 0, 1, 0, 0, 0, 0), (1, .getfield 9, 3, 9, 0, 0, 156), (4, .istore 4, 2, 0, 0, 0, 0), (6, .aload_n 0, 1, 0, 0, 0, 0), (7, .dup, 1, 0, 0, 0, 0), (8, .getfield 9, 3, 9, 0, 0, 156), (11, .iconst 1, 1, 0, 0, 0, 0), (12, .iadd, 1, 0, 0, 0, 0), (13, .putfield 9, 3, 9, 0, 0, 156)],
  [(16, .aload_n 0, 1, 0, 0, 0, 0), (17, .getfield 15, 3, 9, 1, 0, 160), (20, .iload 4, 2, 0, 0, 0, 0), (22, .iload_n 2, 1, 0, 0, 0, 0), (23, .iastore, 1, 0, 0, 0, 0), (24, .aload_n 0, 1, 0, 0, 0, 0), (25, .getfield 19, 3, 9, 2, 0, 164), (28, .iload 4, 2, 0, 0, 0, 0), (30, .aload_n 1, 1, 0, 0, 0, 0), (31, .getfield 88, 3, 5, 0, 1, 50)],
  [(34, .ifCond .ne 7, 3, 41, 0, 0, 0), (37, .iload_n 3, 1, 0, 0, 0, 0), (38, .ifCond .ne 7, 3, 45, 0, 0, 0), (41, .iconst 0, 1, 0, 0, 0, 0), (42, .goto 11, 3, 53, 0, 0, 0), (45, .aload_n 1, 1, 0, 0, 0, 0), (46, .getfield 92, 3, 5, 12, 1, 91)],
  [(49, .iload_n 3, 1, 0, 0, 0, 0), (50, .iconst 1, 1, 0, 0, 0, 0), (51, .isub, 1, 0, 0, 0, 0), (52, .iaload, 1, 0, 0, 0, 0), (53, .iastore, 1, 0, 0, 0, 0), (54, .aload_n 0, 1, 0, 0, 0, 0), (55, .getfield 22, 3, 9, 3, 0, 168), (58, .iload 4, 2, 0, 0, 0, 0), (60, .aload_n 1, 1, 0, 0, 0, 0), (61, .getfield 88, 3, 5, 0, 1, 50)],
  [(64, .ifCond .eq 7, 3, 71, 0, 0, 0), (67, .iconst 0, 1, 0, 0, 0, 0), (68, .goto 9, 3, 77, 0, 0, 0), (71, .aload_n 1, 1, 0, 0, 0, 0), (72, .getfield 92, 3, 5, 12, 1, 91), (75, .iload_n 3, 1, 0, 0, 0, 0), (76, .iaload, 1, 0, 0, 0, 0), (77, .iastore, 1, 0, 0, 0, 0), (78, .aload_n 0, 1, 0, 0, 0, 0), (79, .getfield 25, 3, 9, 4, 0, 172)],
  [(82, .iload 4, 2, 0, 0, 0, 0), (84, .aload_n 1, 1, 0, 0, 0, 0), (85, .getfield 88, 3, 5, 0, 1, 50), (88, .ifCond .eq 10, 3, 98, 0, 0, 0), (91, .aload_n 1, 1, 0, 0, 0, 0), (92, .getfield 95, 3, 5, 1, 1, 54), (95, .goto 4, 3, 99, 0, 0, 0)],
  [(98, .iconst 0, 1, 0, 0, 0, 0), (99, .iastore, 1, 0, 0, 0, 0), (100, .aload_n 0, 1, 0, 0, 0, 0), (101, .getfield 28, 3, 9, 5, 0, 174), (104, .iload 4, 2, 0, 0, 0, 0), (106, .aload_n 1, 1, 0, 0, 0, 0), (107, .getfield 75, 3, 5, 10, 1, 84), (110, .iconst 1, 1, 0, 0, 0, 0), (111, .if_icmp .le 11, 3, 122, 0, 0, 0)],
  [(114, .iload_n 3, 1, 0, 0, 0, 0), (115, .ifCond .ne 7, 3, 122, 0, 0, 0), (118, .iconst 1, 1, 0, 0, 0, 0), (119, .goto 4, 3, 123, 0, 0, 0), (122, .iconst 0, 1, 0, 0, 0, 0), (123, .bastore, 1, 0, 0, 0, 0), (124, .aload_n 0, 1, 0, 0, 0, 0), (125, .getfield 32, 3, 9, 6, 0, 176)],
  [(128, .iload 4, 2, 0, 0, 0, 0), (130, .aload_n 1, 1, 0, 0, 0, 0), (131, .getfield 75, 3, 5, 10, 1, 84), (134, .iconst 1, 1, 0, 0, 0, 0), (135, .if_icmp .le 17, 3, 152, 0, 0, 0), (138, .iload_n 3, 1, 0, 0, 0, 0), (139, .aload_n 1, 1, 0, 0, 0, 0), (140, .getfield 75, 3, 5, 10, 1, 84), (143, .iconst 1, 1, 0, 0, 0, 0)],
  [(144, .isub, 1, 0, 0, 0, 0), (145, .if_icmp .ne 7, 3, 152, 0, 0, 0), (148, .iconst 1, 1, 0, 0, 0, 0), (149, .goto 4, 3, 153, 0, 0, 0), (152, .iconst 0, 1, 0, 0, 0, 0), (153, .bastore, 1, 0, 0, 0, 0), (154, .aload_n 0, 1, 0, 0, 0, 0), (155, .getfield 19, 3, 9, 2, 0, 164), (158, .iload 4, 2, 0, 0, 0, 0)],
  [(160, .iaload, 1, 0, 0, 0, 0), (161, .istore 5, 2, 0, 0, 0, 0), (163, .iload 5, 2, 0, 0, 0, 0), (165, .aload_n 0, 1, 0, 0, 0, 0), (166, .getfield 22, 3, 9, 3, 0, 168), (169, .iload 4, 2, 0, 0, 0, 0), (171, .iaload, 1, 0, 0, 0, 0), (172, .if_icmp .ge 17, 3, 189, 0, 0, 0), (175, .aload_n 0, 1, 0, 0, 0, 0)],
  [(176, .aload_n 1, 1, 0, 0, 0, 0), (177, .iload_n 2, 1, 0, 0, 0, 0), (178, .iload 5, 2, 0, 0, 0, 0), (180, .invokevirtual 97, 3, 90, 4, 90, 902), (183, .iinc 5 1, 3, 0, 0, 0, 0), (186, .goto (-23), 3, 163, 0, 0, 0), (189, .aload_n 0, 1, 0, 0, 0, 0), (190, .getfield 35, 3, 9, 7, 0, 178)],
  [(193, .aload_n 0, 1, 0, 0, 0, 0), (194, .getfield 9, 3, 9, 0, 0, 156), (197, .aload_n 0, 1, 0, 0, 0, 0), (198, .getfield 35, 3, 9, 7, 0, 178), (201, .iload 4, 2, 0, 0, 0, 0), (203, .iaload, 1, 0, 0, 0, 0), (204, .iload_n 3, 1, 0, 0, 0, 0), (205, .ifCond .ne 11, 3, 216, 0, 0, 0)],
  [(208, .iload_n 2, 1, 0, 0, 0, 0), (209, .ifCond .le 7, 3, 216, 0, 0, 0), (212, .iconst 1, 1, 0, 0, 0, 0), (213, .goto 4, 3, 217, 0, 0, 0), (216, .iconst 0, 1, 0, 0, 0, 0), (217, .iadd, 1, 0, 0, 0, 0), (218, .iastore, 1, 0, 0, 0, 0), (219, .aload_n 0, 1, 0, 0, 0, 0), (220, .getfield 38, 3, 9, 8, 0, 180), (223, .aload_n 0, 1, 0, 0, 0, 0)],
  [(224, .getfield 9, 3, 9, 0, 0, 156), (227, .aload_n 0, 1, 0, 0, 0, 0), (228, .getfield 50, 3, 9, 12, 0, 188), (231, .iastore, 1, 0, 0, 0, 0), (232, .aload_n 0, 1, 0, 0, 0, 0), (233, .getfield 41, 3, 9, 9, 0, 182), (236, .aload_n 0, 1, 0, 0, 0, 0), (237, .getfield 9, 3, 9, 0, 0, 156)],
  [(240, .aload_n 0, 1, 0, 0, 0, 0), (241, .getfield 62, 3, 9, 16, 0, 196), (244, .iastore, 1, 0, 0, 0, 0), (245, .aload_n 0, 1, 0, 0, 0, 0), (246, .getfield 44, 3, 9, 10, 0, 184), (249, .aload_n 0, 1, 0, 0, 0, 0), (250, .getfield 9, 3, 9, 0, 0, 156), (253, .aload_n 0, 1, 0, 0, 0, 0), (254, .getfield 65, 3, 9, 17, 0, 198)],
  [(257, .iastore, 1, 0, 0, 0, 0), (258, .return_, 1, 0, 0, 0, 0)]], [], 0, 6)
def qc_X9_addWord : qCd := ([[(0, .aload_n 1, 1, 0, 0, 0, 0), (1, .getfield 100, 3, 5, 6, 1, 74), (4, .iload_n 3, 1, 0, 0, 0, 0), (5, .iaload, 1, 0, 0, 0, 0), (6, .istore 4, 2, 0, 0, 0, 0), (8, .iload_n 2, 1, 0, 0, 0, 0), (9, .bipush 20, 2, 0, 0, 0, 0), (11, .imul, 1, 0, 0, 0, 0), (12, .iload_n 3, 1, 0, 0, 0, 0), (13, .iadd, 1, 0, 0, 0, 0), (14, .iconst 4, 1, 0, 0, 0, 0), (15, .imul, 1, 0, 0, 0, 0)],
  [(16, .istore 5, 2, 0, 0, 0, 0), (18, .aload_n 1, 1, 0, 0, 0, 0), (19, .getfield 103, 3, 5, 5, 1, 67), (22, .iload_n 3, 1, 0, 0, 0, 0), (23, .iaload, 1, 0, 0, 0, 0), (24, .iconst 3, 1, 0, 0, 0, 0), (25, .if_icmp .ne 58, 3, 83, 0, 0, 0), (28, .aload_n 0, 1, 0, 0, 0, 0), (29, .getfield 50, 3, 9, 12, 0, 188)],
  [(32, .iconst 4, 1, 0, 0, 0, 0), (33, .if_icmp .ge 50, 3, 83, 0, 0, 0), (36, .aload_n 0, 1, 0, 0, 0, 0), (37, .getfield 53, 3, 9, 13, 0, 190), (40, .aload_n 0, 1, 0, 0, 0, 0), (41, .getfield 50, 3, 9, 12, 0, 188), (44, .iload 5, 2, 0, 0, 0, 0), (46, .iastore, 1, 0, 0, 0, 0), (47, .aload_n 0, 1, 0, 0, 0, 0)],
  [(48, .getfield 59, 3, 9, 15, 0, 194), (51, .aload_n 0, 1, 0, 0, 0, 0), (52, .getfield 50, 3, 9, 12, 0, 188), (55, .iconst 1, 1, 0, 0, 0, 0), (56, .iadd, 1, 0, 0, 0, 0), (57, .aload_n 0, 1, 0, 0, 0, 0), (58, .getfield 59, 3, 9, 15, 0, 194), (61, .aload_n 0, 1, 0, 0, 0, 0), (62, .getfield 50, 3, 9, 12, 0, 188)],
  [(65, .iaload, 1, 0, 0, 0, 0), (66, .iload 4, 2, 0, 0, 0, 0), (68, .iadd, 1, 0, 0, 0, 0), (69, .iastore, 1, 0, 0, 0, 0), (70, .aload_n 0, 1, 0, 0, 0, 0), (71, .dup, 1, 0, 0, 0, 0), (72, .getfield 50, 3, 9, 12, 0, 188), (75, .iconst 1, 1, 0, 0, 0, 0), (76, .iadd, 1, 0, 0, 0, 0), (77, .putfield 50, 3, 9, 12, 0, 188)],
  [(80, .goto 72, 3, 152, 0, 0, 0), (83, .aload_n 1, 1, 0, 0, 0, 0), (84, .getfield 103, 3, 5, 5, 1, 67), (87, .iload_n 3, 1, 0, 0, 0, 0), (88, .iaload, 1, 0, 0, 0, 0), (89, .iconst 2, 1, 0, 0, 0, 0), (90, .if_icmp .ne 62, 3, 152, 0, 0, 0), (93, .aload_n 0, 1, 0, 0, 0, 0), (94, .aload_n 0, 1, 0, 0, 0, 0), (95, .getfield 62, 3, 9, 16, 0, 196)],
  [(98, .iconst 1, 1, 0, 0, 0, 0), (99, .iadd, 1, 0, 0, 0, 0), (100, .putfield 65, 3, 9, 17, 0, 198), (103, .iconst 0, 1, 0, 0, 0, 0), (104, .istore 6, 2, 0, 0, 0, 0), (106, .iload 6, 2, 0, 0, 0, 0), (108, .iload 4, 2, 0, 0, 0, 0), (110, .if_icmp .ge 42, 3, 152, 0, 0, 0)],
  [(113, .aload_n 0, 1, 0, 0, 0, 0), (114, .getfield 62, 3, 9, 16, 0, 196), (117, .bipush 12, 2, 0, 0, 0, 0), (119, .if_icmp .ge 33, 3, 152, 0, 0, 0), (122, .aload_n 0, 1, 0, 0, 0, 0), (123, .getfield 56, 3, 9, 14, 0, 192), (126, .aload_n 0, 1, 0, 0, 0, 0), (127, .getfield 62, 3, 9, 16, 0, 196)],
  [(130, .iload 5, 2, 0, 0, 0, 0), (132, .iload 6, 2, 0, 0, 0, 0), (134, .iadd, 1, 0, 0, 0, 0), (135, .iastore, 1, 0, 0, 0, 0), (136, .aload_n 0, 1, 0, 0, 0, 0), (137, .dup, 1, 0, 0, 0, 0), (138, .getfield 62, 3, 9, 16, 0, 196), (141, .iconst 1, 1, 0, 0, 0, 0), (142, .iadd, 1, 0, 0, 0, 0), (143, .putfield 62, 3, 9, 16, 0, 196)],
  [(146, .iinc 6 1, 3, 0, 0, 0, 0), (149, .goto (-43), 3, 106, 0, 0, 0), (152, .return_, 1, 0, 0, 0, 0)]], [], 0, 7)
def qc_X9_lateHeadBy : qCd := ([[(0, .iload_n 1, 1, 0, 0, 0, 0), (1, .iconst 1, 1, 0, 0, 0, 0), (2, .isub, 1, 0, 0, 0, 0), (3, .istore_n 2, 1, 0, 0, 0, 0), (4, .iload_n 2, 1, 0, 0, 0, 0), (5, .ifCond .lt 32, 3, 37, 0, 0, 0), (8, .iload_n 2, 1, 0, 0, 0, 0), (9, .iload_n 1, 1, 0, 0, 0, 0), (10, .iconst 3, 1, 0, 0, 0, 0), (11, .isub, 1, 0, 0, 0, 0), (12, .if_icmp .lt 25, 3, 37, 0, 0, 0), (15, .aload_n 0, 1, 0, 0, 0, 0)],
  [(16, .getfield 25, 3, 9, 4, 0, 172), (19, .iload_n 2, 1, 0, 0, 0, 0), (20, .iaload, 1, 0, 0, 0, 0), (21, .iload_n 1, 1, 0, 0, 0, 0), (22, .iconst 1, 1, 0, 0, 0, 0), (23, .isub, 1, 0, 0, 0, 0), (24, .iload_n 2, 1, 0, 0, 0, 0), (25, .isub, 1, 0, 0, 0, 0), (26, .if_icmp .le 5, 3, 31, 0, 0, 0), (29, .iload_n 2, 1, 0, 0, 0, 0), (30, .ireturn, 1, 0, 0, 0, 0), (31, .iinc 2 (-1), 3, 0, 0, 0, 0)],
  [(34, .goto (-30), 3, 4, 0, 0, 0), (37, .iconst (-1), 1, 0, 0, 0, 0), (38, .ireturn, 1, 0, 0, 0, 0)]], [], 1, 3)
def qc_X9_hasBlankAhead : qCd := ([[(0, .aload_n 0, 1, 0, 0, 0, 0), (1, .getfield 35, 3, 9, 7, 0, 178), (4, .iload_n 1, 1, 0, 0, 0, 0), (5, .iconst 1, 1, 0, 0, 0, 0), (6, .iadd, 1, 0, 0, 0, 0), (7, .iaload, 1, 0, 0, 0, 0), (8, .aload_n 0, 1, 0, 0, 0, 0), (9, .getfield 35, 3, 9, 7, 0, 178), (12, .iload_n 1, 1, 0, 0, 0, 0), (13, .iaload, 1, 0, 0, 0, 0), (14, .if_icmp .le 7, 3, 21, 0, 0, 0)],
  [(17, .iconst 1, 1, 0, 0, 0, 0), (18, .goto 4, 3, 22, 0, 0, 0), (21, .iconst 0, 1, 0, 0, 0, 0), (22, .ireturn, 1, 0, 0, 0, 0)]], [], 2, 2)
def qc_X9_floatHigh : qCd := ([[(0, .aload_n 0, 1, 0, 0, 0, 0), (1, .getfield 59, 3, 9, 15, 0, 194), (4, .iload_n 1, 1, 0, 0, 0, 0), (5, .iconst 1, 1, 0, 0, 0, 0), (6, .iadd, 1, 0, 0, 0, 0), (7, .iaload, 1, 0, 0, 0, 0), (8, .aload_n 0, 1, 0, 0, 0, 0), (9, .getfield 59, 3, 9, 15, 0, 194), (12, .iload_n 1, 1, 0, 0, 0, 0), (13, .iaload, 1, 0, 0, 0, 0), (14, .isub, 1, 0, 0, 0, 0), (15, .ireturn, 1, 0, 0, 0, 0)]], [], 1, 2)
def qc_X10_init : qCd := ([[(0, .aload_n 0, 1, 0, 0, 0, 0), (1, .invokespecial 3, 3, 0, 1, 6, 37), (4, .aload_n 0, 1, 0, 0, 0, 0), (5, .iconst 3, 1, 0, 0, 0, 0), (6, .anewarray 9, 3, 0, 62, 0, 40), (9, .putfield 11, 3, 10, 0, 0, 526), (12, .aload_n 0, 1, 0, 0, 0, 0), (13, .new 15, 3, 0, 5, 0, 42)],
  [(16, .dup, 1, 0, 0, 0, 0), (17, .invokespecial 17, 3, 43, 1, 55, 44), (20, .putfield 18, 3, 10, 1, 0, 527), (23, .aload_n 0, 1, 0, 0, 0, 0), (24, .bipush 10, 2, 0, 0, 0, 0), (26, .newarray .int, 2, 0, 63, 0, 0), (28, .putfield 22, 3, 10, 2, 0, 528), (31, .aload_n 0, 1, 0, 0, 0, 0)],
  [(32, .new 26, 3, 0, 2, 0, 122), (35, .dup, 1, 0, 0, 0, 0), (36, .invokespecial 28, 3, 10, 1, 25, 124), (39, .putfield 29, 3, 10, 3, 0, 529), (42, .aload_n 0, 1, 0, 0, 0, 0), (43, .new 33, 3, 0, 6, 0, 317), (46, .dup, 1, 0, 0, 0, 0), (47, .invokespecial 35, 3, 51, 1, 65, 319)],
  [(50, .putfield 36, 3, 10, 4, 0, 530), (53, .aload_n 0, 1, 0, 0, 0, 0), (54, .new 40, 3, 0, 4, 0, 343), (57, .dup, 1, 0, 0, 0, 0), (58, .invokespecial 42, 3, 37, 1, 45, 345), (61, .putfield 43, 3, 10, 5, 0, 531)],
  [(64, .aload_n 0, 1, 0, 0, 0, 0), (65, .new 47, 3, 0, 3, 0, 374), (68, .dup, 1, 0, 0, 0, 0), (69, .invokespecial 49, 3, 25, 1, 35, 376), (72, .putfield 50, 3, 10, 6, 0, 532), (75, .aload_n 0, 1, 0, 0, 0, 0), (76, .new 47, 3, 0, 3, 0, 374), (79, .dup, 1, 0, 0, 0, 0)],
  [(80, .invokespecial 49, 3, 25, 1, 35, 376), (83, .putfield 54, 3, 10, 7, 0, 533), (86, .aload_n 0, 1, 0, 0, 0, 0), (87, .aload_n 0, 1, 0, 0, 0, 0), (88, .getfield 50, 3, 10, 6, 0, 532), (91, .putfield 57, 3, 10, 8, 0, 534), (94, .aload_n 0, 1, 0, 0, 0, 0), (95, .aconst_null, 1, 0, 0, 0, 0)],
  [(96, .putfield 60, 3, 10, 9, 0, 535), (99, .aload_n 0, 1, 0, 0, 0, 0), (100, .bipush 16, 2, 0, 0, 0, 0), (102, .putfield 63, 3, 10, 10, 0, 536), (105, .aload_n 0, 1, 0, 0, 0, 0), (106, .bipush 10, 2, 0, 0, 0, 0), (108, .putfield 67, 3, 10, 11, 0, 537), (111, .aload_n 0, 1, 0, 0, 0, 0)],
  [(112, .iconst 0, 1, 0, 0, 0, 0), (113, .putfield 70, 3, 10, 12, 0, 538), (116, .aload_n 0, 1, 0, 0, 0, 0), (117, .iconst 0, 1, 0, 0, 0, 0), (118, .putfield 74, 3, 10, 13, 0, 539), (121, .aload_n 0, 1, 0, 0, 0, 0), (122, .iconst 0, 1, 0, 0, 0, 0), (123, .putfield 77, 3, 10, 14, 0, 540), (126, .iconst 0, 1, 0, 0, 0, 0), (127, .istore_n 1, 1, 0, 0, 0, 0)],
  [(128, .iload_n 1, 1, 0, 0, 0, 0), (129, .iconst 3, 1, 0, 0, 0, 0), (130, .if_icmp .ge 22, 3, 152, 0, 0, 0), (133, .aload_n 0, 1, 0, 0, 0, 0), (134, .getfield 11, 3, 10, 0, 0, 526), (137, .iload_n 1, 1, 0, 0, 0, 0), (138, .new 9, 3, 0, 1, 0, 40), (141, .dup, 1, 0, 0, 0, 0), (142, .invokespecial 80, 3, 5, 1, 15, 498)],
  [(145, .aastore, 1, 0, 0, 0, 0), (146, .iinc 1 1, 3, 0, 0, 0, 0), (149, .goto (-21), 3, 128, 0, 0, 0), (152, .aload_n 0, 1, 0, 0, 0, 0), (153, .getfield 22, 3, 10, 2, 0, 528), (156, .iconst (-1), 1, 0, 0, 0, 0), (157, .invokestatic 81, 3, 267, 2, 2, 523)],
  [(160, .return_, 1, 0, 0, 0, 0)]], [], 0, 2)
def qc_X10_setMeasures : qCd := ([[(0, .iload_n 1, 1, 0, 0, 0, 0), (1, .bipush 8, 2, 0, 0, 0, 0), (3, .if_icmp .lt 21, 3, 24, 0, 0, 0), (6, .iload_n 1, 1, 0, 0, 0, 0), (7, .bipush 30, 2, 0, 0, 0, 0), (9, .if_icmp .gt 15, 3, 24, 0, 0, 0), (12, .iload_n 2, 1, 0, 0, 0, 0), (13, .bipush 8, 2, 0, 0, 0, 0), (15, .if_icmp .lt 9, 3, 24, 0, 0, 0)],
  [(18, .iload_n 2, 1, 0, 0, 0, 0), (19, .bipush 14, 2, 0, 0, 0, 0), (21, .if_icmp .le 13, 3, 34, 0, 0, 0), (24, .new 87, 3, 1, 0, 0, 0)],
  [(34, .aload_n 0, 1, 0, 0, 0, 0), (35, .getfield 63, 3, 10, 10, 0, 536), (38, .istore_n 3, 1, 0, 0, 0, 0), (39, .aload_n 0, 1, 0, 0, 0, 0), (40, .iload_n 1, 1, 0, 0, 0, 0), (41, .putfield 63, 3, 10, 10, 0, 536), (44, .aload_n 0, 1, 0, 0, 0, 0), (45, .iload_n 2, 1, 0, 0, 0, 0), (46, .putfield 67, 3, 10, 11, 0, 537)],
  [(49, .aload_n 0, 1, 0, 0, 0, 0), (50, .iconst 0, 1, 0, 0, 0, 0), (51, .putfield 74, 3, 10, 13, 0, 539), (54, .iload_n 3, 1, 0, 0, 0, 0), (55, .ireturn, 1, 0, 0, 0, 0)]], [], 1, 4)
def qc_X10_setByPage : qCd := ([[(0, .aload_n 0, 1, 0, 0, 0, 0), (1, .getfield 70, 3, 10, 12, 0, 538), (4, .istore_n 2, 1, 0, 0, 0, 0), (5, .aload_n 0, 1, 0, 0, 0, 0), (6, .iload_n 1, 1, 0, 0, 0, 0), (7, .putfield 70, 3, 10, 12, 0, 538), (10, .aload_n 0, 1, 0, 0, 0, 0), (11, .iconst 0, 1, 0, 0, 0, 0), (12, .putfield 74, 3, 10, 13, 0, 539), (15, .iload_n 2, 1, 0, 0, 0, 0)],
  [(16, .ireturn, 1, 0, 0, 0, 0)]], [], 2, 3)
def qc_X10_word : qCd := ([[(0, .iload_n 1, 1, 0, 0, 0, 0), (1, .iconst 1, 1, 0, 0, 0, 0), (2, .if_icmp .lt 17, 3, 19, 0, 0, 0), (5, .iload_n 1, 1, 0, 0, 0, 0), (6, .bipush 8, 2, 0, 0, 0, 0), (8, .if_icmp .gt 11, 3, 19, 0, 0, 0), (11, .iload_n 2, 1, 0, 0, 0, 0), (12, .iload_n 3, 1, 0, 0, 0, 0), (13, .invokestatic 94, 3, 146, 2, 102, 669)],
  [(16, .ifCond .ne 13, 3, 29, 0, 0, 0), (19, .new 87, 3, 1, 0, 0, 0), (29, .aload_n 0, 1, 0, 0, 0, 0), (30, .iload_n 1, 1, 0, 0, 0, 0), (31, .iload_n 2, 1, 0, 0, 0, 0)],
  [(32, .iload_n 3, 1, 0, 0, 0, 0), (33, .invokevirtual 100, 3, 139, 4, 100, 676), (36, .ireturn, 1, 0, 0, 0, 0)]], [], 1, 4)
def qc_X10_refer : qCd := ([[(0, .iload_n 1, 1, 0, 0, 0, 0), (1, .invokestatic 104, 3, 145, 1, 102, 672), (4, .ifCond .ne 13, 3, 17, 0, 0, 0), (7, .new 87, 3, 1, 0, 0, 0)],
  [(17, .aload_n 0, 1, 0, 0, 0, 0), (18, .iconst 0, 1, 0, 0, 0, 0), (19, .bipush 6, 2, 0, 0, 0, 0), (21, .iload_n 1, 1, 0, 0, 0, 0), (22, .invokevirtual 100, 3, 139, 4, 100, 676), (25, .ireturn, 1, 0, 0, 0, 0)]], [], 1, 2)
def qc_X10_clear : qCd := ([[(0, .aload_n 0, 1, 0, 0, 0, 0), (1, .getfield 18, 3, 10, 1, 0, 527), (4, .getfield 110, 3, 5, 2, 1, 60), (7, .istore_n 1, 1, 0, 0, 0, 0), (8, .aload_n 0, 1, 0, 0, 0, 0), (9, .getfield 18, 3, 10, 1, 0, 527), (12, .iconst 0, 1, 0, 0, 0, 0), (13, .putfield 110, 3, 5, 2, 1, 60)],
  [(16, .iload_n 1, 1, 0, 0, 0, 0), (17, .ireturn, 1, 0, 0, 0, 0)]], [], 1, 2)
def qc_X10_paragraph : qCd := ([[(0, .aload_n 0, 1, 0, 0, 0, 0), (1, .iload_n 1, 1, 0, 0, 0, 0), (2, .invokevirtual 113, 3, 133, 2, 100, 716), (5, .aload_n 0, 1, 0, 0, 0, 0), (6, .getfield 11, 3, 10, 0, 0, 526), (9, .iload_n 1, 1, 0, 0, 0, 0), (10, .aaload, 1, 0, 0, 0, 0), (11, .getfield 117, 3, 1, 1, 1, 517), (14, .bipush 10, 2, 0, 0, 0, 0)],
  [(16, .if_icmp .ge 12, 3, 28, 0, 0, 0), (19, .aload_n 0, 1, 0, 0, 0, 0), (20, .iload_n 1, 1, 0, 0, 0, 0), (21, .iconst (-1), 1, 0, 0, 0, 0), (22, .invokevirtual 118, 3, 141, 3, 100, 736), (25, .ifCond .ne 13, 3, 38, 0, 0, 0), (28, .new 121, 3, 1, 1, 0, 0)],
  [(38, .aload_n 0, 1, 0, 0, 0, 0), (39, .aload_n 0, 1, 0, 0, 0, 0), (40, .getfield 11, 3, 10, 0, 0, 526), (43, .iload_n 1, 1, 0, 0, 0, 0), (44, .aaload, 1, 0, 0, 0, 0), (45, .invokevirtual 126, 3, 140, 2, 100, 766)],
  [(48, .astore_n 2, 1, 0, 0, 0, 0), (49, .aload_n 2, 1, 0, 0, 0, 0), (50, .aload_n 0, 1, 0, 0, 0, 0), (51, .getfield 18, 3, 10, 1, 0, 527), (54, .invokevirtual 130, 3, 45, 2, 51, 770), (57, .aload_n 0, 1, 0, 0, 0, 0), (58, .getfield 18, 3, 10, 1, 0, 527), (61, .iconst 0, 1, 0, 0, 0, 0), (62, .putfield 110, 3, 5, 2, 1, 60)],
  [(65, .aload_n 0, 1, 0, 0, 0, 0), (66, .getfield 11, 3, 10, 0, 0, 526), (69, .iload_n 1, 1, 0, 0, 0, 0), (70, .aaload, 1, 0, 0, 0, 0), (71, .getfield 117, 3, 1, 1, 1, 517), (74, .iconst 1, 1, 0, 0, 0, 0), (75, .isub, 1, 0, 0, 0, 0), (76, .ireturn, 1, 0, 0, 0, 0)]], [], 1, 3)
def qc_X10_head : qCd := ([[(0, .aload_n 0, 1, 0, 0, 0, 0), (1, .iload_n 1, 1, 0, 0, 0, 0), (2, .invokevirtual 113, 3, 133, 2, 100, 716), (5, .iload_n 2, 1, 0, 0, 0, 0), (6, .ifCond .lt 18, 3, 24, 0, 0, 0), (9, .iload_n 2, 1, 0, 0, 0, 0), (10, .iconst 1, 1, 0, 0, 0, 0), (11, .if_icmp .gt 13, 3, 24, 0, 0, 0), (14, .iload_n 3, 1, 0, 0, 0, 0), (15, .iconst 1, 1, 0, 0, 0, 0)],
  [(16, .if_icmp .lt 8, 3, 24, 0, 0, 0), (19, .iload_n 3, 1, 0, 0, 0, 0), (20, .iconst 3, 1, 0, 0, 0, 0), (21, .if_icmp .le 13, 3, 34, 0, 0, 0), (24, .new 87, 3, 1, 0, 0, 0)],
  [(34, .aload_n 0, 1, 0, 0, 0, 0), (35, .getfield 11, 3, 10, 0, 0, 526), (38, .iload_n 1, 1, 0, 0, 0, 0), (39, .aaload, 1, 0, 0, 0, 0), (40, .getfield 117, 3, 1, 1, 1, 517), (43, .bipush 10, 2, 0, 0, 0, 0), (45, .if_icmp .lt 13, 3, 58, 0, 0, 0)],
  [(48, .new 121, 3, 1, 1, 0, 0), (58, .aload_n 0, 1, 0, 0, 0, 0), (59, .aload_n 0, 1, 0, 0, 0, 0), (60, .getfield 11, 3, 10, 0, 0, 526), (63, .iload_n 1, 1, 0, 0, 0, 0)],
  [(64, .aaload, 1, 0, 0, 0, 0), (65, .invokevirtual 126, 3, 140, 2, 100, 766), (68, .astore 4, 2, 0, 0, 0, 0), (70, .aload 4, 2, 0, 0, 0, 0), (72, .iload_n 3, 1, 0, 0, 0, 0), (73, .invokevirtual 138, 3, 46, 2, 51, 785), (76, .aload_n 0, 1, 0, 0, 0, 0), (77, .getfield 11, 3, 10, 0, 0, 526)],
  [(80, .iload_n 1, 1, 0, 0, 0, 0), (81, .aaload, 1, 0, 0, 0, 0), (82, .getfield 117, 3, 1, 1, 1, 517), (85, .iconst 1, 1, 0, 0, 0, 0), (86, .isub, 1, 0, 0, 0, 0), (87, .ireturn, 1, 0, 0, 0, 0)]], [], 1, 5)
def qc_X10_replace : qCd := ([[(0, .aload_n 0, 1, 0, 0, 0, 0), (1, .iload_n 1, 1, 0, 0, 0, 0), (2, .iload_n 2, 1, 0, 0, 0, 0), (3, .invokevirtual 141, 3, 134, 3, 100, 796), (6, .astore_n 3, 1, 0, 0, 0, 0), (7, .aload_n 3, 1, 0, 0, 0, 0), (8, .getfield 145, 3, 5, 0, 1, 52), (11, .ifCond .ne 12, 3, 23, 0, 0, 0), (14, .aload_n 0, 1, 0, 0, 0, 0), (15, .iload_n 1, 1, 0, 0, 0, 0)],
  [(16, .iload_n 2, 1, 0, 0, 0, 0), (17, .invokevirtual 118, 3, 141, 3, 100, 736), (20, .ifCond .ne 13, 3, 33, 0, 0, 0), (23, .new 121, 3, 1, 1, 0, 0)],
  [(33, .aload_n 3, 1, 0, 0, 0, 0), (34, .getfield 110, 3, 5, 2, 1, 60), (37, .istore 4, 2, 0, 0, 0, 0), (39, .aload_n 0, 1, 0, 0, 0, 0), (40, .dup, 1, 0, 0, 0, 0), (41, .getfield 77, 3, 10, 14, 0, 540), (44, .iconst 1, 1, 0, 0, 0, 0), (45, .iadd, 1, 0, 0, 0, 0), (46, .putfield 77, 3, 10, 14, 0, 540)],
  [(49, .aload_n 3, 1, 0, 0, 0, 0), (50, .aload_n 0, 1, 0, 0, 0, 0), (51, .getfield 77, 3, 10, 14, 0, 540), (54, .putfield 150, 3, 5, 3, 1, 63), (57, .aload_n 3, 1, 0, 0, 0, 0), (58, .aload_n 0, 1, 0, 0, 0, 0), (59, .getfield 18, 3, 10, 1, 0, 527), (62, .invokevirtual 130, 3, 45, 2, 51, 770)],
  [(65, .aload_n 0, 1, 0, 0, 0, 0), (66, .getfield 18, 3, 10, 1, 0, 527), (69, .iconst 0, 1, 0, 0, 0, 0), (70, .putfield 110, 3, 5, 2, 1, 60), (73, .aload_n 0, 1, 0, 0, 0, 0), (74, .iconst 0, 1, 0, 0, 0, 0), (75, .putfield 74, 3, 10, 13, 0, 539), (78, .iload 4, 2, 0, 0, 0, 0)],
  [(80, .ireturn, 1, 0, 0, 0, 0)]], [], 1, 5)
def qc_X10_seeAlso : qCd := ([[(0, .aload_n 0, 1, 0, 0, 0, 0), (1, .iload_n 1, 1, 0, 0, 0, 0), (2, .invokevirtual 153, 3, 136, 2, 100, 809), (5, .iload_n 2, 1, 0, 0, 0, 0), (6, .iconst (-1), 1, 0, 0, 0, 0), (7, .if_icmp .lt 14, 3, 21, 0, 0, 0), (10, .iload_n 2, 1, 0, 0, 0, 0), (11, .bipush 10, 2, 0, 0, 0, 0), (13, .if_icmp .ge 8, 3, 21, 0, 0, 0)],
  [(16, .iload_n 2, 1, 0, 0, 0, 0), (17, .iload_n 1, 1, 0, 0, 0, 0), (18, .if_icmp .ne 13, 3, 31, 0, 0, 0), (21, .new 87, 3, 1, 0, 0, 0), (31, .aload_n 0, 1, 0, 0, 0, 0)],
  [(32, .getfield 22, 3, 10, 2, 0, 528), (35, .iload_n 1, 1, 0, 0, 0, 0), (36, .iaload, 1, 0, 0, 0, 0), (37, .istore_n 3, 1, 0, 0, 0, 0), (38, .aload_n 0, 1, 0, 0, 0, 0), (39, .getfield 22, 3, 10, 2, 0, 528), (42, .iload_n 1, 1, 0, 0, 0, 0), (43, .iload_n 2, 1, 0, 0, 0, 0), (44, .iastore, 1, 0, 0, 0, 0), (45, .aload_n 0, 1, 0, 0, 0, 0), (46, .iconst 0, 1, 0, 0, 0, 0), (47, .putfield 74, 3, 10, 13, 0, 539)],
  [(50, .iload_n 3, 1, 0, 0, 0, 0), (51, .ireturn, 1, 0, 0, 0, 0)]], [], 1, 4)
def qc_X10_compose : qCd := ([[(0, .iload_n 1, 1, 0, 0, 0, 0), (1, .ifCond .eq 20, 3, 21, 0, 0, 0), (4, .aload_n 0, 1, 0, 0, 0, 0), (5, .getfield 60, 3, 10, 9, 0, 535), (8, .ifnonnull 13, 3, 21, 0, 0, 0), (11, .new 121, 3, 1, 1, 0, 0)],
  [(21, .aload_n 0, 1, 0, 0, 0, 0), (22, .getfield 57, 3, 10, 8, 0, 534), (25, .aload_n 0, 1, 0, 0, 0, 0), (26, .getfield 60, 3, 10, 9, 0, 535), (29, .if_acmp .ne 29, 3, 58, 0, 0, 0)],
  [(32, .aload_n 0, 1, 0, 0, 0, 0), (33, .aload_n 0, 1, 0, 0, 0, 0), (34, .getfield 60, 3, 10, 9, 0, 535), (37, .aload_n 0, 1, 0, 0, 0, 0), (38, .getfield 50, 3, 10, 6, 0, 532), (41, .if_acmp .ne 10, 3, 51, 0, 0, 0), (44, .aload_n 0, 1, 0, 0, 0, 0), (45, .getfield 54, 3, 10, 7, 0, 533)],
  [(48, .goto 7, 3, 55, 0, 0, 0), (51, .aload_n 0, 1, 0, 0, 0, 0), (52, .getfield 50, 3, 10, 6, 0, 532), (55, .putfield 57, 3, 10, 8, 0, 534), (58, .aload_n 0, 1, 0, 0, 0, 0), (59, .getfield 57, 3, 10, 8, 0, 534), (62, .aload_n 0, 1, 0, 0, 0, 0), (63, .getfield 11, 3, 10, 0, 0, 526)],
  [(66, .aload_n 0, 1, 0, 0, 0, 0), (67, .getfield 63, 3, 10, 10, 0, 536), (70, .aload_n 0, 1, 0, 0, 0, 0), (71, .getfield 67, 3, 10, 11, 0, 537), (74, .aload_n 0, 1, 0, 0, 0, 0), (75, .getfield 70, 3, 10, 12, 0, 538), (78, .invokevirtual 160, 3, 26, 5, 31, 823)],
  [(81, .aload_n 0, 1, 0, 0, 0, 0), (82, .getfield 29, 3, 10, 3, 0, 529), (85, .aload_n 0, 1, 0, 0, 0, 0), (86, .getfield 11, 3, 10, 0, 0, 526), (89, .aload_n 0, 1, 0, 0, 0, 0), (90, .getfield 57, 3, 10, 8, 0, 534), (93, .iload_n 1, 1, 0, 0, 0, 0), (94, .ifCond .eq 10, 3, 104, 0, 0, 0)],
  [(97, .aload_n 0, 1, 0, 0, 0, 0), (98, .getfield 60, 3, 10, 9, 0, 535), (101, .goto 4, 3, 105, 0, 0, 0), (104, .aconst_null, 1, 0, 0, 0, 0), (105, .invokevirtual 164, 3, 11, 4, 21, 831), (108, .istore_n 2, 1, 0, 0, 0, 0), (109, .aload_n 0, 1, 0, 0, 0, 0), (110, .iload_n 2, 1, 0, 0, 0, 0), (111, .ifCond .le 7, 3, 118, 0, 0, 0)],
  [(114, .iconst 1, 1, 0, 0, 0, 0), (115, .goto 4, 3, 119, 0, 0, 0), (118, .iconst 0, 1, 0, 0, 0, 0), (119, .putfield 74, 3, 10, 13, 0, 539), (122, .aload_n 0, 1, 0, 0, 0, 0), (123, .getfield 74, 3, 10, 13, 0, 539), (126, .ifCond .eq 73, 3, 199, 0, 0, 0)],
  [(129, .aload_n 0, 1, 0, 0, 0, 0), (130, .getfield 36, 3, 10, 4, 0, 530), (133, .aload_n 0, 1, 0, 0, 0, 0), (134, .getfield 11, 3, 10, 0, 0, 526), (137, .aload_n 0, 1, 0, 0, 0, 0), (138, .getfield 57, 3, 10, 8, 0, 534), (141, .invokevirtual 168, 3, 52, 3, 61, 1324)],
  [(144, .aload_n 0, 1, 0, 0, 0, 0), (145, .getfield 43, 3, 10, 5, 0, 531), (148, .aload_n 0, 1, 0, 0, 0, 0), (149, .getfield 11, 3, 10, 0, 0, 526), (152, .aload_n 0, 1, 0, 0, 0, 0), (153, .getfield 57, 3, 10, 8, 0, 534), (156, .invokevirtual 172, 3, 38, 3, 41, 1354), (159, .aload_n 0, 1, 0, 0, 0, 0)],
  [(160, .getfield 43, 3, 10, 5, 0, 531), (163, .aload_n 0, 1, 0, 0, 0, 0), (164, .getfield 22, 3, 10, 2, 0, 528), (167, .aload_n 0, 1, 0, 0, 0, 0), (168, .getfield 57, 3, 10, 8, 0, 534), (171, .getfield 175, 3, 3, 1, 1, 444), (174, .invokevirtual 176, 3, 40, 3, 41, 1364)],
  [(177, .aload_n 0, 1, 0, 0, 0, 0), (178, .getfield 57, 3, 10, 8, 0, 534), (181, .aload_n 0, 1, 0, 0, 0, 0), (182, .getfield 57, 3, 10, 8, 0, 534), (185, .getfield 179, 3, 3, 4, 1, 451), (188, .aload_n 0, 1, 0, 0, 0, 0), (189, .getfield 43, 3, 10, 5, 0, 531)],
  [(192, .getfield 182, 3, 4, 4, 1, 359), (195, .iadd, 1, 0, 0, 0, 0), (196, .putfield 185, 3, 3, 5, 1, 453), (199, .iload_n 2, 1, 0, 0, 0, 0), (200, .ireturn, 1, 0, 0, 0, 0)]], [], 1, 3)
def qc_X10_print : qCd := ([[(0, .aload_n 0, 1, 0, 0, 0, 0), (1, .invokevirtual 188, 3, 138, 1, 100, 1375), (4, .aload_n 0, 1, 0, 0, 0, 0), (5, .aload_n 0, 1, 0, 0, 0, 0), (6, .getfield 57, 3, 10, 8, 0, 534), (9, .putfield 60, 3, 10, 9, 0, 535), (12, .aload_n 0, 1, 0, 0, 0, 0), (13, .getfield 57, 3, 10, 8, 0, 534)],
  [(16, .getfield 185, 3, 3, 5, 1, 453), (19, .ireturn, 1, 0, 0, 0, 0)]], [], 1, 1)
def qc_X10_isComposed : qCd := ([[(0, .aload_n 0, 1, 0, 0, 0, 0), (1, .getfield 74, 3, 10, 13, 0, 539), (4, .ireturn, 1, 0, 0, 0, 0)]], [], 2, 1)
def qc_X10_items : qCd := ([[(0, .aload_n 0, 1, 0, 0, 0, 0), (1, .iload_n 1, 1, 0, 0, 0, 0), (2, .invokevirtual 113, 3, 133, 2, 100, 716), (5, .aload_n 0, 1, 0, 0, 0, 0), (6, .getfield 11, 3, 10, 0, 0, 526), (9, .iload_n 1, 1, 0, 0, 0, 0), (10, .aaload, 1, 0, 0, 0, 0), (11, .getfield 117, 3, 1, 1, 1, 517), (14, .ireturn, 1, 0, 0, 0, 0)]], [], 1, 2)
def qc_X10_words : qCd := ([[(0, .aload_n 0, 1, 0, 0, 0, 0), (1, .iload_n 1, 1, 0, 0, 0, 0), (2, .iload_n 2, 1, 0, 0, 0, 0), (3, .invokevirtual 141, 3, 134, 3, 100, 796), (6, .getfield 110, 3, 5, 2, 1, 60), (9, .ireturn, 1, 0, 0, 0, 0)]], [], 1, 3)
def qc_X10_widthOf : qCd := ([[(0, .aload_n 0, 1, 0, 0, 0, 0), (1, .iload_n 1, 1, 0, 0, 0, 0), (2, .iload_n 2, 1, 0, 0, 0, 0), (3, .iload_n 3, 1, 0, 0, 0, 0), (4, .invokevirtual 191, 3, 135, 4, 100, 1401), (7, .aload_n 0, 1, 0, 0, 0, 0), (8, .invokevirtual 188, 3, 138, 1, 100, 1375), (11, .aload_n 0, 1, 0, 0, 0, 0), (12, .getfield 11, 3, 10, 0, 0, 526), (15, .iload_n 1, 1, 0, 0, 0, 0)],
  [(16, .aaload, 1, 0, 0, 0, 0), (17, .getfield 195, 3, 1, 0, 1, 511), (20, .iload_n 2, 1, 0, 0, 0, 0), (21, .aaload, 1, 0, 0, 0, 0), (22, .iload_n 3, 1, 0, 0, 0, 0), (23, .invokevirtual 199, 3, 47, 2, 51, 1405), (26, .ireturn, 1, 0, 0, 0, 0)]], [], 1, 4)
def qc_X10_lines : qCd := ([[(0, .aload_n 0, 1, 0, 0, 0, 0), (1, .iload_n 1, 1, 0, 0, 0, 0), (2, .iload_n 2, 1, 0, 0, 0, 0), (3, .invokevirtual 141, 3, 134, 3, 100, 796), (6, .astore_n 3, 1, 0, 0, 0, 0), (7, .aload_n 0, 1, 0, 0, 0, 0), (8, .invokevirtual 188, 3, 138, 1, 100, 1375), (11, .aload_n 3, 1, 0, 0, 0, 0), (12, .getfield 203, 3, 5, 10, 1, 86), (15, .ireturn, 1, 0, 0, 0, 0)]], [], 1, 4)
def qc_X10_wordsTo : qCd := ([[(0, .aload_n 0, 1, 0, 0, 0, 0), (1, .iload_n 1, 1, 0, 0, 0, 0), (2, .iload_n 2, 1, 0, 0, 0, 0), (3, .invokevirtual 141, 3, 134, 3, 100, 796), (6, .astore 4, 2, 0, 0, 0, 0), (8, .iload_n 3, 1, 0, 0, 0, 0), (9, .ifCond .lt 19, 3, 28, 0, 0, 0), (12, .aload_n 0, 1, 0, 0, 0, 0), (13, .getfield 74, 3, 10, 13, 0, 539)],
  [(16, .ifCond .eq 22, 3, 38, 0, 0, 0), (19, .iload_n 3, 1, 0, 0, 0, 0), (20, .aload 4, 2, 0, 0, 0, 0), (22, .getfield 203, 3, 5, 10, 1, 86), (25, .if_icmp .lt 13, 3, 38, 0, 0, 0), (28, .new 206, 3, 1, 2, 0, 0)],
  [(38, .aload_n 0, 1, 0, 0, 0, 0), (39, .invokevirtual 188, 3, 138, 1, 100, 1375), (42, .iload_n 3, 1, 0, 0, 0, 0), (43, .aload 4, 2, 0, 0, 0, 0), (45, .getfield 211, 3, 5, 12, 1, 93)],
  [(48, .arraylength, 1, 0, 0, 0, 0), (49, .if_icmp .ge 13, 3, 62, 0, 0, 0), (52, .aload 4, 2, 0, 0, 0, 0), (54, .getfield 211, 3, 5, 12, 1, 93), (57, .iload_n 3, 1, 0, 0, 0, 0), (58, .iaload, 1, 0, 0, 0, 0), (59, .goto 4, 3, 63, 0, 0, 0), (62, .iconst 0, 1, 0, 0, 0, 0), (63, .ireturn, 1, 0, 0, 0, 0)]], [], 1, 5)
def qc_X10_costOfLines : qCd := ([[(0, .aload_n 0, 1, 0, 0, 0, 0), (1, .iload_n 1, 1, 0, 0, 0, 0), (2, .iload_n 2, 1, 0, 0, 0, 0), (3, .invokevirtual 141, 3, 134, 3, 100, 796), (6, .astore_n 3, 1, 0, 0, 0, 0), (7, .aload_n 0, 1, 0, 0, 0, 0), (8, .invokevirtual 188, 3, 138, 1, 100, 1375), (11, .aload_n 3, 1, 0, 0, 0, 0), (12, .getfield 214, 3, 5, 11, 1, 89), (15, .ireturn, 1, 0, 0, 0, 0)]], [], 1, 4)
def qc_X10_rows : qCd := ([[(0, .aload_n 0, 1, 0, 0, 0, 0), (1, .iload_n 1, 1, 0, 0, 0, 0), (2, .invokevirtual 113, 3, 133, 2, 100, 716), (5, .aload_n 0, 1, 0, 0, 0, 0), (6, .invokevirtual 188, 3, 138, 1, 100, 1375), (9, .aload_n 0, 1, 0, 0, 0, 0), (10, .getfield 57, 3, 10, 8, 0, 534), (13, .getfield 217, 3, 3, 6, 1, 457)],
  [(16, .iload_n 1, 1, 0, 0, 0, 0), (17, .aaload, 1, 0, 0, 0, 0), (18, .getfield 221, 3, 9, 0, 1, 159), (21, .ireturn, 1, 0, 0, 0, 0)]], [], 1, 2)
def qc_X10_broken : qCd := ([[(0, .aload_n 0, 1, 0, 0, 0, 0), (1, .invokevirtual 188, 3, 138, 1, 100, 1375), (4, .aload_n 0, 1, 0, 0, 0, 0), (5, .getfield 29, 3, 10, 3, 0, 529), (8, .getfield 224, 3, 2, 9, 1, 291), (11, .ireturn, 1, 0, 0, 0, 0)]], [], 1, 1)
def qc_X10_pages : qCd := ([[(0, .aload_n 0, 1, 0, 0, 0, 0), (1, .invokevirtual 188, 3, 138, 1, 100, 1375), (4, .aload_n 0, 1, 0, 0, 0, 0), (5, .getfield 57, 3, 10, 8, 0, 534), (8, .getfield 185, 3, 3, 5, 1, 453), (11, .ireturn, 1, 0, 0, 0, 0)]], [], 1, 1)
def qc_X10_kindOf : qCd := ([[(0, .aload_n 0, 1, 0, 0, 0, 0), (1, .iload_n 1, 1, 0, 0, 0, 0), (2, .invokevirtual 227, 3, 137, 2, 100, 1456), (5, .aload_n 0, 1, 0, 0, 0, 0), (6, .invokevirtual 188, 3, 138, 1, 100, 1375), (9, .aload_n 0, 1, 0, 0, 0, 0), (10, .getfield 57, 3, 10, 8, 0, 534), (13, .iload_n 1, 1, 0, 0, 0, 0), (14, .invokevirtual 230, 3, 27, 2, 31, 1461)],
  [(17, .ireturn, 1, 0, 0, 0, 0)]], [], 1, 2)
def qc_X10_pageOf : qCd := ([[(0, .aload_n 0, 1, 0, 0, 0, 0), (1, .iload_n 1, 1, 0, 0, 0, 0), (2, .invokevirtual 113, 3, 133, 2, 100, 716), (5, .aload_n 0, 1, 0, 0, 0, 0), (6, .invokevirtual 188, 3, 138, 1, 100, 1375), (9, .aload_n 0, 1, 0, 0, 0, 0), (10, .getfield 57, 3, 10, 8, 0, 534), (13, .getfield 233, 3, 3, 7, 1, 461)],
  [(16, .iload_n 1, 1, 0, 0, 0, 0), (17, .aaload, 1, 0, 0, 0, 0), (18, .astore_n 3, 1, 0, 0, 0, 0), (19, .aload_n 3, 1, 0, 0, 0, 0), (20, .getfield 237, 3, 8, 1, 1, 399), (23, .ifCond .ne 5, 3, 28, 0, 0, 0), (26, .iconst (-1), 1, 0, 0, 0, 0), (27, .ireturn, 1, 0, 0, 0, 0), (28, .iload_n 2, 1, 0, 0, 0, 0), (29, .ifCond .eq 17, 3, 46, 0, 0, 0)],
  [(32, .aload_n 3, 1, 0, 0, 0, 0), (33, .getfield 240, 3, 8, 0, 1, 394), (36, .aload_n 3, 1, 0, 0, 0, 0), (37, .getfield 237, 3, 8, 1, 1, 399), (40, .iadd, 1, 0, 0, 0, 0), (41, .iconst 1, 1, 0, 0, 0, 0), (42, .isub, 1, 0, 0, 0, 0), (43, .goto 7, 3, 50, 0, 0, 0), (46, .aload_n 3, 1, 0, 0, 0, 0), (47, .getfield 240, 3, 8, 0, 1, 394)],
  [(50, .ireturn, 1, 0, 0, 0, 0)]], [], 1, 4)
def qc_X10_pageOfRow : qCd := ([[(0, .aload_n 0, 1, 0, 0, 0, 0), (1, .iload_n 1, 1, 0, 0, 0, 0), (2, .invokevirtual 113, 3, 133, 2, 100, 716), (5, .iload_n 2, 1, 0, 0, 0, 0), (6, .ifCond .lt 26, 3, 32, 0, 0, 0), (9, .aload_n 0, 1, 0, 0, 0, 0), (10, .getfield 74, 3, 10, 13, 0, 539), (13, .ifCond .eq 29, 3, 42, 0, 0, 0)],
  [(16, .iload_n 2, 1, 0, 0, 0, 0), (17, .aload_n 0, 1, 0, 0, 0, 0), (18, .getfield 57, 3, 10, 8, 0, 534), (21, .getfield 217, 3, 3, 6, 1, 457), (24, .iload_n 1, 1, 0, 0, 0, 0), (25, .aaload, 1, 0, 0, 0, 0), (26, .getfield 221, 3, 9, 0, 1, 159), (29, .if_icmp .lt 13, 3, 42, 0, 0, 0)],
  [(32, .new 206, 3, 1, 2, 0, 0), (42, .aload_n 0, 1, 0, 0, 0, 0), (43, .invokevirtual 188, 3, 138, 1, 100, 1375), (46, .aload_n 0, 1, 0, 0, 0, 0), (47, .getfield 57, 3, 10, 8, 0, 534)],
  [(50, .getfield 233, 3, 3, 7, 1, 461), (53, .iload_n 1, 1, 0, 0, 0, 0), (54, .aaload, 1, 0, 0, 0, 0), (55, .iload_n 2, 1, 0, 0, 0, 0), (56, .invokevirtual 245, 3, 85, 2, 81, 1480), (59, .ireturn, 1, 0, 0, 0, 0)]], [], 1, 3)
def qc_X10_onPage : qCd := ([[(0, .aload_n 0, 1, 0, 0, 0, 0), (1, .iload_n 1, 1, 0, 0, 0, 0), (2, .invokevirtual 227, 3, 137, 2, 100, 1456), (5, .iload_n 2, 1, 0, 0, 0, 0), (6, .ifCond .lt 8, 3, 14, 0, 0, 0), (9, .iload_n 2, 1, 0, 0, 0, 0), (10, .iconst 4, 1, 0, 0, 0, 0), (11, .if_icmp .le 13, 3, 24, 0, 0, 0), (14, .new 87, 3, 1, 0, 0, 0)],
  [(24, .aload_n 0, 1, 0, 0, 0, 0), (25, .invokevirtual 188, 3, 138, 1, 100, 1375), (28, .aload_n 0, 1, 0, 0, 0, 0), (29, .getfield 57, 3, 10, 8, 0, 534)],
  [(32, .iload_n 1, 1, 0, 0, 0, 0), (33, .invokevirtual 230, 3, 27, 2, 31, 1461), (36, .istore_n 3, 1, 0, 0, 0, 0), (37, .iload_n 3, 1, 0, 0, 0, 0), (38, .iconst 3, 1, 0, 0, 0, 0), (39, .if_icmp .ge 33, 3, 72, 0, 0, 0), (42, .aload_n 0, 1, 0, 0, 0, 0), (43, .getfield 57, 3, 10, 8, 0, 534), (46, .getfield 233, 3, 3, 7, 1, 461)],
  [(49, .iload_n 3, 1, 0, 0, 0, 0), (50, .aaload, 1, 0, 0, 0, 0), (51, .iload_n 1, 1, 0, 0, 0, 0), (52, .aload_n 0, 1, 0, 0, 0, 0), (53, .getfield 57, 3, 10, 8, 0, 534), (56, .getfield 233, 3, 3, 7, 1, 461), (59, .iload_n 3, 1, 0, 0, 0, 0), (60, .aaload, 1, 0, 0, 0, 0), (61, .getfield 240, 3, 8, 0, 1, 394)],
  [(64, .isub, 1, 0, 0, 0, 0), (65, .iload_n 2, 1, 0, 0, 0, 0), (66, .invokevirtual 250, 3, 86, 3, 81, 1492), (69, .goto 4, 3, 73, 0, 0, 0), (72, .iconst 0, 1, 0, 0, 0, 0), (73, .ireturn, 1, 0, 0, 0, 0)]], [], 1, 4)
def qc_X10_cost : qCd := ([[(0, .aload_n 0, 1, 0, 0, 0, 0), (1, .iload_n 1, 1, 0, 0, 0, 0), (2, .invokevirtual 113, 3, 133, 2, 100, 716), (5, .aload_n 0, 1, 0, 0, 0, 0), (6, .invokevirtual 188, 3, 138, 1, 100, 1375), (9, .aload_n 0, 1, 0, 0, 0, 0), (10, .getfield 57, 3, 10, 8, 0, 534), (13, .getfield 233, 3, 3, 7, 1, 461)],
  [(16, .iload_n 1, 1, 0, 0, 0, 0), (17, .aaload, 1, 0, 0, 0, 0), (18, .getfield 254, 3, 8, 3, 1, 405), (21, .ireturn, 1, 0, 0, 0, 0)]], [], 1, 2)
def qc_X10_costByAll : qCd := ([[(0, .aload_n 0, 1, 0, 0, 0, 0), (1, .iload_n 1, 1, 0, 0, 0, 0), (2, .invokevirtual 113, 3, 133, 2, 100, 716), (5, .aload_n 0, 1, 0, 0, 0, 0), (6, .invokevirtual 188, 3, 138, 1, 100, 1375), (9, .aload_n 0, 1, 0, 0, 0, 0), (10, .getfield 57, 3, 10, 8, 0, 534), (13, .getfield 217, 3, 3, 6, 1, 457)],
  [(16, .iload_n 1, 1, 0, 0, 0, 0), (17, .aaload, 1, 0, 0, 0, 0), (18, .getfield 221, 3, 9, 0, 1, 159), (21, .bipush 8, 2, 0, 0, 0, 0), (23, .if_icmp .le 14, 3, 37, 0, 0, 0), (26, .new 121, 3, 1, 1, 1, 0)],
  [(37, .aload_n 0, 1, 0, 0, 0, 0), (38, .getfield 29, 3, 10, 3, 0, 529), (41, .getfield 259, 3, 2, 1, 1, 282), (44, .aload_n 0, 1, 0, 0, 0, 0), (45, .getfield 57, 3, 10, 8, 0, 534)],
  [(48, .getfield 217, 3, 3, 6, 1, 457), (51, .iload_n 1, 1, 0, 0, 0, 0), (52, .aaload, 1, 0, 0, 0, 0), (53, .aload_n 0, 1, 0, 0, 0, 0), (54, .getfield 57, 3, 10, 8, 0, 534), (57, .getfield 175, 3, 3, 1, 1, 444), (60, .invokevirtual 263, 3, 77, 3, 71, 1508), (63, .ireturn, 1, 0, 0, 0, 0)]], [], 1, 2)
def qc_X10_isSettled : qCd := ([[(0, .aload_n 0, 1, 0, 0, 0, 0), (1, .invokevirtual 188, 3, 138, 1, 100, 1375), (4, .aload_n 0, 1, 0, 0, 0, 0), (5, .getfield 29, 3, 10, 3, 0, 529), (8, .getfield 269, 3, 2, 10, 1, 293), (11, .ireturn, 1, 0, 0, 0, 0)]], [], 2, 1)
def qc_X10_textOf : qCd := ([[(0, .aload_n 0, 1, 0, 0, 0, 0), (1, .iload_n 1, 1, 0, 0, 0, 0), (2, .iload_n 2, 1, 0, 0, 0, 0), (3, .iload_n 3, 1, 0, 0, 0, 0), (4, .invokevirtual 191, 3, 135, 4, 100, 1401), (7, .aload_n 0, 1, 0, 0, 0, 0), (8, .invokevirtual 188, 3, 138, 1, 100, 1375), (11, .aload_n 0, 1, 0, 0, 0, 0), (12, .getfield 57, 3, 10, 8, 0, 534), (15, .getfield 272, 3, 3, 10, 1, 468)],
  [(18, .iload_n 1, 1, 0, 0, 0, 0), (19, .iload_n 2, 1, 0, 0, 0, 0), (20, .iload_n 3, 1, 0, 0, 0, 0), (21, .invokestatic 275, 3, 147, 3, 102, 1534), (24, .iaload, 1, 0, 0, 0, 0), (25, .ireturn, 1, 0, 0, 0, 0)]], [], 1, 4)
def qc_X10_noteOf : qCd := ([[(0, .aload_n 0, 1, 0, 0, 0, 0), (1, .iload_n 1, 1, 0, 0, 0, 0), (2, .iload_n 2, 1, 0, 0, 0, 0), (3, .iload_n 3, 1, 0, 0, 0, 0), (4, .invokevirtual 191, 3, 135, 4, 100, 1401), (7, .aload_n 0, 1, 0, 0, 0, 0), (8, .invokevirtual 188, 3, 138, 1, 100, 1375), (11, .aload_n 0, 1, 0, 0, 0, 0), (12, .getfield 57, 3, 10, 8, 0, 534), (15, .getfield 278, 3, 3, 11, 1, 471)],
  [(18, .iload_n 1, 1, 0, 0, 0, 0), (19, .iload_n 2, 1, 0, 0, 0, 0), (20, .iload_n 3, 1, 0, 0, 0, 0), (21, .invokestatic 275, 3, 147, 3, 102, 1534), (24, .iaload, 1, 0, 0, 0, 0), (25, .ireturn, 1, 0, 0, 0, 0)]], [], 1, 4)
def qc_X10_headOf : qCd := ([[(0, .aload_n 0, 1, 0, 0, 0, 0), (1, .iload_n 1, 1, 0, 0, 0, 0), (2, .invokevirtual 227, 3, 137, 2, 100, 1456), (5, .aload_n 0, 1, 0, 0, 0, 0), (6, .invokevirtual 188, 3, 138, 1, 100, 1375), (9, .aload_n 0, 1, 0, 0, 0, 0), (10, .getfield 57, 3, 10, 8, 0, 534), (13, .iload_n 1, 1, 0, 0, 0, 0), (14, .invokevirtual 230, 3, 27, 2, 31, 1461)],
  [(17, .istore_n 3, 1, 0, 0, 0, 0), (18, .iload_n 3, 1, 0, 0, 0, 0), (19, .iconst 3, 1, 0, 0, 0, 0), (20, .if_icmp .ge 16, 3, 36, 0, 0, 0), (23, .aload_n 0, 1, 0, 0, 0, 0), (24, .getfield 57, 3, 10, 8, 0, 534), (27, .iload_n 3, 1, 0, 0, 0, 0), (28, .iload_n 1, 1, 0, 0, 0, 0), (29, .iload_n 2, 1, 0, 0, 0, 0), (30, .invokevirtual 281, 3, 28, 4, 31, 1549)],
  [(33, .goto 4, 3, 37, 0, 0, 0), (36, .iconst (-1), 1, 0, 0, 0, 0), (37, .ireturn, 1, 0, 0, 0, 0)]], [], 1, 4)
def qc_X10_marginOf : qCd := ([[(0, .aload_n 0, 1, 0, 0, 0, 0), (1, .iload_n 1, 1, 0, 0, 0, 0), (2, .iload_n 2, 1, 0, 0, 0, 0), (3, .iload_n 3, 1, 0, 0, 0, 0), (4, .invokevirtual 191, 3, 135, 4, 100, 1401), (7, .aload_n 0, 1, 0, 0, 0, 0), (8, .invokevirtual 188, 3, 138, 1, 100, 1375), (11, .aload_n 0, 1, 0, 0, 0, 0), (12, .getfield 36, 3, 10, 4, 0, 530), (15, .getfield 285, 3, 6, 0, 1, 324)],
  [(18, .iload_n 1, 1, 0, 0, 0, 0), (19, .iload_n 2, 1, 0, 0, 0, 0), (20, .iload_n 3, 1, 0, 0, 0, 0), (21, .invokestatic 275, 3, 147, 3, 102, 1534), (24, .iaload, 1, 0, 0, 0, 0), (25, .ireturn, 1, 0, 0, 0, 0)]], [], 1, 4)
def qc_X10_ranges : qCd := ([[(0, .aload_n 0, 1, 0, 0, 0, 0), (1, .iload_n 1, 1, 0, 0, 0, 0), (2, .invokevirtual 153, 3, 136, 2, 100, 809), (5, .aload_n 0, 1, 0, 0, 0, 0), (6, .invokevirtual 188, 3, 138, 1, 100, 1375), (9, .aload_n 0, 1, 0, 0, 0, 0), (10, .getfield 43, 3, 10, 5, 0, 531), (13, .getfield 288, 3, 4, 0, 1, 351)],
  [(16, .iload_n 1, 1, 0, 0, 0, 0), (17, .iaload, 1, 0, 0, 0, 0), (18, .ireturn, 1, 0, 0, 0, 0)]], [], 1, 2)
def qc_X10_range : qCd := ([[(0, .aload_n 0, 1, 0, 0, 0, 0), (1, .iload_n 1, 1, 0, 0, 0, 0), (2, .invokevirtual 153, 3, 136, 2, 100, 809), (5, .iload_n 2, 1, 0, 0, 0, 0), (6, .ifCond .ge 14, 3, 20, 0, 0, 0), (9, .new 87, 3, 1, 0, 1, 0)],
  [(20, .aload_n 0, 1, 0, 0, 0, 0), (21, .invokevirtual 188, 3, 138, 1, 100, 1375), (24, .iload_n 2, 1, 0, 0, 0, 0), (25, .aload_n 0, 1, 0, 0, 0, 0), (26, .getfield 43, 3, 10, 5, 0, 531), (29, .getfield 288, 3, 4, 0, 1, 351)],
  [(32, .iload_n 1, 1, 0, 0, 0, 0), (33, .iaload, 1, 0, 0, 0, 0), (34, .if_icmp .lt 5, 3, 39, 0, 0, 0), (37, .iconst (-1), 1, 0, 0, 0, 0), (38, .ireturn, 1, 0, 0, 0, 0), (39, .iload_n 3, 1, 0, 0, 0, 0), (40, .ifCond .eq 17, 3, 57, 0, 0, 0), (43, .aload_n 0, 1, 0, 0, 0, 0), (44, .getfield 43, 3, 10, 5, 0, 531), (47, .getfield 292, 3, 4, 2, 1, 355)],
  [(50, .iload_n 1, 1, 0, 0, 0, 0), (51, .aaload, 1, 0, 0, 0, 0), (52, .iload_n 2, 1, 0, 0, 0, 0), (53, .iaload, 1, 0, 0, 0, 0), (54, .goto 14, 3, 68, 0, 0, 0), (57, .aload_n 0, 1, 0, 0, 0, 0), (58, .getfield 43, 3, 10, 5, 0, 531), (61, .getfield 295, 3, 4, 1, 1, 353)],
  [(64, .iload_n 1, 1, 0, 0, 0, 0), (65, .aaload, 1, 0, 0, 0, 0), (66, .iload_n 2, 1, 0, 0, 0, 0), (67, .iaload, 1, 0, 0, 0, 0), (68, .ireturn, 1, 0, 0, 0, 0)]], [], 1, 4)
def qc_X10_indexLines : qCd := ([[(0, .aload_n 0, 1, 0, 0, 0, 0), (1, .invokevirtual 188, 3, 138, 1, 100, 1375), (4, .aload_n 0, 1, 0, 0, 0, 0), (5, .getfield 43, 3, 10, 5, 0, 531), (8, .getfield 297, 3, 4, 3, 1, 357), (11, .ireturn, 1, 0, 0, 0, 0)]], [], 1, 1)
def qc_X10_indexLine : qCd := ([[(0, .iload_n 1, 1, 0, 0, 0, 0), (1, .ifCond .ge 13, 3, 14, 0, 0, 0), (4, .new 87, 3, 1, 0, 0, 0), (14, .aload_n 0, 1, 0, 0, 0, 0), (15, .invokevirtual 188, 3, 138, 1, 100, 1375)],
  [(18, .iload_n 1, 1, 0, 0, 0, 0), (19, .aload_n 0, 1, 0, 0, 0, 0), (20, .getfield 43, 3, 10, 5, 0, 531), (23, .getfield 297, 3, 4, 3, 1, 357), (26, .if_icmp .lt 5, 3, 31, 0, 0, 0), (29, .iconst (-1), 1, 0, 0, 0, 0), (30, .ireturn, 1, 0, 0, 0, 0), (31, .bipush 10, 2, 0, 0, 0, 0)],
  [(33, .aload_n 0, 1, 0, 0, 0, 0), (34, .getfield 57, 3, 10, 8, 0, 534), (37, .getfield 179, 3, 3, 4, 1, 451), (40, .iconst 1, 1, 0, 0, 0, 0), (41, .iadd, 1, 0, 0, 0, 0), (42, .aload_n 0, 1, 0, 0, 0, 0), (43, .getfield 43, 3, 10, 5, 0, 531), (46, .iload_n 1, 1, 0, 0, 0, 0), (47, .invokevirtual 298, 3, 41, 2, 41, 1590)],
  [(50, .iadd, 1, 0, 0, 0, 0), (51, .imul, 1, 0, 0, 0, 0), (52, .aload_n 0, 1, 0, 0, 0, 0), (53, .getfield 43, 3, 10, 5, 0, 531), (56, .iload_n 1, 1, 0, 0, 0, 0), (57, .invokevirtual 299, 3, 42, 2, 41, 1594), (60, .iadd, 1, 0, 0, 0, 0), (61, .ireturn, 1, 0, 0, 0, 0)]], [], 1, 2)
def qc_X10_sheets : qCd := ([[(0, .aload_n 0, 1, 0, 0, 0, 0), (1, .invokevirtual 188, 3, 138, 1, 100, 1375), (4, .aload_n 0, 1, 0, 0, 0, 0), (5, .getfield 57, 3, 10, 8, 0, 534), (8, .getfield 185, 3, 3, 5, 1, 453), (11, .invokestatic 302, 3, 144, 1, 102, 1606), (14, .ireturn, 1, 0, 0, 0, 0)]], [], 1, 1)
def qc_X10_untouched : qCd := ([[(0, .aload_n 0, 1, 0, 0, 0, 0), (1, .invokevirtual 188, 3, 138, 1, 100, 1375), (4, .aload_n 0, 1, 0, 0, 0, 0), (5, .getfield 60, 3, 10, 9, 0, 535), (8, .ifnonnull 5, 3, 13, 0, 0, 0), (11, .iconst 0, 1, 0, 0, 0, 0), (12, .ireturn, 1, 0, 0, 0, 0), (13, .aload_n 0, 1, 0, 0, 0, 0), (14, .getfield 57, 3, 10, 8, 0, 534)],
  [(17, .getfield 185, 3, 3, 5, 1, 453), (20, .aload_n 0, 1, 0, 0, 0, 0), (21, .getfield 60, 3, 10, 9, 0, 535), (24, .getfield 185, 3, 3, 5, 1, 453), (27, .invokestatic 305, 3, 264, 2, 2, 1616), (30, .invokestatic 302, 3, 144, 1, 102, 1606)],
  [(33, .istore_n 1, 1, 0, 0, 0, 0), (34, .iconst 0, 1, 0, 0, 0, 0), (35, .istore_n 2, 1, 0, 0, 0, 0), (36, .iconst 0, 1, 0, 0, 0, 0), (37, .istore_n 3, 1, 0, 0, 0, 0), (38, .iload_n 3, 1, 0, 0, 0, 0), (39, .iload_n 1, 1, 0, 0, 0, 0), (40, .if_icmp .ge 20, 3, 60, 0, 0, 0), (43, .aload_n 0, 1, 0, 0, 0, 0), (44, .iload_n 3, 1, 0, 0, 0, 0), (45, .invokevirtual 310, 3, 143, 2, 100, 1617)],
  [(48, .ifCond .eq 6, 3, 54, 0, 0, 0), (51, .iinc 2 1, 3, 0, 0, 0, 0), (54, .iinc 3 1, 3, 0, 0, 0, 0), (57, .goto (-19), 3, 38, 0, 0, 0), (60, .iload_n 2, 1, 0, 0, 0, 0), (61, .ireturn, 1, 0, 0, 0, 0)]], [], 1, 4)
def qc_X10_checkChapter : qCd := ([[(0, .iload_n 1, 1, 0, 0, 0, 0), (1, .ifCond .lt 8, 3, 9, 0, 0, 0), (4, .iload_n 1, 1, 0, 0, 0, 0), (5, .iconst 3, 1, 0, 0, 0, 0), (6, .if_icmp .lt 14, 3, 20, 0, 0, 0), (9, .new 206, 3, 1, 2, 1, 0)],
  [(20, .return_, 1, 0, 0, 0, 0)]], [], 0, 2)
def qc_X10_checkedItem : qCd := ([[(0, .aload_n 0, 1, 0, 0, 0, 0), (1, .iload_n 1, 1, 0, 0, 0, 0), (2, .invokevirtual 113, 3, 133, 2, 100, 716), (5, .iload_n 2, 1, 0, 0, 0, 0), (6, .ifCond .lt 16, 3, 22, 0, 0, 0), (9, .iload_n 2, 1, 0, 0, 0, 0), (10, .aload_n 0, 1, 0, 0, 0, 0), (11, .getfield 11, 3, 10, 0, 0, 526), (14, .iload_n 1, 1, 0, 0, 0, 0), (15, .aaload, 1, 0, 0, 0, 0)],
  [(16, .getfield 117, 3, 1, 1, 1, 517), (19, .if_icmp .lt 14, 3, 33, 0, 0, 0), (22, .new 206, 3, 1, 2, 1, 0)],
  [(33, .aload_n 0, 1, 0, 0, 0, 0), (34, .getfield 11, 3, 10, 0, 0, 526), (37, .iload_n 1, 1, 0, 0, 0, 0), (38, .aaload, 1, 0, 0, 0, 0), (39, .getfield 195, 3, 1, 0, 1, 511), (42, .iload_n 2, 1, 0, 0, 0, 0), (43, .aaload, 1, 0, 0, 0, 0), (44, .areturn, 1, 0, 0, 0, 0)]], [], 3, 3)
def qc_X10_checkWord : qCd := ([[(0, .aload_n 0, 1, 0, 0, 0, 0), (1, .iload_n 1, 1, 0, 0, 0, 0), (2, .iload_n 2, 1, 0, 0, 0, 0), (3, .invokevirtual 141, 3, 134, 3, 100, 796), (6, .astore 4, 2, 0, 0, 0, 0), (8, .iload_n 3, 1, 0, 0, 0, 0), (9, .ifCond .lt 12, 3, 21, 0, 0, 0), (12, .iload_n 3, 1, 0, 0, 0, 0), (13, .aload 4, 2, 0, 0, 0, 0), (15, .getfield 110, 3, 5, 2, 1, 60)],
  [(18, .if_icmp .lt 13, 3, 31, 0, 0, 0), (21, .new 206, 3, 1, 2, 0, 0), (31, .return_, 1, 0, 0, 0, 0)]], [], 0, 5)
def qc_X10_checkTerm : qCd := ([[(0, .iload_n 1, 1, 0, 0, 0, 0), (1, .invokestatic 104, 3, 145, 1, 102, 672), (4, .ifCond .ne 14, 3, 18, 0, 0, 0), (7, .new 206, 3, 1, 2, 1, 0)],
  [(18, .return_, 1, 0, 0, 0, 0)]], [], 0, 2)
def qc_X10_checkPage : qCd := ([[(0, .iload_n 1, 1, 0, 0, 0, 0), (1, .iconst 1, 1, 0, 0, 0, 0), (2, .if_icmp .lt 21, 3, 23, 0, 0, 0), (5, .aload_n 0, 1, 0, 0, 0, 0), (6, .getfield 74, 3, 10, 13, 0, 539), (9, .ifCond .eq 25, 3, 34, 0, 0, 0), (12, .iload_n 1, 1, 0, 0, 0, 0), (13, .aload_n 0, 1, 0, 0, 0, 0), (14, .getfield 57, 3, 10, 8, 0, 534)],
  [(17, .getfield 185, 3, 3, 5, 1, 453), (20, .if_icmp .le 14, 3, 34, 0, 0, 0), (23, .new 206, 3, 1, 2, 1, 0)],
  [(34, .return_, 1, 0, 0, 0, 0)]], [], 0, 2)
def qc_X10_checkMade : qCd := ([[(0, .aload_n 0, 1, 0, 0, 0, 0), (1, .getfield 74, 3, 10, 13, 0, 539), (4, .ifCond .ne 14, 3, 18, 0, 0, 0), (7, .new 121, 3, 1, 1, 1, 0)],
  [(18, .return_, 1, 0, 0, 0, 0)]], [], 0, 1)
def qc_X10_draftWord : qCd := ([[(0, .aload_n 0, 1, 0, 0, 0, 0), (1, .getfield 18, 3, 10, 1, 0, 527), (4, .getfield 110, 3, 5, 2, 1, 60), (7, .bipush 20, 2, 0, 0, 0, 0), (9, .if_icmp .lt 14, 3, 23, 0, 0, 0), (12, .new 121, 3, 1, 1, 1, 0)],
  [(23, .aload_n 0, 1, 0, 0, 0, 0), (24, .getfield 18, 3, 10, 1, 0, 527), (27, .iload_n 1, 1, 0, 0, 0, 0), (28, .iload_n 2, 1, 0, 0, 0, 0), (29, .iload_n 3, 1, 0, 0, 0, 0), (30, .invokevirtual 325, 3, 44, 4, 51, 696)],
  [(33, .aload_n 0, 1, 0, 0, 0, 0), (34, .getfield 18, 3, 10, 1, 0, 527), (37, .getfield 110, 3, 5, 2, 1, 60), (40, .ireturn, 1, 0, 0, 0, 0)]], [], 1, 4)
def qc_X10_addItem : qCd := ([[(0, .aload_n 1, 1, 0, 0, 0, 0), (1, .getfield 195, 3, 1, 0, 1, 511), (4, .aload_n 1, 1, 0, 0, 0, 0), (5, .getfield 117, 3, 1, 1, 1, 517), (8, .aaload, 1, 0, 0, 0, 0), (9, .astore_n 2, 1, 0, 0, 0, 0), (10, .aload_n 1, 1, 0, 0, 0, 0), (11, .dup, 1, 0, 0, 0, 0), (12, .getfield 117, 3, 1, 1, 1, 517), (15, .iconst 1, 1, 0, 0, 0, 0)],
  [(16, .iadd, 1, 0, 0, 0, 0), (17, .putfield 117, 3, 1, 1, 1, 517), (20, .aload_n 0, 1, 0, 0, 0, 0), (21, .dup, 1, 0, 0, 0, 0), (22, .getfield 77, 3, 10, 14, 0, 540), (25, .iconst 1, 1, 0, 0, 0, 0), (26, .iadd, 1, 0, 0, 0, 0), (27, .putfield 77, 3, 10, 14, 0, 540), (30, .aload_n 2, 1, 0, 0, 0, 0), (31, .aload_n 0, 1, 0, 0, 0, 0)],
  [(32, .getfield 77, 3, 10, 14, 0, 540), (35, .putfield 150, 3, 5, 3, 1, 63), (38, .aload_n 0, 1, 0, 0, 0, 0), (39, .iconst 0, 1, 0, 0, 0, 0), (40, .putfield 74, 3, 10, 13, 0, 539), (43, .aload_n 2, 1, 0, 0, 0, 0), (44, .areturn, 1, 0, 0, 0, 0)]], [], 3, 3)
def qc_X10_isDraftFit : qCd := ([[(0, .aload_n 0, 1, 0, 0, 0, 0), (1, .getfield 11, 3, 10, 0, 0, 526), (4, .iload_n 1, 1, 0, 0, 0, 0), (5, .aaload, 1, 0, 0, 0, 0), (6, .astore_n 3, 1, 0, 0, 0, 0), (7, .aload_n 0, 1, 0, 0, 0, 0), (8, .getfield 18, 3, 10, 1, 0, 527), (11, .getfield 110, 3, 5, 2, 1, 60), (14, .ifCond .le 73, 3, 87, 0, 0, 0)],
  [(17, .aload_n 3, 1, 0, 0, 0, 0), (18, .iload_n 2, 1, 0, 0, 0, 0), (19, .invokevirtual 328, 3, 6, 2, 11, 740), (22, .aload_n 0, 1, 0, 0, 0, 0), (23, .getfield 18, 3, 10, 1, 0, 527), (26, .getfield 110, 3, 5, 2, 1, 60), (29, .iadd, 1, 0, 0, 0, 0), (30, .bipush 60, 2, 0, 0, 0, 0)],
  [(32, .if_icmp .gt 55, 3, 87, 0, 0, 0), (35, .aload_n 3, 1, 0, 0, 0, 0), (36, .iconst 2, 1, 0, 0, 0, 0), (37, .iload_n 2, 1, 0, 0, 0, 0), (38, .invokevirtual 331, 3, 7, 3, 11, 744), (41, .aload_n 0, 1, 0, 0, 0, 0), (42, .getfield 18, 3, 10, 1, 0, 527), (45, .iconst 2, 1, 0, 0, 0, 0), (46, .invokevirtual 334, 3, 48, 2, 51, 752)],
  [(49, .iadd, 1, 0, 0, 0, 0), (50, .bipush 12, 2, 0, 0, 0, 0), (52, .if_icmp .gt 35, 3, 87, 0, 0, 0), (55, .aload_n 3, 1, 0, 0, 0, 0), (56, .iconst 3, 1, 0, 0, 0, 0), (57, .iload_n 2, 1, 0, 0, 0, 0), (58, .invokevirtual 331, 3, 7, 3, 11, 744), (61, .aload_n 0, 1, 0, 0, 0, 0), (62, .getfield 18, 3, 10, 1, 0, 527)],
  [(65, .iconst 3, 1, 0, 0, 0, 0), (66, .invokevirtual 334, 3, 48, 2, 51, 752), (69, .iadd, 1, 0, 0, 0, 0), (70, .iconst 4, 1, 0, 0, 0, 0), (71, .if_icmp .gt 16, 3, 87, 0, 0, 0), (74, .aload_n 0, 1, 0, 0, 0, 0), (75, .iload_n 1, 1, 0, 0, 0, 0), (76, .iload_n 2, 1, 0, 0, 0, 0), (77, .invokevirtual 337, 3, 142, 3, 100, 753)],
  [(80, .ifCond .ne 7, 3, 87, 0, 0, 0), (83, .iconst 1, 1, 0, 0, 0, 0), (84, .goto 4, 3, 88, 0, 0, 0), (87, .iconst 0, 1, 0, 0, 0, 0), (88, .ireturn, 1, 0, 0, 0, 0)]], [], 2, 4)
def qc_X10_hasLabelTwice : qCd := ([[(0, .iconst 0, 1, 0, 0, 0, 0), (1, .istore_n 3, 1, 0, 0, 0, 0), (2, .iconst 0, 1, 0, 0, 0, 0), (3, .istore 4, 2, 0, 0, 0, 0), (5, .iload 4, 2, 0, 0, 0, 0), (7, .iconst 3, 1, 0, 0, 0, 0), (8, .if_icmp .ge 33, 3, 41, 0, 0, 0), (11, .iload_n 3, 1, 0, 0, 0, 0), (12, .aload_n 0, 1, 0, 0, 0, 0), (13, .getfield 11, 3, 10, 0, 0, 526)],
  [(16, .iload 4, 2, 0, 0, 0, 0), (18, .aaload, 1, 0, 0, 0, 0), (19, .iload 4, 2, 0, 0, 0, 0), (21, .iload_n 1, 1, 0, 0, 0, 0), (22, .if_icmp .ne 7, 3, 29, 0, 0, 0), (25, .iload_n 2, 1, 0, 0, 0, 0), (26, .goto 4, 3, 30, 0, 0, 0), (29, .iconst (-1), 1, 0, 0, 0, 0), (30, .invokevirtual 340, 3, 8, 2, 11, 757)],
  [(33, .ior, 1, 0, 0, 0, 0), (34, .istore_n 3, 1, 0, 0, 0, 0), (35, .iinc 4 1, 3, 0, 0, 0, 0), (38, .goto (-33), 3, 5, 0, 0, 0), (41, .iconst 0, 1, 0, 0, 0, 0), (42, .istore 4, 2, 0, 0, 0, 0), (44, .iload 4, 2, 0, 0, 0, 0), (46, .aload_n 0, 1, 0, 0, 0, 0), (47, .getfield 18, 3, 10, 1, 0, 527)],
  [(50, .getfield 110, 3, 5, 2, 1, 60), (53, .if_icmp .ge 51, 3, 104, 0, 0, 0), (56, .aload_n 0, 1, 0, 0, 0, 0), (57, .getfield 18, 3, 10, 1, 0, 527), (60, .getfield 343, 3, 5, 5, 1, 70), (63, .iload 4, 2, 0, 0, 0, 0)],
  [(65, .iaload, 1, 0, 0, 0, 0), (66, .iconst 1, 1, 0, 0, 0, 0), (67, .if_icmp .ne 31, 3, 98, 0, 0, 0), (70, .iconst 1, 1, 0, 0, 0, 0), (71, .aload_n 0, 1, 0, 0, 0, 0), (72, .getfield 18, 3, 10, 1, 0, 527), (75, .getfield 346, 3, 5, 6, 1, 76), (78, .iload 4, 2, 0, 0, 0, 0)],
  [(80, .iaload, 1, 0, 0, 0, 0), (81, .ishl, 1, 0, 0, 0, 0), (82, .istore 5, 2, 0, 0, 0, 0), (84, .iload_n 3, 1, 0, 0, 0, 0), (85, .iload 5, 2, 0, 0, 0, 0), (87, .iand, 1, 0, 0, 0, 0), (88, .ifCond .eq 5, 3, 93, 0, 0, 0), (91, .iconst 1, 1, 0, 0, 0, 0), (92, .ireturn, 1, 0, 0, 0, 0), (93, .iload_n 3, 1, 0, 0, 0, 0), (94, .iload 5, 2, 0, 0, 0, 0)],
  [(96, .ior, 1, 0, 0, 0, 0), (97, .istore_n 3, 1, 0, 0, 0, 0), (98, .iinc 4 1, 3, 0, 0, 0, 0), (101, .goto (-57), 3, 44, 0, 0, 0), (104, .iconst 0, 1, 0, 0, 0, 0), (105, .ireturn, 1, 0, 0, 0, 0)]], [], 2, 6)
def qc_X10_isUntouched : qCd := ([[(0, .iconst 4, 1, 0, 0, 0, 0), (1, .iload_n 1, 1, 0, 0, 0, 0), (2, .imul, 1, 0, 0, 0, 0), (3, .iconst 1, 1, 0, 0, 0, 0), (4, .iadd, 1, 0, 0, 0, 0), (5, .istore_n 2, 1, 0, 0, 0, 0), (6, .iload_n 2, 1, 0, 0, 0, 0), (7, .iconst 4, 1, 0, 0, 0, 0), (8, .iload_n 1, 1, 0, 0, 0, 0), (9, .imul, 1, 0, 0, 0, 0), (10, .iconst 4, 1, 0, 0, 0, 0), (11, .iadd, 1, 0, 0, 0, 0), (12, .if_icmp .gt 71, 3, 83, 0, 0, 0), (15, .iload_n 2, 1, 0, 0, 0, 0)],
  [(16, .aload_n 0, 1, 0, 0, 0, 0), (17, .getfield 57, 3, 10, 8, 0, 534), (20, .getfield 185, 3, 3, 5, 1, 453), (23, .if_icmp .gt 7, 3, 30, 0, 0, 0), (26, .iconst 1, 1, 0, 0, 0, 0), (27, .goto 4, 3, 31, 0, 0, 0), (30, .iconst 0, 1, 0, 0, 0, 0), (31, .istore_n 3, 1, 0, 0, 0, 0)],
  [(32, .iload_n 2, 1, 0, 0, 0, 0), (33, .aload_n 0, 1, 0, 0, 0, 0), (34, .getfield 60, 3, 10, 9, 0, 535), (37, .getfield 185, 3, 3, 5, 1, 453), (40, .if_icmp .gt 7, 3, 47, 0, 0, 0), (43, .iconst 1, 1, 0, 0, 0, 0), (44, .goto 4, 3, 48, 0, 0, 0), (47, .iconst 0, 1, 0, 0, 0, 0)],
  [(48, .istore 4, 2, 0, 0, 0, 0), (50, .iload_n 3, 1, 0, 0, 0, 0), (51, .iload 4, 2, 0, 0, 0, 0), (53, .if_icmp .ne 22, 3, 75, 0, 0, 0), (56, .iload_n 3, 1, 0, 0, 0, 0), (57, .ifCond .eq 20, 3, 77, 0, 0, 0), (60, .aload_n 0, 1, 0, 0, 0, 0), (61, .getfield 57, 3, 10, 8, 0, 534)],
  [(64, .aload_n 0, 1, 0, 0, 0, 0), (65, .getfield 60, 3, 10, 9, 0, 535), (68, .iload_n 2, 1, 0, 0, 0, 0), (69, .invokevirtual 349, 3, 31, 3, 31, 1621), (72, .ifCond .ne 5, 3, 77, 0, 0, 0), (75, .iconst 0, 1, 0, 0, 0, 0), (76, .ireturn, 1, 0, 0, 0, 0), (77, .iinc 2 1, 3, 0, 0, 0, 0)],
  [(80, .goto (-74), 3, 6, 0, 0, 0), (83, .iconst 1, 1, 0, 0, 0, 0), (84, .ireturn, 1, 0, 0, 0, 0)]], [], 2, 5)
def qc_X10_sheetsFor : qCd := ([[(0, .iload_n 0, 1, 0, 0, 0, 0), (1, .iconst 3, 1, 0, 0, 0, 0), (2, .iadd, 1, 0, 0, 0, 0), (3, .iconst 4, 1, 0, 0, 0, 0), (4, .idiv, 1, 0, 0, 0, 0), (5, .ireturn, 1, 0, 0, 0, 0)]], [], 1, 1)
def qc_X10_isName : qCd := ([[(0, .iload_n 0, 1, 0, 0, 0, 0), (1, .ifCond .lt 13, 3, 14, 0, 0, 0), (4, .iload_n 0, 1, 0, 0, 0, 0), (5, .bipush 10, 2, 0, 0, 0, 0), (7, .if_icmp .ge 7, 3, 14, 0, 0, 0), (10, .iconst 1, 1, 0, 0, 0, 0), (11, .goto 4, 3, 15, 0, 0, 0), (14, .iconst 0, 1, 0, 0, 0, 0), (15, .ireturn, 1, 0, 0, 0, 0)]], [], 2, 1)
def qc_X10_isValue : qCd := ([[(0, .iload_n 0, 1, 0, 0, 0, 0), (1, .tableswitch 102 0 5 #[39, 49, 54, 70, 49, 86], 39, 0, 0, 0, 0)],
  [],
  [(40, .iload_n 1, 1, 0, 0, 0, 0), (41, .ifCond .ne 7, 3, 48, 0, 0, 0), (44, .iconst 1, 1, 0, 0, 0, 0), (45, .goto 4, 3, 49, 0, 0, 0)],
  [(48, .iconst 0, 1, 0, 0, 0, 0), (49, .ireturn, 1, 0, 0, 0, 0), (50, .iload_n 1, 1, 0, 0, 0, 0), (51, .invokestatic 104, 3, 145, 1, 102, 672), (54, .ireturn, 1, 0, 0, 0, 0), (55, .iload_n 1, 1, 0, 0, 0, 0), (56, .iconst 1, 1, 0, 0, 0, 0), (57, .if_icmp .lt 12, 3, 69, 0, 0, 0), (60, .iload_n 1, 1, 0, 0, 0, 0), (61, .iconst 4, 1, 0, 0, 0, 0), (62, .if_icmp .gt 7, 3, 69, 0, 0, 0)],
  [(65, .iconst 1, 1, 0, 0, 0, 0), (66, .goto 4, 3, 70, 0, 0, 0), (69, .iconst 0, 1, 0, 0, 0, 0), (70, .ireturn, 1, 0, 0, 0, 0), (71, .iload_n 1, 1, 0, 0, 0, 0), (72, .iconst 2, 1, 0, 0, 0, 0), (73, .if_icmp .lt 12, 3, 85, 0, 0, 0), (76, .iload_n 1, 1, 0, 0, 0, 0), (77, .iconst 5, 1, 0, 0, 0, 0), (78, .if_icmp .gt 7, 3, 85, 0, 0, 0)],
  [(81, .iconst 1, 1, 0, 0, 0, 0), (82, .goto 4, 3, 86, 0, 0, 0), (85, .iconst 0, 1, 0, 0, 0, 0), (86, .ireturn, 1, 0, 0, 0, 0), (87, .iload_n 1, 1, 0, 0, 0, 0), (88, .iconst 1, 1, 0, 0, 0, 0), (89, .if_icmp .lt 12, 3, 101, 0, 0, 0), (92, .iload_n 1, 1, 0, 0, 0, 0), (93, .iconst 3, 1, 0, 0, 0, 0), (94, .if_icmp .gt 7, 3, 101, 0, 0, 0)],
  [(97, .iconst 1, 1, 0, 0, 0, 0), (98, .goto 4, 3, 102, 0, 0, 0), (101, .iconst 0, 1, 0, 0, 0, 0), (102, .ireturn, 1, 0, 0, 0, 0), (103, .iconst 0, 1, 0, 0, 0, 0), (104, .ireturn, 1, 0, 0, 0, 0)]], [], 2, 2)
def qc_X10_wordId : qCd := ([[(0, .iload_n 0, 1, 0, 0, 0, 0), (1, .bipush 10, 2, 0, 0, 0, 0), (3, .imul, 1, 0, 0, 0, 0), (4, .iload_n 1, 1, 0, 0, 0, 0), (5, .iadd, 1, 0, 0, 0, 0), (6, .bipush 20, 2, 0, 0, 0, 0), (8, .imul, 1, 0, 0, 0, 0), (9, .iload_n 2, 1, 0, 0, 0, 0), (10, .iadd, 1, 0, 0, 0, 0), (11, .ireturn, 1, 0, 0, 0, 0)]], [], 1, 3)
def qc_X10_digitsOf : qCd := ([[(0, .iload_n 0, 1, 0, 0, 0, 0), (1, .bipush 10, 2, 0, 0, 0, 0), (3, .if_icmp .ge 5, 3, 8, 0, 0, 0), (6, .iconst 1, 1, 0, 0, 0, 0), (7, .ireturn, 1, 0, 0, 0, 0), (8, .iload_n 0, 1, 0, 0, 0, 0), (9, .bipush 100, 2, 0, 0, 0, 0), (11, .if_icmp .ge 7, 3, 18, 0, 0, 0), (14, .iconst 2, 1, 0, 0, 0, 0), (15, .goto 4, 3, 19, 0, 0, 0)],
  [(18, .iconst 3, 1, 0, 0, 0, 0), (19, .ireturn, 1, 0, 0, 0, 0)]], [], 1, 1)
def qc_X10_widthOfText : qCd := ([[(0, .iload_n 0, 1, 0, 0, 0, 0), (1, .tableswitch 34 0 2 #[27, 29, 31], 27, 0, 0, 0, 0)],
  [(28, .iconst 2, 1, 0, 0, 0, 0), (29, .ireturn, 1, 0, 0, 0, 0), (30, .iconst 5, 1, 0, 0, 0, 0), (31, .ireturn, 1, 0, 0, 0, 0)],
  [(32, .bipush 8, 2, 0, 0, 0, 0), (34, .ireturn, 1, 0, 0, 0, 0), (35, .iconst 5, 1, 0, 0, 0, 0), (36, .iload_n 0, 1, 0, 0, 0, 0), (37, .bipush 10, 2, 0, 0, 0, 0), (39, .isub, 1, 0, 0, 0, 0), (40, .invokestatic 353, 3, 148, 1, 102, 852), (43, .iadd, 1, 0, 0, 0, 0), (44, .ireturn, 1, 0, 0, 0, 0)]], [], 1, 1)
def ql_X11_init_0 : List (List qI) := [[(0, .aload_n 0, 1, 0, 0, 0, 0), (1, .invokespecial 1, 3, 0, 1, 6, 1655), (4, .aload_n 0, 1, 0, 0, 0, 0), (5, .bipush 16, 2, 0, 0, 0, 0), (7, .putfield 7, 3, 11, 1, 0, 1657), (10, .aload_n 0, 1, 0, 0, 0, 0), (11, .bipush 10, 2, 0, 0, 0, 0), (13, .putfield 13, 3, 11, 2, 0, 1658)],
  [(16, .aload_n 0, 1, 0, 0, 0, 0), (17, .iconst 3, 1, 0, 0, 0, 0), (18, .newarray .int, 2, 0, 64, 0, 0), (20, .putfield 16, 3, 11, 4, 0, 1660), (23, .aload_n 0, 1, 0, 0, 0, 0), (24, .bipush 30, 2, 0, 0, 0, 0), (26, .newarray .boolean, 2, 0, 65, 0, 0), (28, .putfield 20, 3, 11, 5, 0, 1661), (31, .aload_n 0, 1, 0, 0, 0, 0)],
  [(32, .bipush 30, 2, 0, 0, 0, 0), (34, .newarray .int, 2, 0, 66, 0, 0), (36, .putfield 24, 3, 11, 6, 0, 1662), (39, .aload_n 0, 1, 0, 0, 0, 0), (40, .bipush 30, 2, 0, 0, 0, 0), (42, .newarray .int, 2, 0, 67, 0, 0), (44, .putfield 27, 3, 11, 7, 0, 1663), (47, .aload_n 0, 1, 0, 0, 0, 0)],
  [(48, .bipush 30, 2, 0, 0, 0, 0), (50, .newarray .int, 2, 0, 68, 0, 0), (52, .putfield 30, 3, 11, 8, 0, 1664), (55, .aload_n 0, 1, 0, 0, 0, 0), (56, .sipush 600, 3, 0, 0, 0, 0), (59, .newarray .int, 2, 0, 69, 0, 0), (61, .putfield 33, 3, 11, 9, 0, 1665)],
  [(64, .aload_n 0, 1, 0, 0, 0, 0), (65, .sipush 600, 3, 0, 0, 0, 0), (68, .newarray .int, 2, 0, 70, 0, 0), (70, .putfield 36, 3, 11, 10, 0, 1666), (73, .aload_n 0, 1, 0, 0, 0, 0), (74, .sipush 600, 3, 0, 0, 0, 0), (77, .newarray .int, 2, 0, 71, 0, 0), (79, .putfield 39, 3, 11, 11, 0, 1667)],
  [(82, .aload_n 0, 1, 0, 0, 0, 0), (83, .bipush 20, 2, 0, 0, 0, 0), (85, .newarray .int, 2, 0, 72, 0, 0), (87, .putfield 42, 3, 11, 13, 0, 1669), (90, .aload_n 0, 1, 0, 0, 0, 0), (91, .bipush 20, 2, 0, 0, 0, 0), (93, .newarray .int, 2, 0, 73, 0, 0), (95, .putfield 45, 3, 11, 14, 0, 1670)],
  [(98, .aload_n 0, 1, 0, 0, 0, 0), (99, .bipush 20, 2, 0, 0, 0, 0), (101, .newarray .int, 2, 0, 74, 0, 0), (103, .putfield 48, 3, 11, 15, 0, 1671), (106, .aload_n 0, 1, 0, 0, 0, 0), (107, .bipush 10, 2, 0, 0, 0, 0), (109, .newarray .int, 2, 0, 75, 0, 0), (111, .dup, 1, 0, 0, 0, 0)],
  [(112, .iconst 0, 1, 0, 0, 0, 0), (113, .iconst (-1), 1, 0, 0, 0, 0), (114, .iastore, 1, 0, 0, 0, 0), (115, .dup, 1, 0, 0, 0, 0), (116, .iconst 1, 1, 0, 0, 0, 0), (117, .iconst (-1), 1, 0, 0, 0, 0), (118, .iastore, 1, 0, 0, 0, 0), (119, .dup, 1, 0, 0, 0, 0), (120, .iconst 2, 1, 0, 0, 0, 0), (121, .iconst (-1), 1, 0, 0, 0, 0), (122, .iastore, 1, 0, 0, 0, 0), (123, .dup, 1, 0, 0, 0, 0), (124, .iconst 3, 1, 0, 0, 0, 0), (125, .iconst (-1), 1, 0, 0, 0, 0), (126, .iastore, 1, 0, 0, 0, 0), (127, .dup, 1, 0, 0, 0, 0)],
  [(128, .iconst 4, 1, 0, 0, 0, 0), (129, .iconst (-1), 1, 0, 0, 0, 0), (130, .iastore, 1, 0, 0, 0, 0), (131, .dup, 1, 0, 0, 0, 0), (132, .iconst 5, 1, 0, 0, 0, 0), (133, .iconst (-1), 1, 0, 0, 0, 0), (134, .iastore, 1, 0, 0, 0, 0), (135, .dup, 1, 0, 0, 0, 0), (136, .bipush 6, 2, 0, 0, 0, 0), (138, .iconst (-1), 1, 0, 0, 0, 0), (139, .iastore, 1, 0, 0, 0, 0), (140, .dup, 1, 0, 0, 0, 0), (141, .bipush 7, 2, 0, 0, 0, 0), (143, .iconst (-1), 1, 0, 0, 0, 0)],
  [(144, .iastore, 1, 0, 0, 0, 0), (145, .dup, 1, 0, 0, 0, 0), (146, .bipush 8, 2, 0, 0, 0, 0), (148, .iconst (-1), 1, 0, 0, 0, 0), (149, .iastore, 1, 0, 0, 0, 0), (150, .dup, 1, 0, 0, 0, 0), (151, .bipush 9, 2, 0, 0, 0, 0), (153, .iconst (-1), 1, 0, 0, 0, 0), (154, .iastore, 1, 0, 0, 0, 0), (155, .putfield 51, 3, 11, 16, 0, 1672), (158, .aload_n 0, 1, 0, 0, 0, 0), (159, .sipush 600, 3, 0, 0, 0, 0)],
  [(162, .newarray .int, 2, 0, 76, 0, 0), (164, .putfield 54, 3, 11, 17, 0, 1673), (167, .aload_n 0, 1, 0, 0, 0, 0), (168, .sipush 600, 3, 0, 0, 0, 0), (171, .newarray .int, 2, 0, 77, 0, 0), (173, .putfield 57, 3, 11, 18, 0, 1674)],
  [(176, .aload_n 0, 1, 0, 0, 0, 0), (177, .sipush 7200, 3, 0, 0, 0, 0), (180, .newarray .int, 2, 0, 78, 0, 0), (182, .putfield 60, 3, 11, 19, 0, 1675), (185, .aload_n 0, 1, 0, 0, 0, 0), (186, .bipush 30, 2, 0, 0, 0, 0), (188, .newarray .int, 2, 0, 79, 0, 0), (190, .putfield 63, 3, 11, 24, 0, 1680)],
  [(193, .aload_n 0, 1, 0, 0, 0, 0), (194, .sipush 600, 3, 0, 0, 0, 0), (197, .newarray .int, 2, 0, 80, 0, 0), (199, .putfield 66, 3, 11, 25, 0, 1681), (202, .aload_n 0, 1, 0, 0, 0, 0), (203, .bipush 30, 2, 0, 0, 0, 0), (205, .newarray .int, 2, 0, 81, 0, 0), (207, .putfield 69, 3, 11, 26, 0, 1682)],
  [(210, .aload_n 0, 1, 0, 0, 0, 0), (211, .sipush 600, 3, 0, 0, 0, 0), (214, .newarray .int, 2, 0, 82, 0, 0), (216, .putfield 72, 3, 11, 27, 0, 1683), (219, .aload_n 0, 1, 0, 0, 0, 0), (220, .bipush 30, 2, 0, 0, 0, 0), (222, .newarray .int, 2, 0, 83, 0, 0)],
  [(224, .putfield 75, 3, 11, 28, 0, 1684), (227, .aload_n 0, 1, 0, 0, 0, 0), (228, .bipush 21, 2, 0, 0, 0, 0), (230, .newarray .int, 2, 0, 84, 0, 0), (232, .putfield 78, 3, 11, 29, 0, 1685), (235, .aload_n 0, 1, 0, 0, 0, 0), (236, .bipush 21, 2, 0, 0, 0, 0), (238, .newarray .int, 2, 0, 85, 0, 0)],
  [(240, .putfield 81, 3, 11, 30, 0, 1686), (243, .aload_n 0, 1, 0, 0, 0, 0), (244, .bipush 21, 2, 0, 0, 0, 0), (246, .newarray .int, 2, 0, 86, 0, 0), (248, .putfield 84, 3, 11, 31, 0, 1687), (251, .aload_n 0, 1, 0, 0, 0, 0), (252, .iconst 3, 1, 0, 0, 0, 0), (253, .newarray .int, 2, 0, 87, 0, 0), (255, .putfield 87, 3, 11, 32, 0, 1688)],
  [(258, .aload_n 0, 1, 0, 0, 0, 0), (259, .sipush 210, 3, 0, 0, 0, 0), (262, .newarray .int, 2, 0, 88, 0, 0), (264, .putfield 90, 3, 11, 33, 0, 1689), (267, .aload_n 0, 1, 0, 0, 0, 0), (268, .sipush 210, 3, 0, 0, 0, 0), (271, .newarray .int, 2, 0, 89, 0, 0)],
  [(273, .putfield 93, 3, 11, 34, 0, 1690), (276, .aload_n 0, 1, 0, 0, 0, 0), (277, .sipush 210, 3, 0, 0, 0, 0), (280, .newarray .int, 2, 0, 90, 0, 0), (282, .putfield 96, 3, 11, 35, 0, 1691), (285, .aload_n 0, 1, 0, 0, 0, 0), (286, .sipush 210, 3, 0, 0, 0, 0)],
  [(289, .newarray .int, 2, 0, 91, 0, 0), (291, .putfield 99, 3, 11, 36, 0, 1692), (294, .aload_n 0, 1, 0, 0, 0, 0), (295, .sipush 210, 3, 0, 0, 0, 0), (298, .newarray .int, 2, 0, 92, 0, 0), (300, .putfield 102, 3, 11, 37, 0, 1693), (303, .aload_n 0, 1, 0, 0, 0, 0)],
  [(304, .sipush 600, 3, 0, 0, 0, 0), (307, .newarray .int, 2, 0, 93, 0, 0), (309, .putfield 105, 3, 11, 38, 0, 1694), (312, .aload_n 0, 1, 0, 0, 0, 0), (313, .iconst 3, 1, 0, 0, 0, 0), (314, .newarray .int, 2, 0, 94, 0, 0), (316, .putfield 108, 3, 11, 39, 0, 1695), (319, .aload_n 0, 1, 0, 0, 0, 0)]]
def ql_X11_init_1 : List (List qI) := [[(320, .bipush 12, 2, 0, 0, 0, 0), (322, .newarray .int, 2, 0, 95, 0, 0), (324, .putfield 111, 3, 11, 40, 0, 1696), (327, .aload_n 0, 1, 0, 0, 0, 0), (328, .iconst 3, 1, 0, 0, 0, 0), (329, .newarray .int, 2, 0, 96, 0, 0), (331, .putfield 114, 3, 11, 41, 0, 1697), (334, .aload_n 0, 1, 0, 0, 0, 0), (335, .bipush 36, 2, 0, 0, 0, 0)],
  [(337, .newarray .int, 2, 0, 97, 0, 0), (339, .putfield 117, 3, 11, 42, 0, 1698), (342, .aload_n 0, 1, 0, 0, 0, 0), (343, .bipush 36, 2, 0, 0, 0, 0), (345, .newarray .int, 2, 0, 98, 0, 0), (347, .putfield 120, 3, 11, 43, 0, 1699), (350, .aload_n 0, 1, 0, 0, 0, 0), (351, .bipush 72, 2, 0, 0, 0, 0)],
  [(353, .newarray .int, 2, 0, 99, 0, 0), (355, .putfield 123, 3, 11, 44, 0, 1700), (358, .aload_n 0, 1, 0, 0, 0, 0), (359, .bipush 72, 2, 0, 0, 0, 0), (361, .newarray .int, 2, 0, 100, 0, 0), (363, .putfield 126, 3, 11, 45, 0, 1701), (366, .aload_n 0, 1, 0, 0, 0, 0), (367, .bipush 72, 2, 0, 0, 0, 0)],
  [(369, .newarray .int, 2, 0, 101, 0, 0), (371, .putfield 129, 3, 11, 46, 0, 1702), (374, .aload_n 0, 1, 0, 0, 0, 0), (375, .bipush 72, 2, 0, 0, 0, 0), (377, .newarray .int, 2, 0, 102, 0, 0), (379, .putfield 132, 3, 11, 47, 0, 1703), (382, .aload_n 0, 1, 0, 0, 0, 0), (383, .sipush 20400, 3, 0, 0, 0, 0)],
  [(386, .newarray .boolean, 2, 0, 103, 0, 0), (388, .putfield 135, 3, 11, 48, 0, 1704), (391, .aload_n 0, 1, 0, 0, 0, 0), (392, .sipush 20400, 3, 0, 0, 0, 0), (395, .newarray .int, 2, 0, 104, 0, 0), (397, .putfield 138, 3, 11, 49, 0, 1705)],
  [(400, .aload_n 0, 1, 0, 0, 0, 0), (401, .sipush 400, 3, 0, 0, 0, 0), (404, .newarray .int, 2, 0, 105, 0, 0), (406, .putfield 141, 3, 11, 59, 0, 1714), (409, .aload_n 0, 1, 0, 0, 0, 0), (410, .sipush 400, 3, 0, 0, 0, 0), (413, .newarray .int, 2, 0, 106, 0, 0), (415, .putfield 144, 3, 11, 60, 0, 1715)],
  [(418, .aload_n 0, 1, 0, 0, 0, 0), (419, .sipush 400, 3, 0, 0, 0, 0), (422, .newarray .int, 2, 0, 107, 0, 0), (424, .putfield 147, 3, 11, 61, 0, 1716), (427, .aload_n 0, 1, 0, 0, 0, 0), (428, .sipush 400, 3, 0, 0, 0, 0), (431, .newarray .int, 2, 0, 108, 0, 0)],
  [(433, .putfield 150, 3, 11, 62, 0, 1717), (436, .aload_n 0, 1, 0, 0, 0, 0), (437, .sipush 400, 3, 0, 0, 0, 0), (440, .newarray .int, 2, 0, 109, 0, 0), (442, .putfield 153, 3, 11, 63, 0, 1718), (445, .aload_n 0, 1, 0, 0, 0, 0), (446, .sipush 400, 3, 0, 0, 0, 0)],
  [(449, .newarray .int, 2, 0, 110, 0, 0), (451, .putfield 156, 3, 11, 64, 0, 1719), (454, .aload_n 0, 1, 0, 0, 0, 0), (455, .sipush 400, 3, 0, 0, 0, 0), (458, .newarray .int, 2, 0, 111, 0, 0), (460, .putfield 159, 3, 11, 65, 0, 1720), (463, .aload_n 0, 1, 0, 0, 0, 0)],
  [(464, .sipush 400, 3, 0, 0, 0, 0), (467, .newarray .int, 2, 0, 112, 0, 0), (469, .putfield 162, 3, 11, 66, 0, 1721), (472, .aload_n 0, 1, 0, 0, 0, 0), (473, .sipush 400, 3, 0, 0, 0, 0), (476, .newarray .int, 2, 0, 113, 0, 0), (478, .putfield 165, 3, 11, 67, 0, 1722)],
  [(481, .aload_n 0, 1, 0, 0, 0, 0), (482, .iconst 3, 1, 0, 0, 0, 0), (483, .newarray .int, 2, 0, 114, 0, 0), (485, .putfield 168, 3, 11, 68, 0, 1723), (488, .aload_n 0, 1, 0, 0, 0, 0), (489, .iconst 3, 1, 0, 0, 0, 0), (490, .newarray .int, 2, 0, 115, 0, 0), (492, .putfield 171, 3, 11, 69, 0, 1724), (495, .aload_n 0, 1, 0, 0, 0, 0)],
  [(496, .iconst 3, 1, 0, 0, 0, 0), (497, .newarray .int, 2, 0, 116, 0, 0), (499, .putfield 174, 3, 11, 70, 0, 1725), (502, .aload_n 0, 1, 0, 0, 0, 0), (503, .sipush 400, 3, 0, 0, 0, 0), (506, .newarray .boolean, 2, 0, 117, 0, 0), (508, .putfield 177, 3, 11, 72, 0, 1727), (511, .aload_n 0, 1, 0, 0, 0, 0)],
  [(512, .iconst 3, 1, 0, 0, 0, 0), (513, .newarray .int, 2, 0, 118, 0, 0), (515, .putfield 180, 3, 11, 77, 0, 1732), (518, .aload_n 0, 1, 0, 0, 0, 0), (519, .iconst 3, 1, 0, 0, 0, 0), (520, .newarray .int, 2, 0, 119, 0, 0), (522, .putfield 183, 3, 11, 78, 0, 1733), (525, .aload_n 0, 1, 0, 0, 0, 0), (526, .bipush 30, 2, 0, 0, 0, 0)],
  [(528, .newarray .int, 2, 0, 120, 0, 0), (530, .putfield 186, 3, 11, 79, 0, 1734), (533, .aload_n 0, 1, 0, 0, 0, 0), (534, .sipush 210, 3, 0, 0, 0, 0), (537, .newarray .int, 2, 0, 121, 0, 0), (539, .putfield 189, 3, 11, 80, 0, 1735), (542, .aload_n 0, 1, 0, 0, 0, 0), (543, .sipush 210, 3, 0, 0, 0, 0)],
  [(546, .newarray .int, 2, 0, 122, 0, 0), (548, .putfield 192, 3, 11, 81, 0, 1736), (551, .aload_n 0, 1, 0, 0, 0, 0), (552, .sipush 210, 3, 0, 0, 0, 0), (555, .newarray .int, 2, 0, 123, 0, 0), (557, .putfield 195, 3, 11, 82, 0, 1737)],
  [(560, .aload_n 0, 1, 0, 0, 0, 0), (561, .sipush 600, 3, 0, 0, 0, 0), (564, .newarray .int, 2, 0, 124, 0, 0), (566, .putfield 198, 3, 11, 83, 0, 1738), (569, .aload_n 0, 1, 0, 0, 0, 0), (570, .bipush 12, 2, 0, 0, 0, 0), (572, .newarray .int, 2, 0, 125, 0, 0), (574, .putfield 201, 3, 11, 84, 0, 1739)],
  [(577, .aload_n 0, 1, 0, 0, 0, 0), (578, .bipush 36, 2, 0, 0, 0, 0), (580, .newarray .int, 2, 0, 126, 0, 0), (582, .putfield 204, 3, 11, 85, 0, 1740), (585, .aload_n 0, 1, 0, 0, 0, 0), (586, .bipush 36, 2, 0, 0, 0, 0), (588, .newarray .int, 2, 0, 127, 0, 0), (590, .putfield 207, 3, 11, 86, 0, 1741)],
  [(593, .aload_n 0, 1, 0, 0, 0, 0), (594, .sipush 400, 3, 0, 0, 0, 0), (597, .newarray .int, 2, 0, 128, 0, 0), (599, .putfield 210, 3, 11, 87, 0, 1742), (602, .aload_n 0, 1, 0, 0, 0, 0), (603, .sipush 400, 3, 0, 0, 0, 0), (606, .newarray .int, 2, 0, 129, 0, 0)],
  [(608, .putfield 213, 3, 11, 88, 0, 1743), (611, .aload_n 0, 1, 0, 0, 0, 0), (612, .sipush 400, 3, 0, 0, 0, 0), (615, .newarray .int, 2, 0, 130, 0, 0), (617, .putfield 216, 3, 11, 89, 0, 1744), (620, .aload_n 0, 1, 0, 0, 0, 0), (621, .sipush 400, 3, 0, 0, 0, 0)],
  [(624, .newarray .int, 2, 0, 131, 0, 0), (626, .putfield 219, 3, 11, 90, 0, 1745), (629, .aload_n 0, 1, 0, 0, 0, 0), (630, .sipush 400, 3, 0, 0, 0, 0), (633, .newarray .int, 2, 0, 132, 0, 0), (635, .putfield 222, 3, 11, 91, 0, 1746), (638, .aload_n 0, 1, 0, 0, 0, 0), (639, .sipush 400, 3, 0, 0, 0, 0)]]
def ql_X11_init_2 : List (List qI) := [[(642, .newarray .int, 2, 0, 133, 0, 0), (644, .putfield 225, 3, 11, 92, 0, 1747), (647, .aload_n 0, 1, 0, 0, 0, 0), (648, .sipush 400, 3, 0, 0, 0, 0), (651, .newarray .int, 2, 0, 134, 0, 0), (653, .putfield 228, 3, 11, 93, 0, 1748)],
  [(656, .aload_n 0, 1, 0, 0, 0, 0), (657, .sipush 400, 3, 0, 0, 0, 0), (660, .newarray .int, 2, 0, 135, 0, 0), (662, .putfield 231, 3, 11, 94, 0, 1749), (665, .aload_n 0, 1, 0, 0, 0, 0), (666, .bipush 60, 2, 0, 0, 0, 0), (668, .newarray .int, 2, 0, 136, 0, 0), (670, .putfield 234, 3, 11, 97, 0, 1752)],
  [(673, .aload_n 0, 1, 0, 0, 0, 0), (674, .bipush 60, 2, 0, 0, 0, 0), (676, .newarray .int, 2, 0, 137, 0, 0), (678, .putfield 237, 3, 11, 98, 0, 1753), (681, .return_, 1, 0, 0, 0, 0)]]
def qc_X11_init : qCd := (ql_X11_init_0 ++ (ql_X11_init_1 ++ (ql_X11_init_2)), [], 0, 1)
def qc_X11_thrown : qCd := ([[(0, .aload_n 0, 1, 0, 0, 0, 0), (1, .getfield 240, 3, 11, 0, 0, 1656), (4, .ireturn, 1, 0, 0, 0, 0)]], [], 1, 1)
def qc_X11_in : qCd := ([[(0, .iload_n 0, 1, 0, 0, 0, 0), (1, .iload_n 1, 1, 0, 0, 0, 0), (2, .if_icmp .lt 12, 3, 14, 0, 0, 0), (5, .iload_n 0, 1, 0, 0, 0, 0), (6, .iload_n 2, 1, 0, 0, 0, 0), (7, .if_icmp .gt 7, 3, 14, 0, 0, 0), (10, .iconst 1, 1, 0, 0, 0, 0), (11, .goto 4, 3, 15, 0, 0, 0), (14, .iconst 0, 1, 0, 0, 0, 0), (15, .ireturn, 1, 0, 0, 0, 0)]], [], 2, 3)
def qc_X11_least : qCd := ([[(0, .iload_n 0, 1, 0, 0, 0, 0), (1, .iload_n 1, 1, 0, 0, 0, 0), (2, .if_icmp .ge 7, 3, 9, 0, 0, 0), (5, .iload_n 0, 1, 0, 0, 0, 0), (6, .goto 4, 3, 10, 0, 0, 0), (9, .iload_n 1, 1, 0, 0, 0, 0), (10, .ireturn, 1, 0, 0, 0, 0)]], [], 1, 2)
def qc_X11_digits : qCd := ([[(0, .iload_n 0, 1, 0, 0, 0, 0), (1, .bipush 10, 2, 0, 0, 0, 0), (3, .if_icmp .ge 7, 3, 10, 0, 0, 0), (6, .iconst 1, 1, 0, 0, 0, 0), (7, .goto 14, 3, 21, 0, 0, 0), (10, .iload_n 0, 1, 0, 0, 0, 0), (11, .bipush 100, 2, 0, 0, 0, 0), (13, .if_icmp .ge 7, 3, 20, 0, 0, 0)],
  [(16, .iconst 2, 1, 0, 0, 0, 0), (17, .goto 4, 3, 21, 0, 0, 0), (20, .iconst 3, 1, 0, 0, 0, 0), (21, .ireturn, 1, 0, 0, 0, 0)]], [], 1, 1)
def qc_X11_isChapter : qCd := ([[(0, .iload_n 0, 1, 0, 0, 0, 0), (1, .iconst 0, 1, 0, 0, 0, 0), (2, .iconst 2, 1, 0, 0, 0, 0), (3, .invokestatic 243, 3, 152, 3, 112, 1970), (6, .ireturn, 1, 0, 0, 0, 0)]], [], 2, 1)
def qc_X11_isItem : qCd := ([[(0, .iload_n 1, 1, 0, 0, 0, 0), (1, .invokestatic 247, 3, 155, 1, 112, 2000), (4, .ifCond .eq 23, 3, 27, 0, 0, 0), (7, .iload_n 2, 1, 0, 0, 0, 0), (8, .iconst 0, 1, 0, 0, 0, 0), (9, .aload_n 0, 1, 0, 0, 0, 0), (10, .getfield 16, 3, 11, 4, 0, 1660), (13, .iload_n 1, 1, 0, 0, 0, 0), (14, .iaload, 1, 0, 0, 0, 0), (15, .iconst 1, 1, 0, 0, 0, 0)],
  [(16, .isub, 1, 0, 0, 0, 0), (17, .invokestatic 243, 3, 152, 3, 112, 1970), (20, .ifCond .eq 7, 3, 27, 0, 0, 0), (23, .iconst 1, 1, 0, 0, 0, 0), (24, .goto 4, 3, 28, 0, 0, 0), (27, .iconst 0, 1, 0, 0, 0, 0), (28, .ireturn, 1, 0, 0, 0, 0)]], [], 2, 3)
def qc_X11_isWord : qCd := ([[(0, .aload_n 0, 1, 0, 0, 0, 0), (1, .iload_n 1, 1, 0, 0, 0, 0), (2, .iload_n 2, 1, 0, 0, 0, 0), (3, .invokevirtual 251, 3, 156, 3, 110, 2034), (6, .ifCond .eq 28, 3, 34, 0, 0, 0), (9, .iload_n 3, 1, 0, 0, 0, 0), (10, .iconst 0, 1, 0, 0, 0, 0), (11, .aload_n 0, 1, 0, 0, 0, 0), (12, .getfield 27, 3, 11, 7, 0, 1663), (15, .bipush 10, 2, 0, 0, 0, 0)],
  [(17, .iload_n 1, 1, 0, 0, 0, 0), (18, .imul, 1, 0, 0, 0, 0), (19, .iload_n 2, 1, 0, 0, 0, 0), (20, .iadd, 1, 0, 0, 0, 0), (21, .iaload, 1, 0, 0, 0, 0), (22, .iconst 1, 1, 0, 0, 0, 0), (23, .isub, 1, 0, 0, 0, 0), (24, .invokestatic 243, 3, 152, 3, 112, 1970), (27, .ifCond .eq 7, 3, 34, 0, 0, 0), (30, .iconst 1, 1, 0, 0, 0, 0), (31, .goto 4, 3, 35, 0, 0, 0)],
  [(34, .iconst 0, 1, 0, 0, 0, 0), (35, .ireturn, 1, 0, 0, 0, 0)]], [], 2, 4)
def qc_X11_idOf : qCd := ([[(0, .bipush 20, 2, 0, 0, 0, 0), (2, .bipush 10, 2, 0, 0, 0, 0), (4, .iload_n 0, 1, 0, 0, 0, 0), (5, .imul, 1, 0, 0, 0, 0), (6, .iload_n 1, 1, 0, 0, 0, 0), (7, .iadd, 1, 0, 0, 0, 0), (8, .imul, 1, 0, 0, 0, 0), (9, .iload_n 2, 1, 0, 0, 0, 0), (10, .iadd, 1, 0, 0, 0, 0), (11, .ireturn, 1, 0, 0, 0, 0)]], [], 1, 3)
def qc_X11_setMeasures : qCd := ([[(0, .aload_n 0, 1, 0, 0, 0, 0), (1, .iload_n 1, 1, 0, 0, 0, 0), (2, .bipush 8, 2, 0, 0, 0, 0), (4, .bipush 30, 2, 0, 0, 0, 0), (6, .invokestatic 243, 3, 152, 3, 112, 1970), (9, .ifCond .eq 18, 3, 27, 0, 0, 0), (12, .iload_n 2, 1, 0, 0, 0, 0), (13, .bipush 8, 2, 0, 0, 0, 0), (15, .bipush 14, 2, 0, 0, 0, 0)],
  [(17, .invokestatic 243, 3, 152, 3, 112, 1970), (20, .ifCond .eq 7, 3, 27, 0, 0, 0), (23, .iconst 0, 1, 0, 0, 0, 0), (24, .goto 4, 3, 28, 0, 0, 0), (27, .iconst 1, 1, 0, 0, 0, 0), (28, .putfield 240, 3, 11, 0, 0, 1656), (31, .aload_n 0, 1, 0, 0, 0, 0)],
  [(32, .getfield 240, 3, 11, 0, 0, 1656), (35, .ifCond .le 5, 3, 40, 0, 0, 0), (38, .iconst 0, 1, 0, 0, 0, 0), (39, .ireturn, 1, 0, 0, 0, 0), (40, .aload_n 0, 1, 0, 0, 0, 0), (41, .getfield 7, 3, 11, 1, 0, 1657), (44, .istore_n 3, 1, 0, 0, 0, 0), (45, .aload_n 0, 1, 0, 0, 0, 0), (46, .iload_n 1, 1, 0, 0, 0, 0), (47, .putfield 7, 3, 11, 1, 0, 1657)],
  [(50, .aload_n 0, 1, 0, 0, 0, 0), (51, .iload_n 2, 1, 0, 0, 0, 0), (52, .putfield 13, 3, 11, 2, 0, 1658), (55, .aload_n 0, 1, 0, 0, 0, 0), (56, .iconst 0, 1, 0, 0, 0, 0), (57, .putfield 255, 3, 11, 22, 0, 1678), (60, .iload_n 3, 1, 0, 0, 0, 0), (61, .ireturn, 1, 0, 0, 0, 0)]], [], 1, 4)
def qc_X11_setByPage : qCd := ([[(0, .aload_n 0, 1, 0, 0, 0, 0), (1, .iconst 0, 1, 0, 0, 0, 0), (2, .putfield 240, 3, 11, 0, 0, 1656), (5, .aload_n 0, 1, 0, 0, 0, 0), (6, .getfield 259, 3, 11, 3, 0, 1659), (9, .istore_n 2, 1, 0, 0, 0, 0), (10, .aload_n 0, 1, 0, 0, 0, 0), (11, .iload_n 1, 1, 0, 0, 0, 0), (12, .putfield 259, 3, 11, 3, 0, 1659), (15, .aload_n 0, 1, 0, 0, 0, 0)],
  [(16, .iconst 0, 1, 0, 0, 0, 0), (17, .putfield 255, 3, 11, 22, 0, 1678), (20, .iload_n 2, 1, 0, 0, 0, 0), (21, .ireturn, 1, 0, 0, 0, 0)]], [], 2, 3)
def qc_X11_isValue : qCd := ([[(0, .iload_n 0, 1, 0, 0, 0, 0), (1, .tableswitch 78 0 5 #[39, 49, 57, 64, 49, 71], 39, 0, 0, 0, 0)],
  [],
  [(40, .iload_n 1, 1, 0, 0, 0, 0), (41, .ifCond .ne 7, 3, 48, 0, 0, 0), (44, .iconst 1, 1, 0, 0, 0, 0), (45, .goto 4, 3, 49, 0, 0, 0)],
  [(48, .iconst 0, 1, 0, 0, 0, 0), (49, .ireturn, 1, 0, 0, 0, 0), (50, .iload_n 1, 1, 0, 0, 0, 0), (51, .iconst 0, 1, 0, 0, 0, 0), (52, .bipush 9, 2, 0, 0, 0, 0), (54, .invokestatic 243, 3, 152, 3, 112, 1970), (57, .ireturn, 1, 0, 0, 0, 0), (58, .iload_n 1, 1, 0, 0, 0, 0), (59, .iconst 1, 1, 0, 0, 0, 0), (60, .iconst 4, 1, 0, 0, 0, 0), (61, .invokestatic 243, 3, 152, 3, 112, 1970)],
  [(64, .ireturn, 1, 0, 0, 0, 0), (65, .iload_n 1, 1, 0, 0, 0, 0), (66, .iconst 2, 1, 0, 0, 0, 0), (67, .iconst 5, 1, 0, 0, 0, 0), (68, .invokestatic 243, 3, 152, 3, 112, 1970), (71, .ireturn, 1, 0, 0, 0, 0), (72, .iload_n 1, 1, 0, 0, 0, 0), (73, .iconst 1, 1, 0, 0, 0, 0), (74, .iconst 3, 1, 0, 0, 0, 0), (75, .invokestatic 243, 3, 152, 3, 112, 1970), (78, .ireturn, 1, 0, 0, 0, 0), (79, .iconst 0, 1, 0, 0, 0, 0)],
  [(80, .ireturn, 1, 0, 0, 0, 0)]], [], 2, 2)
def qc_X11_drafts : qCd := ([[(0, .aload_n 0, 1, 0, 0, 0, 0), (1, .getfield 42, 3, 11, 13, 0, 1669), (4, .aload_n 0, 1, 0, 0, 0, 0), (5, .getfield 262, 3, 11, 12, 0, 1668), (8, .iload_n 1, 1, 0, 0, 0, 0), (9, .iastore, 1, 0, 0, 0, 0), (10, .aload_n 0, 1, 0, 0, 0, 0), (11, .getfield 45, 3, 11, 14, 0, 1670), (14, .aload_n 0, 1, 0, 0, 0, 0), (15, .getfield 262, 3, 11, 12, 0, 1668)],
  [(18, .iload_n 2, 1, 0, 0, 0, 0), (19, .iastore, 1, 0, 0, 0, 0), (20, .aload_n 0, 1, 0, 0, 0, 0), (21, .getfield 48, 3, 11, 15, 0, 1671), (24, .aload_n 0, 1, 0, 0, 0, 0), (25, .getfield 262, 3, 11, 12, 0, 1668), (28, .iload_n 3, 1, 0, 0, 0, 0), (29, .iastore, 1, 0, 0, 0, 0), (30, .aload_n 0, 1, 0, 0, 0, 0), (31, .dup, 1, 0, 0, 0, 0)],
  [(32, .getfield 262, 3, 11, 12, 0, 1668), (35, .iconst 1, 1, 0, 0, 0, 0), (36, .iadd, 1, 0, 0, 0, 0), (37, .putfield 262, 3, 11, 12, 0, 1668), (40, .aload_n 0, 1, 0, 0, 0, 0), (41, .getfield 262, 3, 11, 12, 0, 1668), (44, .ireturn, 1, 0, 0, 0, 0)]], [], 1, 4)
def qc_X11_word : qCd := ([[(0, .aload_n 0, 1, 0, 0, 0, 0), (1, .iload_n 1, 1, 0, 0, 0, 0), (2, .iconst 1, 1, 0, 0, 0, 0), (3, .bipush 8, 2, 0, 0, 0, 0), (5, .invokestatic 243, 3, 152, 3, 112, 1970), (8, .ifCond .eq 11, 3, 19, 0, 0, 0), (11, .iload_n 2, 1, 0, 0, 0, 0), (12, .iload_n 3, 1, 0, 0, 0, 0), (13, .invokestatic 265, 3, 161, 2, 112, 1981)],
  [(16, .ifCond .ne 7, 3, 23, 0, 0, 0), (19, .iconst 1, 1, 0, 0, 0, 0), (20, .goto 17, 3, 37, 0, 0, 0), (23, .aload_n 0, 1, 0, 0, 0, 0), (24, .getfield 262, 3, 11, 12, 0, 1668), (27, .bipush 20, 2, 0, 0, 0, 0), (29, .if_icmp .ne 7, 3, 36, 0, 0, 0)],
  [(32, .iconst 2, 1, 0, 0, 0, 0), (33, .goto 4, 3, 37, 0, 0, 0), (36, .iconst 0, 1, 0, 0, 0, 0), (37, .putfield 240, 3, 11, 0, 0, 1656), (40, .aload_n 0, 1, 0, 0, 0, 0), (41, .getfield 240, 3, 11, 0, 0, 1656), (44, .ifCond .le 7, 3, 51, 0, 0, 0), (47, .iconst 0, 1, 0, 0, 0, 0)],
  [(48, .goto 10, 3, 58, 0, 0, 0), (51, .aload_n 0, 1, 0, 0, 0, 0), (52, .iload_n 1, 1, 0, 0, 0, 0), (53, .iload_n 2, 1, 0, 0, 0, 0), (54, .iload_n 3, 1, 0, 0, 0, 0), (55, .invokevirtual 268, 3, 162, 4, 110, 1984), (58, .ireturn, 1, 0, 0, 0, 0)]], [], 1, 4)
def qc_X11_refer : qCd := ([[(0, .aload_n 0, 1, 0, 0, 0, 0), (1, .iload_n 1, 1, 0, 0, 0, 0), (2, .iconst 0, 1, 0, 0, 0, 0), (3, .bipush 9, 2, 0, 0, 0, 0), (5, .invokestatic 243, 3, 152, 3, 112, 1970), (8, .ifCond .ne 7, 3, 15, 0, 0, 0), (11, .iconst 1, 1, 0, 0, 0, 0), (12, .goto 17, 3, 29, 0, 0, 0), (15, .aload_n 0, 1, 0, 0, 0, 0)],
  [(16, .getfield 262, 3, 11, 12, 0, 1668), (19, .bipush 20, 2, 0, 0, 0, 0), (21, .if_icmp .ne 7, 3, 28, 0, 0, 0), (24, .iconst 2, 1, 0, 0, 0, 0), (25, .goto 4, 3, 29, 0, 0, 0), (28, .iconst 0, 1, 0, 0, 0, 0), (29, .putfield 240, 3, 11, 0, 0, 1656)],
  [(32, .aload_n 0, 1, 0, 0, 0, 0), (33, .getfield 240, 3, 11, 0, 0, 1656), (36, .ifCond .le 7, 3, 43, 0, 0, 0), (39, .iconst 0, 1, 0, 0, 0, 0), (40, .goto 11, 3, 51, 0, 0, 0), (43, .aload_n 0, 1, 0, 0, 0, 0), (44, .iconst 0, 1, 0, 0, 0, 0), (45, .bipush 6, 2, 0, 0, 0, 0), (47, .iload_n 1, 1, 0, 0, 0, 0)],
  [(48, .invokevirtual 268, 3, 162, 4, 110, 1984), (51, .ireturn, 1, 0, 0, 0, 0)]], [], 1, 2)
def qc_X11_clear : qCd := ([[(0, .aload_n 0, 1, 0, 0, 0, 0), (1, .iconst 0, 1, 0, 0, 0, 0), (2, .putfield 240, 3, 11, 0, 0, 1656), (5, .aload_n 0, 1, 0, 0, 0, 0), (6, .getfield 262, 3, 11, 12, 0, 1668), (9, .istore_n 1, 1, 0, 0, 0, 0), (10, .aload_n 0, 1, 0, 0, 0, 0), (11, .iconst 0, 1, 0, 0, 0, 0), (12, .putfield 262, 3, 11, 12, 0, 1668), (15, .iload_n 1, 1, 0, 0, 0, 0)],
  [(16, .ireturn, 1, 0, 0, 0, 0)]], [], 1, 2)
def qc_X11_sumOf : qCd := ([[(0, .iconst 0, 1, 0, 0, 0, 0), (1, .istore 5, 2, 0, 0, 0, 0), (3, .iconst 0, 1, 0, 0, 0, 0), (4, .istore 6, 2, 0, 0, 0, 0), (6, .iload 6, 2, 0, 0, 0, 0), (8, .aload_n 0, 1, 0, 0, 0, 0), (9, .getfield 16, 3, 11, 4, 0, 1660), (12, .iload_n 1, 1, 0, 0, 0, 0), (13, .iaload, 1, 0, 0, 0, 0), (14, .if_icmp .ge 96, 3, 110, 0, 0, 0)],
  [(17, .iconst 0, 1, 0, 0, 0, 0), (18, .istore 7, 2, 0, 0, 0, 0), (20, .iload 7, 2, 0, 0, 0, 0), (22, .aload_n 0, 1, 0, 0, 0, 0), (23, .getfield 27, 3, 11, 7, 0, 1663), (26, .bipush 10, 2, 0, 0, 0, 0), (28, .iload_n 1, 1, 0, 0, 0, 0), (29, .imul, 1, 0, 0, 0, 0), (30, .iload 6, 2, 0, 0, 0, 0)],
  [(32, .iadd, 1, 0, 0, 0, 0), (33, .iaload, 1, 0, 0, 0, 0), (34, .if_icmp .ge 70, 3, 104, 0, 0, 0), (37, .iload 6, 2, 0, 0, 0, 0), (39, .iload_n 2, 1, 0, 0, 0, 0), (40, .if_icmp .eq 64, 3, 104, 0, 0, 0), (43, .iload_n 1, 1, 0, 0, 0, 0), (44, .iload 6, 2, 0, 0, 0, 0), (46, .iload 7, 2, 0, 0, 0, 0)],
  [(48, .invokestatic 272, 3, 158, 3, 112, 2011), (51, .istore 8, 2, 0, 0, 0, 0), (53, .iload 5, 2, 0, 0, 0, 0), (55, .iload_n 3, 1, 0, 0, 0, 0), (56, .iconst (-1), 1, 0, 0, 0, 0), (57, .if_icmp .ne 7, 3, 64, 0, 0, 0), (60, .iconst 1, 1, 0, 0, 0, 0), (61, .goto 34, 3, 95, 0, 0, 0)],
  [(64, .aload_n 0, 1, 0, 0, 0, 0), (65, .getfield 36, 3, 11, 10, 0, 1666), (68, .iload 8, 2, 0, 0, 0, 0), (70, .iaload, 1, 0, 0, 0, 0), (71, .iload_n 3, 1, 0, 0, 0, 0), (72, .if_icmp .eq 7, 3, 79, 0, 0, 0), (75, .iconst 0, 1, 0, 0, 0, 0), (76, .goto 19, 3, 95, 0, 0, 0), (79, .iload 4, 2, 0, 0, 0, 0)],
  [(81, .ifCond .eq 13, 3, 94, 0, 0, 0), (84, .aload_n 0, 1, 0, 0, 0, 0), (85, .getfield 39, 3, 11, 11, 0, 1667), (88, .iload 8, 2, 0, 0, 0, 0), (90, .iaload, 1, 0, 0, 0, 0), (91, .goto 4, 3, 95, 0, 0, 0), (94, .iconst 1, 1, 0, 0, 0, 0), (95, .iadd, 1, 0, 0, 0, 0)],
  [(96, .istore 5, 2, 0, 0, 0, 0), (98, .iinc 7 1, 3, 0, 0, 0, 0), (101, .goto (-81), 3, 20, 0, 0, 0), (104, .iinc 6 1, 3, 0, 0, 0, 0), (107, .goto (-101), 3, 6, 0, 0, 0), (110, .iload 5, 2, 0, 0, 0, 0)],
  [(112, .ireturn, 1, 0, 0, 0, 0)]], [], 1, 9)
def qc_X11_sumOfDraft : qCd := ([[(0, .iconst 0, 1, 0, 0, 0, 0), (1, .istore_n 3, 1, 0, 0, 0, 0), (2, .iconst 0, 1, 0, 0, 0, 0), (3, .istore 4, 2, 0, 0, 0, 0), (5, .iload 4, 2, 0, 0, 0, 0), (7, .aload_n 0, 1, 0, 0, 0, 0), (8, .getfield 262, 3, 11, 12, 0, 1668), (11, .if_icmp .ge 51, 3, 62, 0, 0, 0), (14, .iload_n 3, 1, 0, 0, 0, 0), (15, .iload_n 1, 1, 0, 0, 0, 0)],
  [(16, .iconst (-1), 1, 0, 0, 0, 0), (17, .if_icmp .ne 7, 3, 24, 0, 0, 0), (20, .iconst 1, 1, 0, 0, 0, 0), (21, .goto 33, 3, 54, 0, 0, 0), (24, .aload_n 0, 1, 0, 0, 0, 0), (25, .getfield 45, 3, 11, 14, 0, 1670), (28, .iload 4, 2, 0, 0, 0, 0), (30, .iaload, 1, 0, 0, 0, 0), (31, .iload_n 1, 1, 0, 0, 0, 0)],
  [(32, .if_icmp .eq 7, 3, 39, 0, 0, 0), (35, .iconst 0, 1, 0, 0, 0, 0), (36, .goto 18, 3, 54, 0, 0, 0), (39, .iload_n 2, 1, 0, 0, 0, 0), (40, .ifCond .eq 13, 3, 53, 0, 0, 0), (43, .aload_n 0, 1, 0, 0, 0, 0), (44, .getfield 48, 3, 11, 15, 0, 1671), (47, .iload 4, 2, 0, 0, 0, 0)],
  [(49, .iaload, 1, 0, 0, 0, 0), (50, .goto 4, 3, 54, 0, 0, 0), (53, .iconst 1, 1, 0, 0, 0, 0), (54, .iadd, 1, 0, 0, 0, 0), (55, .istore_n 3, 1, 0, 0, 0, 0), (56, .iinc 4 1, 3, 0, 0, 0, 0), (59, .goto (-54), 3, 5, 0, 0, 0), (62, .iload_n 3, 1, 0, 0, 0, 0), (63, .ireturn, 1, 0, 0, 0, 0)]], [], 1, 5)
def qc_X11_isLabelTaken : qCd := ([[(0, .iconst 0, 1, 0, 0, 0, 0), (1, .istore_n 2, 1, 0, 0, 0, 0), (2, .iconst 0, 1, 0, 0, 0, 0), (3, .istore_n 3, 1, 0, 0, 0, 0), (4, .iload_n 3, 1, 0, 0, 0, 0), (5, .aload_n 0, 1, 0, 0, 0, 0), (6, .getfield 262, 3, 11, 12, 0, 1668), (9, .if_icmp .ge 174, 3, 183, 0, 0, 0), (12, .iconst 0, 1, 0, 0, 0, 0), (13, .istore 4, 2, 0, 0, 0, 0), (15, .iload 4, 2, 0, 0, 0, 0)],
  [(17, .sipush 600, 3, 0, 0, 0, 0), (20, .if_icmp .ge 95, 3, 115, 0, 0, 0), (23, .aload_n 0, 1, 0, 0, 0, 0), (24, .getfield 45, 3, 11, 14, 0, 1670), (27, .iload_n 3, 1, 0, 0, 0, 0), (28, .iaload, 1, 0, 0, 0, 0), (29, .iconst 1, 1, 0, 0, 0, 0), (30, .if_icmp .ne 85, 3, 115, 0, 0, 0)],
  [(33, .iload 4, 2, 0, 0, 0, 0), (35, .bipush 20, 2, 0, 0, 0, 0), (37, .idiv, 1, 0, 0, 0, 0), (38, .iload_n 1, 1, 0, 0, 0, 0), (39, .if_icmp .eq 36, 3, 75, 0, 0, 0), (42, .iload 4, 2, 0, 0, 0, 0), (44, .bipush 20, 2, 0, 0, 0, 0), (46, .irem, 1, 0, 0, 0, 0), (47, .aload_n 0, 1, 0, 0, 0, 0)],
  [(48, .getfield 27, 3, 11, 7, 0, 1663), (51, .iload 4, 2, 0, 0, 0, 0), (53, .bipush 20, 2, 0, 0, 0, 0), (55, .idiv, 1, 0, 0, 0, 0), (56, .iaload, 1, 0, 0, 0, 0), (57, .if_icmp .ge 18, 3, 75, 0, 0, 0), (60, .aload_n 0, 1, 0, 0, 0, 0), (61, .getfield 36, 3, 11, 10, 0, 1666)],
  [(64, .iload 4, 2, 0, 0, 0, 0), (66, .iaload, 1, 0, 0, 0, 0), (67, .iconst 1, 1, 0, 0, 0, 0), (68, .if_icmp .ne 7, 3, 75, 0, 0, 0), (71, .iconst 1, 1, 0, 0, 0, 0), (72, .goto 4, 3, 76, 0, 0, 0), (75, .iconst 0, 1, 0, 0, 0, 0), (76, .istore 5, 2, 0, 0, 0, 0), (78, .iload_n 2, 1, 0, 0, 0, 0), (79, .ifCond .ne 24, 3, 103, 0, 0, 0)],
  [(82, .iload 5, 2, 0, 0, 0, 0), (84, .ifCond .eq 23, 3, 107, 0, 0, 0), (87, .aload_n 0, 1, 0, 0, 0, 0), (88, .getfield 39, 3, 11, 11, 0, 1667), (91, .iload 4, 2, 0, 0, 0, 0), (93, .iaload, 1, 0, 0, 0, 0), (94, .aload_n 0, 1, 0, 0, 0, 0), (95, .getfield 48, 3, 11, 15, 0, 1671)],
  [(98, .iload_n 3, 1, 0, 0, 0, 0), (99, .iaload, 1, 0, 0, 0, 0), (100, .if_icmp .ne 7, 3, 107, 0, 0, 0), (103, .iconst 1, 1, 0, 0, 0, 0), (104, .goto 4, 3, 108, 0, 0, 0), (107, .iconst 0, 1, 0, 0, 0, 0), (108, .istore_n 2, 1, 0, 0, 0, 0), (109, .iinc 4 1, 3, 0, 0, 0, 0)],
  [(112, .goto (-97), 3, 15, 0, 0, 0), (115, .iconst 0, 1, 0, 0, 0, 0), (116, .istore 4, 2, 0, 0, 0, 0), (118, .iload 4, 2, 0, 0, 0, 0), (120, .iload_n 3, 1, 0, 0, 0, 0), (121, .if_icmp .ge 56, 3, 177, 0, 0, 0), (124, .iload_n 2, 1, 0, 0, 0, 0), (125, .ifCond .ne 40, 3, 165, 0, 0, 0)],
  [(128, .aload_n 0, 1, 0, 0, 0, 0), (129, .getfield 45, 3, 11, 14, 0, 1670), (132, .iload_n 3, 1, 0, 0, 0, 0), (133, .iaload, 1, 0, 0, 0, 0), (134, .iconst 1, 1, 0, 0, 0, 0), (135, .if_icmp .ne 34, 3, 169, 0, 0, 0), (138, .aload_n 0, 1, 0, 0, 0, 0), (139, .getfield 45, 3, 11, 14, 0, 1670), (142, .iload 4, 2, 0, 0, 0, 0)],
  [(144, .iaload, 1, 0, 0, 0, 0), (145, .iconst 1, 1, 0, 0, 0, 0), (146, .if_icmp .ne 23, 3, 169, 0, 0, 0), (149, .aload_n 0, 1, 0, 0, 0, 0), (150, .getfield 48, 3, 11, 15, 0, 1671), (153, .iload_n 3, 1, 0, 0, 0, 0), (154, .iaload, 1, 0, 0, 0, 0), (155, .aload_n 0, 1, 0, 0, 0, 0), (156, .getfield 48, 3, 11, 15, 0, 1671), (159, .iload 4, 2, 0, 0, 0, 0)],
  [(161, .iaload, 1, 0, 0, 0, 0), (162, .if_icmp .ne 7, 3, 169, 0, 0, 0), (165, .iconst 1, 1, 0, 0, 0, 0), (166, .goto 4, 3, 170, 0, 0, 0), (169, .iconst 0, 1, 0, 0, 0, 0), (170, .istore_n 2, 1, 0, 0, 0, 0), (171, .iinc 4 1, 3, 0, 0, 0, 0), (174, .goto (-56), 3, 118, 0, 0, 0)],
  [(177, .iinc 3 1, 3, 0, 0, 0, 0), (180, .goto (-176), 3, 4, 0, 0, 0), (183, .iload_n 2, 1, 0, 0, 0, 0), (184, .ireturn, 1, 0, 0, 0, 0)]], [], 2, 6)
def qc_X11_canTake : qCd := ([[(0, .aload_n 0, 1, 0, 0, 0, 0), (1, .iload_n 1, 1, 0, 0, 0, 0), (2, .iload_n 2, 1, 0, 0, 0, 0), (3, .iconst (-1), 1, 0, 0, 0, 0), (4, .iconst 0, 1, 0, 0, 0, 0), (5, .invokevirtual 275, 3, 166, 5, 110, 2007), (8, .aload_n 0, 1, 0, 0, 0, 0), (9, .getfield 262, 3, 11, 12, 0, 1668), (12, .iadd, 1, 0, 0, 0, 0), (13, .bipush 60, 2, 0, 0, 0, 0), (15, .if_icmp .gt 27, 3, 42, 0, 0, 0)],
  [(18, .aload_n 0, 1, 0, 0, 0, 0), (19, .iload_n 1, 1, 0, 0, 0, 0), (20, .iload_n 2, 1, 0, 0, 0, 0), (21, .iconst 2, 1, 0, 0, 0, 0), (22, .iconst 1, 1, 0, 0, 0, 0), (23, .invokevirtual 275, 3, 166, 5, 110, 2007), (26, .aload_n 0, 1, 0, 0, 0, 0), (27, .iconst 2, 1, 0, 0, 0, 0), (28, .iconst 1, 1, 0, 0, 0, 0), (29, .invokevirtual 279, 3, 167, 3, 110, 2014)],
  [(32, .iadd, 1, 0, 0, 0, 0), (33, .bipush 12, 2, 0, 0, 0, 0), (35, .if_icmp .gt 7, 3, 42, 0, 0, 0), (38, .iconst 1, 1, 0, 0, 0, 0), (39, .goto 4, 3, 43, 0, 0, 0), (42, .iconst 0, 1, 0, 0, 0, 0), (43, .istore_n 3, 1, 0, 0, 0, 0), (44, .iload_n 3, 1, 0, 0, 0, 0), (45, .ifCond .eq 26, 3, 71, 0, 0, 0)],
  [(48, .aload_n 0, 1, 0, 0, 0, 0), (49, .iload_n 1, 1, 0, 0, 0, 0), (50, .iload_n 2, 1, 0, 0, 0, 0), (51, .iconst 3, 1, 0, 0, 0, 0), (52, .iconst 0, 1, 0, 0, 0, 0), (53, .invokevirtual 275, 3, 166, 5, 110, 2007), (56, .aload_n 0, 1, 0, 0, 0, 0), (57, .iconst 3, 1, 0, 0, 0, 0), (58, .iconst 0, 1, 0, 0, 0, 0), (59, .invokevirtual 279, 3, 167, 3, 110, 2014), (62, .iadd, 1, 0, 0, 0, 0), (63, .iconst 4, 1, 0, 0, 0, 0)],
  [(64, .if_icmp .gt 7, 3, 71, 0, 0, 0), (67, .iconst 1, 1, 0, 0, 0, 0), (68, .goto 4, 3, 72, 0, 0, 0), (71, .iconst 0, 1, 0, 0, 0, 0), (72, .istore_n 3, 1, 0, 0, 0, 0), (73, .iload_n 3, 1, 0, 0, 0, 0), (74, .ifCond .eq 36, 3, 110, 0, 0, 0), (77, .aload_n 0, 1, 0, 0, 0, 0), (78, .getfield 262, 3, 11, 12, 0, 1668)],
  [(81, .ifCond .le 29, 3, 110, 0, 0, 0), (84, .aload_n 0, 1, 0, 0, 0, 0), (85, .iload_n 2, 1, 0, 0, 0, 0), (86, .iconst (-1), 1, 0, 0, 0, 0), (87, .if_icmp .ne 7, 3, 94, 0, 0, 0), (90, .iconst (-1), 1, 0, 0, 0, 0), (91, .goto 9, 3, 100, 0, 0, 0), (94, .bipush 10, 2, 0, 0, 0, 0)],
  [(96, .iload_n 1, 1, 0, 0, 0, 0), (97, .imul, 1, 0, 0, 0, 0), (98, .iload_n 2, 1, 0, 0, 0, 0), (99, .iadd, 1, 0, 0, 0, 0), (100, .invokevirtual 283, 3, 168, 2, 110, 2018), (103, .ifCond .ne 7, 3, 110, 0, 0, 0), (106, .iconst 1, 1, 0, 0, 0, 0), (107, .goto 4, 3, 111, 0, 0, 0), (110, .iconst 0, 1, 0, 0, 0, 0), (111, .ireturn, 1, 0, 0, 0, 0)]], [], 2, 4)
def qc_X11_lays : qCd := ([[(0, .iconst 0, 1, 0, 0, 0, 0), (1, .istore_n 2, 1, 0, 0, 0, 0), (2, .iload_n 2, 1, 0, 0, 0, 0), (3, .aload_n 0, 1, 0, 0, 0, 0), (4, .getfield 262, 3, 11, 12, 0, 1668), (7, .if_icmp .ge 60, 3, 67, 0, 0, 0), (10, .aload_n 0, 1, 0, 0, 0, 0), (11, .getfield 33, 3, 11, 9, 0, 1665), (14, .bipush 20, 2, 0, 0, 0, 0)],
  [(16, .iload_n 1, 1, 0, 0, 0, 0), (17, .imul, 1, 0, 0, 0, 0), (18, .iload_n 2, 1, 0, 0, 0, 0), (19, .iadd, 1, 0, 0, 0, 0), (20, .aload_n 0, 1, 0, 0, 0, 0), (21, .getfield 42, 3, 11, 13, 0, 1669), (24, .iload_n 2, 1, 0, 0, 0, 0), (25, .iaload, 1, 0, 0, 0, 0), (26, .iastore, 1, 0, 0, 0, 0), (27, .aload_n 0, 1, 0, 0, 0, 0), (28, .getfield 36, 3, 11, 10, 0, 1666), (31, .bipush 20, 2, 0, 0, 0, 0)],
  [(33, .iload_n 1, 1, 0, 0, 0, 0), (34, .imul, 1, 0, 0, 0, 0), (35, .iload_n 2, 1, 0, 0, 0, 0), (36, .iadd, 1, 0, 0, 0, 0), (37, .aload_n 0, 1, 0, 0, 0, 0), (38, .getfield 45, 3, 11, 14, 0, 1670), (41, .iload_n 2, 1, 0, 0, 0, 0), (42, .iaload, 1, 0, 0, 0, 0), (43, .iastore, 1, 0, 0, 0, 0), (44, .aload_n 0, 1, 0, 0, 0, 0), (45, .getfield 39, 3, 11, 11, 0, 1667)],
  [(48, .bipush 20, 2, 0, 0, 0, 0), (50, .iload_n 1, 1, 0, 0, 0, 0), (51, .imul, 1, 0, 0, 0, 0), (52, .iload_n 2, 1, 0, 0, 0, 0), (53, .iadd, 1, 0, 0, 0, 0), (54, .aload_n 0, 1, 0, 0, 0, 0), (55, .getfield 48, 3, 11, 15, 0, 1671), (58, .iload_n 2, 1, 0, 0, 0, 0), (59, .iaload, 1, 0, 0, 0, 0), (60, .iastore, 1, 0, 0, 0, 0), (61, .iinc 2 1, 3, 0, 0, 0, 0)],
  [(64, .goto (-62), 3, 2, 0, 0, 0), (67, .aload_n 0, 1, 0, 0, 0, 0), (68, .getfield 27, 3, 11, 7, 0, 1663), (71, .iload_n 1, 1, 0, 0, 0, 0), (72, .aload_n 0, 1, 0, 0, 0, 0), (73, .getfield 262, 3, 11, 12, 0, 1668), (76, .iastore, 1, 0, 0, 0, 0), (77, .aload_n 0, 1, 0, 0, 0, 0), (78, .getfield 63, 3, 11, 24, 0, 1680)],
  [(81, .iload_n 1, 1, 0, 0, 0, 0), (82, .iconst 0, 1, 0, 0, 0, 0), (83, .iastore, 1, 0, 0, 0, 0), (84, .aload_n 0, 1, 0, 0, 0, 0), (85, .iconst 0, 1, 0, 0, 0, 0), (86, .putfield 262, 3, 11, 12, 0, 1668), (89, .aload_n 0, 1, 0, 0, 0, 0), (90, .iconst 0, 1, 0, 0, 0, 0), (91, .putfield 255, 3, 11, 22, 0, 1678), (94, .return_, 1, 0, 0, 0, 0)]], [], 0, 3)
def qc_X11_paragraph : qCd := ([[(0, .aload_n 0, 1, 0, 0, 0, 0), (1, .iload_n 1, 1, 0, 0, 0, 0), (2, .invokestatic 247, 3, 155, 1, 112, 2000), (5, .ifCond .ne 7, 3, 12, 0, 0, 0), (8, .iconst 1, 1, 0, 0, 0, 0), (9, .goto 28, 3, 37, 0, 0, 0), (12, .aload_n 0, 1, 0, 0, 0, 0), (13, .getfield 16, 3, 11, 4, 0, 1660)],
  [(16, .iload_n 1, 1, 0, 0, 0, 0), (17, .iaload, 1, 0, 0, 0, 0), (18, .bipush 10, 2, 0, 0, 0, 0), (20, .if_icmp .eq 12, 3, 32, 0, 0, 0), (23, .aload_n 0, 1, 0, 0, 0, 0), (24, .iload_n 1, 1, 0, 0, 0, 0), (25, .iconst (-1), 1, 0, 0, 0, 0), (26, .invokevirtual 286, 3, 169, 3, 110, 2003), (29, .ifCond .ne 7, 3, 36, 0, 0, 0)],
  [(32, .iconst 2, 1, 0, 0, 0, 0), (33, .goto 4, 3, 37, 0, 0, 0), (36, .iconst 0, 1, 0, 0, 0, 0), (37, .putfield 240, 3, 11, 0, 0, 1656), (40, .aload_n 0, 1, 0, 0, 0, 0), (41, .getfield 240, 3, 11, 0, 0, 1656), (44, .ifCond .le 5, 3, 49, 0, 0, 0), (47, .iconst 0, 1, 0, 0, 0, 0)],
  [(48, .ireturn, 1, 0, 0, 0, 0), (49, .aload_n 0, 1, 0, 0, 0, 0), (50, .bipush 10, 2, 0, 0, 0, 0), (52, .iload_n 1, 1, 0, 0, 0, 0), (53, .imul, 1, 0, 0, 0, 0), (54, .aload_n 0, 1, 0, 0, 0, 0), (55, .getfield 16, 3, 11, 4, 0, 1660), (58, .iload_n 1, 1, 0, 0, 0, 0), (59, .iaload, 1, 0, 0, 0, 0), (60, .iadd, 1, 0, 0, 0, 0), (61, .invokevirtual 289, 3, 170, 2, 110, 2022)],
  [(64, .aload_n 0, 1, 0, 0, 0, 0), (65, .getfield 16, 3, 11, 4, 0, 1660), (68, .iload_n 1, 1, 0, 0, 0, 0), (69, .dup2, 1, 0, 0, 0, 0), (70, .iaload, 1, 0, 0, 0, 0), (71, .iconst 1, 1, 0, 0, 0, 0), (72, .iadd, 1, 0, 0, 0, 0), (73, .iastore, 1, 0, 0, 0, 0), (74, .aload_n 0, 1, 0, 0, 0, 0), (75, .getfield 16, 3, 11, 4, 0, 1660), (78, .iload_n 1, 1, 0, 0, 0, 0), (79, .iaload, 1, 0, 0, 0, 0)],
  [(80, .iconst 1, 1, 0, 0, 0, 0), (81, .isub, 1, 0, 0, 0, 0), (82, .ireturn, 1, 0, 0, 0, 0)]], [], 1, 2)
def qc_X11_head : qCd := ([[(0, .aload_n 0, 1, 0, 0, 0, 0), (1, .iload_n 1, 1, 0, 0, 0, 0), (2, .invokestatic 247, 3, 155, 1, 112, 2000), (5, .ifCond .ne 7, 3, 12, 0, 0, 0), (8, .iconst 1, 1, 0, 0, 0, 0), (9, .goto 41, 3, 50, 0, 0, 0), (12, .iload_n 2, 1, 0, 0, 0, 0), (13, .iconst 0, 1, 0, 0, 0, 0), (14, .iconst 1, 1, 0, 0, 0, 0), (15, .invokestatic 243, 3, 152, 3, 112, 1970)],
  [(18, .ifCond .eq 12, 3, 30, 0, 0, 0), (21, .iload_n 3, 1, 0, 0, 0, 0), (22, .iconst 1, 1, 0, 0, 0, 0), (23, .iconst 3, 1, 0, 0, 0, 0), (24, .invokestatic 243, 3, 152, 3, 112, 1970), (27, .ifCond .ne 7, 3, 34, 0, 0, 0), (30, .iconst 2, 1, 0, 0, 0, 0), (31, .goto 19, 3, 50, 0, 0, 0)],
  [(34, .aload_n 0, 1, 0, 0, 0, 0), (35, .getfield 16, 3, 11, 4, 0, 1660), (38, .iload_n 1, 1, 0, 0, 0, 0), (39, .iaload, 1, 0, 0, 0, 0), (40, .bipush 10, 2, 0, 0, 0, 0), (42, .if_icmp .ne 7, 3, 49, 0, 0, 0), (45, .iconst 3, 1, 0, 0, 0, 0), (46, .goto 4, 3, 50, 0, 0, 0)],
  [(49, .iconst 0, 1, 0, 0, 0, 0), (50, .putfield 240, 3, 11, 0, 0, 1656), (53, .aload_n 0, 1, 0, 0, 0, 0), (54, .getfield 240, 3, 11, 0, 0, 1656), (57, .ifCond .le 5, 3, 62, 0, 0, 0), (60, .iconst 0, 1, 0, 0, 0, 0), (61, .ireturn, 1, 0, 0, 0, 0), (62, .aload_n 0, 1, 0, 0, 0, 0), (63, .getfield 20, 3, 11, 5, 0, 1661)],
  [(66, .bipush 10, 2, 0, 0, 0, 0), (68, .iload_n 1, 1, 0, 0, 0, 0), (69, .imul, 1, 0, 0, 0, 0), (70, .aload_n 0, 1, 0, 0, 0, 0), (71, .getfield 16, 3, 11, 4, 0, 1660), (74, .iload_n 1, 1, 0, 0, 0, 0), (75, .iaload, 1, 0, 0, 0, 0), (76, .iadd, 1, 0, 0, 0, 0), (77, .iconst 1, 1, 0, 0, 0, 0), (78, .bastore, 1, 0, 0, 0, 0), (79, .aload_n 0, 1, 0, 0, 0, 0)],
  [(80, .getfield 24, 3, 11, 6, 0, 1662), (83, .bipush 10, 2, 0, 0, 0, 0), (85, .iload_n 1, 1, 0, 0, 0, 0), (86, .imul, 1, 0, 0, 0, 0), (87, .aload_n 0, 1, 0, 0, 0, 0), (88, .getfield 16, 3, 11, 4, 0, 1660), (91, .iload_n 1, 1, 0, 0, 0, 0), (92, .iaload, 1, 0, 0, 0, 0), (93, .iadd, 1, 0, 0, 0, 0), (94, .iload_n 3, 1, 0, 0, 0, 0), (95, .iastore, 1, 0, 0, 0, 0)],
  [(96, .aload_n 0, 1, 0, 0, 0, 0), (97, .getfield 16, 3, 11, 4, 0, 1660), (100, .iload_n 1, 1, 0, 0, 0, 0), (101, .dup2, 1, 0, 0, 0, 0), (102, .iaload, 1, 0, 0, 0, 0), (103, .iconst 1, 1, 0, 0, 0, 0), (104, .iadd, 1, 0, 0, 0, 0), (105, .iastore, 1, 0, 0, 0, 0), (106, .aload_n 0, 1, 0, 0, 0, 0), (107, .iconst 0, 1, 0, 0, 0, 0), (108, .putfield 255, 3, 11, 22, 0, 1678), (111, .aload_n 0, 1, 0, 0, 0, 0)],
  [(112, .getfield 16, 3, 11, 4, 0, 1660), (115, .iload_n 1, 1, 0, 0, 0, 0), (116, .iaload, 1, 0, 0, 0, 0), (117, .iconst 1, 1, 0, 0, 0, 0), (118, .isub, 1, 0, 0, 0, 0), (119, .ireturn, 1, 0, 0, 0, 0)]], [], 1, 4)
def qc_X11_replace : qCd := ([[(0, .aload_n 0, 1, 0, 0, 0, 0), (1, .aload_n 0, 1, 0, 0, 0, 0), (2, .iload_n 1, 1, 0, 0, 0, 0), (3, .iload_n 2, 1, 0, 0, 0, 0), (4, .invokevirtual 251, 3, 156, 3, 110, 2034), (7, .ifCond .ne 7, 3, 14, 0, 0, 0), (10, .iconst 1, 1, 0, 0, 0, 0), (11, .goto 31, 3, 42, 0, 0, 0), (14, .aload_n 0, 1, 0, 0, 0, 0), (15, .getfield 20, 3, 11, 5, 0, 1661)],
  [(18, .bipush 10, 2, 0, 0, 0, 0), (20, .iload_n 1, 1, 0, 0, 0, 0), (21, .imul, 1, 0, 0, 0, 0), (22, .iload_n 2, 1, 0, 0, 0, 0), (23, .iadd, 1, 0, 0, 0, 0), (24, .baload, 1, 0, 0, 0, 0), (25, .ifCond .ne 12, 3, 37, 0, 0, 0), (28, .aload_n 0, 1, 0, 0, 0, 0), (29, .iload_n 1, 1, 0, 0, 0, 0), (30, .iload_n 2, 1, 0, 0, 0, 0), (31, .invokevirtual 286, 3, 169, 3, 110, 2003)],
  [(34, .ifCond .ne 7, 3, 41, 0, 0, 0), (37, .iconst 2, 1, 0, 0, 0, 0), (38, .goto 4, 3, 42, 0, 0, 0), (41, .iconst 0, 1, 0, 0, 0, 0), (42, .putfield 240, 3, 11, 0, 0, 1656), (45, .aload_n 0, 1, 0, 0, 0, 0), (46, .getfield 240, 3, 11, 0, 0, 1656)],
  [(49, .ifCond .le 5, 3, 54, 0, 0, 0), (52, .iconst 0, 1, 0, 0, 0, 0), (53, .ireturn, 1, 0, 0, 0, 0), (54, .aload_n 0, 1, 0, 0, 0, 0), (55, .getfield 27, 3, 11, 7, 0, 1663), (58, .bipush 10, 2, 0, 0, 0, 0), (60, .iload_n 1, 1, 0, 0, 0, 0), (61, .imul, 1, 0, 0, 0, 0), (62, .iload_n 2, 1, 0, 0, 0, 0), (63, .iadd, 1, 0, 0, 0, 0)],
  [(64, .iaload, 1, 0, 0, 0, 0), (65, .istore_n 3, 1, 0, 0, 0, 0), (66, .aload_n 0, 1, 0, 0, 0, 0), (67, .bipush 10, 2, 0, 0, 0, 0), (69, .iload_n 1, 1, 0, 0, 0, 0), (70, .imul, 1, 0, 0, 0, 0), (71, .iload_n 2, 1, 0, 0, 0, 0), (72, .iadd, 1, 0, 0, 0, 0), (73, .invokevirtual 289, 3, 170, 2, 110, 2022), (76, .aload_n 0, 1, 0, 0, 0, 0), (77, .getfield 30, 3, 11, 8, 0, 1664)],
  [(80, .bipush 10, 2, 0, 0, 0, 0), (82, .iload_n 1, 1, 0, 0, 0, 0), (83, .imul, 1, 0, 0, 0, 0), (84, .iload_n 2, 1, 0, 0, 0, 0), (85, .iadd, 1, 0, 0, 0, 0), (86, .dup2, 1, 0, 0, 0, 0), (87, .iaload, 1, 0, 0, 0, 0), (88, .iconst 1, 1, 0, 0, 0, 0), (89, .iadd, 1, 0, 0, 0, 0), (90, .iastore, 1, 0, 0, 0, 0), (91, .iload_n 3, 1, 0, 0, 0, 0), (92, .ireturn, 1, 0, 0, 0, 0)]], [], 1, 4)
def qc_X11_seeAlso : qCd := ([[(0, .aload_n 0, 1, 0, 0, 0, 0), (1, .iload_n 1, 1, 0, 0, 0, 0), (2, .iconst 0, 1, 0, 0, 0, 0), (3, .bipush 9, 2, 0, 0, 0, 0), (5, .invokestatic 243, 3, 152, 3, 112, 1970), (8, .ifCond .ne 7, 3, 15, 0, 0, 0), (11, .iconst 1, 1, 0, 0, 0, 0), (12, .goto 23, 3, 35, 0, 0, 0), (15, .iload_n 2, 1, 0, 0, 0, 0)],
  [(16, .iconst (-1), 1, 0, 0, 0, 0), (17, .bipush 9, 2, 0, 0, 0, 0), (19, .invokestatic 243, 3, 152, 3, 112, 1970), (22, .ifCond .eq 8, 3, 30, 0, 0, 0), (25, .iload_n 2, 1, 0, 0, 0, 0), (26, .iload_n 1, 1, 0, 0, 0, 0), (27, .if_icmp .ne 7, 3, 34, 0, 0, 0), (30, .iconst 2, 1, 0, 0, 0, 0), (31, .goto 4, 3, 35, 0, 0, 0)],
  [(34, .iconst 0, 1, 0, 0, 0, 0), (35, .putfield 240, 3, 11, 0, 0, 1656), (38, .aload_n 0, 1, 0, 0, 0, 0), (39, .getfield 240, 3, 11, 0, 0, 1656), (42, .ifCond .le 5, 3, 47, 0, 0, 0), (45, .iconst 0, 1, 0, 0, 0, 0), (46, .ireturn, 1, 0, 0, 0, 0), (47, .aload_n 0, 1, 0, 0, 0, 0)],
  [(48, .getfield 51, 3, 11, 16, 0, 1672), (51, .iload_n 1, 1, 0, 0, 0, 0), (52, .iaload, 1, 0, 0, 0, 0), (53, .istore_n 3, 1, 0, 0, 0, 0), (54, .aload_n 0, 1, 0, 0, 0, 0), (55, .getfield 51, 3, 11, 16, 0, 1672), (58, .iload_n 1, 1, 0, 0, 0, 0), (59, .iload_n 2, 1, 0, 0, 0, 0), (60, .iastore, 1, 0, 0, 0, 0), (61, .aload_n 0, 1, 0, 0, 0, 0), (62, .iconst 0, 1, 0, 0, 0, 0), (63, .putfield 255, 3, 11, 22, 0, 1678)],
  [(66, .iload_n 3, 1, 0, 0, 0, 0), (67, .ireturn, 1, 0, 0, 0, 0)]], [], 1, 4)
def qc_X11_wide : qCd := ([[(0, .aload_n 0, 1, 0, 0, 0, 0), (1, .getfield 33, 3, 11, 9, 0, 1665), (4, .iload_n 1, 1, 0, 0, 0, 0), (5, .iaload, 1, 0, 0, 0, 0), (6, .aload_n 0, 1, 0, 0, 0, 0), (7, .getfield 54, 3, 11, 17, 0, 1673), (10, .iload_n 1, 1, 0, 0, 0, 0), (11, .iaload, 1, 0, 0, 0, 0), (12, .iadd, 1, 0, 0, 0, 0), (13, .ireturn, 1, 0, 0, 0, 0)]], [], 1, 2)
def qc_X11_isBrokenSo : qCd := ([[(0, .aload_n 0, 1, 0, 0, 0, 0), (1, .getfield 63, 3, 11, 24, 0, 1680), (4, .iload_n 1, 1, 0, 0, 0, 0), (5, .iaload, 1, 0, 0, 0, 0), (6, .aload_n 0, 1, 0, 0, 0, 0), (7, .getfield 7, 3, 11, 1, 0, 1657), (10, .if_icmp .ne 7, 3, 17, 0, 0, 0), (13, .iconst 1, 1, 0, 0, 0, 0), (14, .goto 4, 3, 18, 0, 0, 0)],
  [(17, .iconst 0, 1, 0, 0, 0, 0), (18, .istore_n 2, 1, 0, 0, 0, 0), (19, .iconst 0, 1, 0, 0, 0, 0), (20, .istore_n 3, 1, 0, 0, 0, 0), (21, .iload_n 3, 1, 0, 0, 0, 0), (22, .aload_n 0, 1, 0, 0, 0, 0), (23, .getfield 27, 3, 11, 7, 0, 1663), (26, .iload_n 1, 1, 0, 0, 0, 0), (27, .iaload, 1, 0, 0, 0, 0), (28, .if_icmp .ge 43, 3, 71, 0, 0, 0), (31, .iload_n 2, 1, 0, 0, 0, 0)],
  [(32, .ifCond .eq 31, 3, 63, 0, 0, 0), (35, .aload_n 0, 1, 0, 0, 0, 0), (36, .getfield 66, 3, 11, 25, 0, 1681), (39, .bipush 20, 2, 0, 0, 0, 0), (41, .iload_n 1, 1, 0, 0, 0, 0), (42, .imul, 1, 0, 0, 0, 0), (43, .iload_n 3, 1, 0, 0, 0, 0), (44, .iadd, 1, 0, 0, 0, 0), (45, .iaload, 1, 0, 0, 0, 0), (46, .aload_n 0, 1, 0, 0, 0, 0), (47, .bipush 20, 2, 0, 0, 0, 0)],
  [(49, .iload_n 1, 1, 0, 0, 0, 0), (50, .imul, 1, 0, 0, 0, 0), (51, .iload_n 3, 1, 0, 0, 0, 0), (52, .iadd, 1, 0, 0, 0, 0), (53, .invokevirtual 293, 3, 175, 2, 110, 2089), (56, .if_icmp .ne 7, 3, 63, 0, 0, 0), (59, .iconst 1, 1, 0, 0, 0, 0), (60, .goto 4, 3, 64, 0, 0, 0), (63, .iconst 0, 1, 0, 0, 0, 0)],
  [(64, .istore_n 2, 1, 0, 0, 0, 0), (65, .iinc 3 1, 3, 0, 0, 0, 0), (68, .goto (-47), 3, 21, 0, 0, 0), (71, .iload_n 2, 1, 0, 0, 0, 0), (72, .ireturn, 1, 0, 0, 0, 0)]], [], 2, 4)
def qc_X11_costOfLine : qCd := ([[(0, .iload_n 2, 1, 0, 0, 0, 0), (1, .aload_n 0, 1, 0, 0, 0, 0), (2, .getfield 7, 3, 11, 1, 0, 1657), (5, .if_icmp .le 24, 3, 29, 0, 0, 0), (8, .iload_n 1, 1, 0, 0, 0, 0), (9, .iconst 1, 1, 0, 0, 0, 0), (10, .if_icmp .le 9, 3, 19, 0, 0, 0), (13, .ldc_w 297, 3, 536870912, 0, 0, 2097)],
  [(16, .goto 12, 3, 28, 0, 0, 0), (19, .bipush 100, 2, 0, 0, 0, 0), (21, .iload_n 2, 1, 0, 0, 0, 0), (22, .aload_n 0, 1, 0, 0, 0, 0), (23, .getfield 7, 3, 11, 1, 0, 1657), (26, .isub, 1, 0, 0, 0, 0), (27, .imul, 1, 0, 0, 0, 0), (28, .ireturn, 1, 0, 0, 0, 0), (29, .iload_n 3, 1, 0, 0, 0, 0), (30, .ifCond .eq 7, 3, 37, 0, 0, 0)],
  [(33, .iconst 0, 1, 0, 0, 0, 0), (34, .goto 16, 3, 50, 0, 0, 0), (37, .aload_n 0, 1, 0, 0, 0, 0), (38, .getfield 7, 3, 11, 1, 0, 1657), (41, .iload_n 2, 1, 0, 0, 0, 0), (42, .isub, 1, 0, 0, 0, 0), (43, .aload_n 0, 1, 0, 0, 0, 0), (44, .getfield 7, 3, 11, 1, 0, 1657), (47, .iload_n 2, 1, 0, 0, 0, 0)],
  [(48, .isub, 1, 0, 0, 0, 0), (49, .imul, 1, 0, 0, 0, 0), (50, .ireturn, 1, 0, 0, 0, 0)]], [], 1, 4)
def qc_X11_breaks : qCd := ([[(0, .aload_n 0, 1, 0, 0, 0, 0), (1, .getfield 27, 3, 11, 7, 0, 1663), (4, .iload_n 1, 1, 0, 0, 0, 0), (5, .iaload, 1, 0, 0, 0, 0), (6, .istore_n 2, 1, 0, 0, 0, 0), (7, .aload_n 0, 1, 0, 0, 0, 0), (8, .getfield 78, 3, 11, 29, 0, 1685), (11, .iload_n 2, 1, 0, 0, 0, 0), (12, .iconst 0, 1, 0, 0, 0, 0), (13, .iastore, 1, 0, 0, 0, 0), (14, .aload_n 0, 1, 0, 0, 0, 0), (15, .getfield 81, 3, 11, 30, 0, 1686)],
  [(18, .iload_n 2, 1, 0, 0, 0, 0), (19, .iconst 0, 1, 0, 0, 0, 0), (20, .iastore, 1, 0, 0, 0, 0), (21, .iload_n 2, 1, 0, 0, 0, 0), (22, .iconst 1, 1, 0, 0, 0, 0), (23, .isub, 1, 0, 0, 0, 0), (24, .istore_n 3, 1, 0, 0, 0, 0), (25, .iload_n 3, 1, 0, 0, 0, 0), (26, .ifCond .lt 217, 3, 243, 0, 0, 0), (29, .aload_n 0, 1, 0, 0, 0, 0), (30, .getfield 78, 3, 11, 29, 0, 1685)],
  [(33, .iload_n 3, 1, 0, 0, 0, 0), (34, .ldc_w 297, 3, 536870912, 0, 0, 2097), (37, .iastore, 1, 0, 0, 0, 0), (38, .iconst (-1), 1, 0, 0, 0, 0), (39, .istore 4, 2, 0, 0, 0, 0), (41, .iload_n 3, 1, 0, 0, 0, 0), (42, .iconst 1, 1, 0, 0, 0, 0), (43, .iadd, 1, 0, 0, 0, 0), (44, .istore 5, 2, 0, 0, 0, 0), (46, .iload 5, 2, 0, 0, 0, 0)],
  [(48, .iload_n 2, 1, 0, 0, 0, 0), (49, .if_icmp .gt 188, 3, 237, 0, 0, 0), (52, .iload 4, 2, 0, 0, 0, 0), (54, .aload_n 0, 1, 0, 0, 0, 0), (55, .bipush 20, 2, 0, 0, 0, 0), (57, .iload_n 1, 1, 0, 0, 0, 0), (58, .imul, 1, 0, 0, 0, 0), (59, .iload 5, 2, 0, 0, 0, 0), (61, .iadd, 1, 0, 0, 0, 0), (62, .iconst 1, 1, 0, 0, 0, 0), (63, .isub, 1, 0, 0, 0, 0)],
  [(64, .invokevirtual 293, 3, 175, 2, 110, 2089), (67, .iconst 1, 1, 0, 0, 0, 0), (68, .iadd, 1, 0, 0, 0, 0), (69, .iadd, 1, 0, 0, 0, 0), (70, .istore 4, 2, 0, 0, 0, 0), (72, .aload_n 0, 1, 0, 0, 0, 0), (73, .iload 5, 2, 0, 0, 0, 0), (75, .iload_n 3, 1, 0, 0, 0, 0), (76, .isub, 1, 0, 0, 0, 0), (77, .iload 4, 2, 0, 0, 0, 0), (79, .iload 5, 2, 0, 0, 0, 0)],
  [(81, .iload_n 2, 1, 0, 0, 0, 0), (82, .if_icmp .ne 7, 3, 89, 0, 0, 0), (85, .iconst 1, 1, 0, 0, 0, 0), (86, .goto 4, 3, 90, 0, 0, 0), (89, .iconst 0, 1, 0, 0, 0, 0), (90, .invokevirtual 298, 3, 177, 4, 110, 2098), (93, .aload_n 0, 1, 0, 0, 0, 0), (94, .getfield 78, 3, 11, 29, 0, 1685)],
  [(97, .iload 5, 2, 0, 0, 0, 0), (99, .iaload, 1, 0, 0, 0, 0), (100, .iadd, 1, 0, 0, 0, 0), (101, .istore 6, 2, 0, 0, 0, 0), (103, .iload 6, 2, 0, 0, 0, 0), (105, .aload_n 0, 1, 0, 0, 0, 0), (106, .getfield 78, 3, 11, 29, 0, 1685), (109, .iload_n 3, 1, 0, 0, 0, 0), (110, .iaload, 1, 0, 0, 0, 0), (111, .if_icmp .lt 40, 3, 151, 0, 0, 0)],
  [(114, .iload 6, 2, 0, 0, 0, 0), (116, .aload_n 0, 1, 0, 0, 0, 0), (117, .getfield 78, 3, 11, 29, 0, 1685), (120, .iload_n 3, 1, 0, 0, 0, 0), (121, .iaload, 1, 0, 0, 0, 0), (122, .if_icmp .ne 33, 3, 155, 0, 0, 0), (125, .iload 6, 2, 0, 0, 0, 0), (127, .ldc_w 297, 3, 536870912, 0, 0, 2097)],
  [(130, .if_icmp .ge 25, 3, 155, 0, 0, 0), (133, .aload_n 0, 1, 0, 0, 0, 0), (134, .getfield 81, 3, 11, 30, 0, 1686), (137, .iload 5, 2, 0, 0, 0, 0), (139, .iaload, 1, 0, 0, 0, 0), (140, .iconst 1, 1, 0, 0, 0, 0), (141, .iadd, 1, 0, 0, 0, 0), (142, .aload_n 0, 1, 0, 0, 0, 0), (143, .getfield 81, 3, 11, 30, 0, 1686)],
  [(146, .iload_n 3, 1, 0, 0, 0, 0), (147, .iaload, 1, 0, 0, 0, 0), (148, .if_icmp .gt 7, 3, 155, 0, 0, 0), (151, .iconst 1, 1, 0, 0, 0, 0), (152, .goto 4, 3, 156, 0, 0, 0), (155, .iconst 0, 1, 0, 0, 0, 0), (156, .istore 7, 2, 0, 0, 0, 0), (158, .aload_n 0, 1, 0, 0, 0, 0), (159, .getfield 81, 3, 11, 30, 0, 1686)],
  [(162, .iload_n 3, 1, 0, 0, 0, 0), (163, .iload 7, 2, 0, 0, 0, 0), (165, .ifCond .eq 15, 3, 180, 0, 0, 0), (168, .aload_n 0, 1, 0, 0, 0, 0), (169, .getfield 81, 3, 11, 30, 0, 1686), (172, .iload 5, 2, 0, 0, 0, 0), (174, .iaload, 1, 0, 0, 0, 0), (175, .iconst 1, 1, 0, 0, 0, 0)],
  [(176, .iadd, 1, 0, 0, 0, 0), (177, .goto 9, 3, 186, 0, 0, 0), (180, .aload_n 0, 1, 0, 0, 0, 0), (181, .getfield 81, 3, 11, 30, 0, 1686), (184, .iload_n 3, 1, 0, 0, 0, 0), (185, .iaload, 1, 0, 0, 0, 0), (186, .iastore, 1, 0, 0, 0, 0), (187, .aload_n 0, 1, 0, 0, 0, 0), (188, .getfield 84, 3, 11, 31, 0, 1687), (191, .iload_n 3, 1, 0, 0, 0, 0)],
  [(192, .iload 7, 2, 0, 0, 0, 0), (194, .ifCond .eq 8, 3, 202, 0, 0, 0), (197, .iload 5, 2, 0, 0, 0, 0), (199, .goto 9, 3, 208, 0, 0, 0), (202, .aload_n 0, 1, 0, 0, 0, 0), (203, .getfield 84, 3, 11, 31, 0, 1687), (206, .iload_n 3, 1, 0, 0, 0, 0), (207, .iaload, 1, 0, 0, 0, 0)],
  [(208, .iastore, 1, 0, 0, 0, 0), (209, .aload_n 0, 1, 0, 0, 0, 0), (210, .getfield 78, 3, 11, 29, 0, 1685), (213, .iload_n 3, 1, 0, 0, 0, 0), (214, .iload 7, 2, 0, 0, 0, 0), (216, .ifCond .eq 8, 3, 224, 0, 0, 0), (219, .iload 6, 2, 0, 0, 0, 0), (221, .goto 9, 3, 230, 0, 0, 0)],
  [(224, .aload_n 0, 1, 0, 0, 0, 0), (225, .getfield 78, 3, 11, 29, 0, 1685), (228, .iload_n 3, 1, 0, 0, 0, 0), (229, .iaload, 1, 0, 0, 0, 0), (230, .iastore, 1, 0, 0, 0, 0), (231, .iinc 5 1, 3, 0, 0, 0, 0), (234, .goto (-188), 3, 46, 0, 0, 0), (237, .iinc 3 (-1), 3, 0, 0, 0, 0)],
  [(240, .goto (-215), 3, 25, 0, 0, 0), (243, .aload_n 0, 1, 0, 0, 0, 0), (244, .getfield 69, 3, 11, 26, 0, 1682), (247, .iload_n 1, 1, 0, 0, 0, 0), (248, .iconst 0, 1, 0, 0, 0, 0), (249, .iastore, 1, 0, 0, 0, 0), (250, .iconst 0, 1, 0, 0, 0, 0), (251, .istore_n 3, 1, 0, 0, 0, 0), (252, .iload_n 3, 1, 0, 0, 0, 0), (253, .iload_n 2, 1, 0, 0, 0, 0), (254, .if_icmp .ge 45, 3, 299, 0, 0, 0)],
  [(257, .aload_n 0, 1, 0, 0, 0, 0), (258, .getfield 72, 3, 11, 27, 0, 1683), (261, .bipush 20, 2, 0, 0, 0, 0), (263, .iload_n 1, 1, 0, 0, 0, 0), (264, .imul, 1, 0, 0, 0, 0), (265, .aload_n 0, 1, 0, 0, 0, 0), (266, .getfield 69, 3, 11, 26, 0, 1682), (269, .iload_n 1, 1, 0, 0, 0, 0), (270, .iaload, 1, 0, 0, 0, 0), (271, .iadd, 1, 0, 0, 0, 0)],
  [(272, .aload_n 0, 1, 0, 0, 0, 0), (273, .getfield 84, 3, 11, 31, 0, 1687), (276, .iload_n 3, 1, 0, 0, 0, 0), (277, .iaload, 1, 0, 0, 0, 0), (278, .iastore, 1, 0, 0, 0, 0), (279, .aload_n 0, 1, 0, 0, 0, 0), (280, .getfield 69, 3, 11, 26, 0, 1682), (283, .iload_n 1, 1, 0, 0, 0, 0), (284, .dup2, 1, 0, 0, 0, 0), (285, .iaload, 1, 0, 0, 0, 0), (286, .iconst 1, 1, 0, 0, 0, 0), (287, .iadd, 1, 0, 0, 0, 0)],
  [(288, .iastore, 1, 0, 0, 0, 0), (289, .aload_n 0, 1, 0, 0, 0, 0), (290, .getfield 84, 3, 11, 31, 0, 1687), (293, .iload_n 3, 1, 0, 0, 0, 0), (294, .iaload, 1, 0, 0, 0, 0), (295, .istore_n 3, 1, 0, 0, 0, 0), (296, .goto (-44), 3, 252, 0, 0, 0), (299, .aload_n 0, 1, 0, 0, 0, 0), (300, .getfield 75, 3, 11, 28, 0, 1684), (303, .iload_n 1, 1, 0, 0, 0, 0)],
  [(304, .aload_n 0, 1, 0, 0, 0, 0), (305, .getfield 78, 3, 11, 29, 0, 1685), (308, .iconst 0, 1, 0, 0, 0, 0), (309, .iaload, 1, 0, 0, 0, 0), (310, .iastore, 1, 0, 0, 0, 0), (311, .aload_n 0, 1, 0, 0, 0, 0), (312, .getfield 63, 3, 11, 24, 0, 1680), (315, .iload_n 1, 1, 0, 0, 0, 0), (316, .aload_n 0, 1, 0, 0, 0, 0), (317, .getfield 7, 3, 11, 1, 0, 1657)],
  [(320, .iastore, 1, 0, 0, 0, 0), (321, .iconst 0, 1, 0, 0, 0, 0), (322, .istore_n 3, 1, 0, 0, 0, 0), (323, .iload_n 3, 1, 0, 0, 0, 0), (324, .iload_n 2, 1, 0, 0, 0, 0), (325, .if_icmp .ge 30, 3, 355, 0, 0, 0), (328, .aload_n 0, 1, 0, 0, 0, 0), (329, .getfield 66, 3, 11, 25, 0, 1681), (332, .bipush 20, 2, 0, 0, 0, 0), (334, .iload_n 1, 1, 0, 0, 0, 0), (335, .imul, 1, 0, 0, 0, 0)],
  [(336, .iload_n 3, 1, 0, 0, 0, 0), (337, .iadd, 1, 0, 0, 0, 0), (338, .aload_n 0, 1, 0, 0, 0, 0), (339, .bipush 20, 2, 0, 0, 0, 0), (341, .iload_n 1, 1, 0, 0, 0, 0), (342, .imul, 1, 0, 0, 0, 0), (343, .iload_n 3, 1, 0, 0, 0, 0), (344, .iadd, 1, 0, 0, 0, 0), (345, .invokevirtual 293, 3, 175, 2, 110, 2089), (348, .iastore, 1, 0, 0, 0, 0), (349, .iinc 3 1, 3, 0, 0, 0, 0)],
  [(352, .goto (-29), 3, 323, 0, 0, 0), (355, .aload_n 0, 1, 0, 0, 0, 0), (356, .dup, 1, 0, 0, 0, 0), (357, .getfield 302, 3, 11, 23, 0, 1679), (360, .iconst 1, 1, 0, 0, 0, 0), (361, .iadd, 1, 0, 0, 0, 0), (362, .putfield 302, 3, 11, 23, 0, 1679), (365, .return_, 1, 0, 0, 0, 0)]], [], 0, 8)
def qc_X11_addsRow : qCd := ([[(0, .bipush 70, 2, 0, 0, 0, 0), (2, .iload_n 1, 1, 0, 0, 0, 0), (3, .imul, 1, 0, 0, 0, 0), (4, .aload_n 0, 1, 0, 0, 0, 0), (5, .getfield 87, 3, 11, 32, 0, 1688), (8, .iload_n 1, 1, 0, 0, 0, 0), (9, .iaload, 1, 0, 0, 0, 0), (10, .iadd, 1, 0, 0, 0, 0), (11, .istore 6, 2, 0, 0, 0, 0), (13, .aload_n 0, 1, 0, 0, 0, 0), (14, .getfield 90, 3, 11, 33, 0, 1689)],
  [(17, .iload 6, 2, 0, 0, 0, 0), (19, .iload_n 2, 1, 0, 0, 0, 0), (20, .iastore, 1, 0, 0, 0, 0), (21, .aload_n 0, 1, 0, 0, 0, 0), (22, .getfield 93, 3, 11, 34, 0, 1690), (25, .iload 6, 2, 0, 0, 0, 0), (27, .iload_n 3, 1, 0, 0, 0, 0), (28, .iastore, 1, 0, 0, 0, 0), (29, .aload_n 0, 1, 0, 0, 0, 0), (30, .getfield 96, 3, 11, 35, 0, 1691)],
  [(33, .iload 6, 2, 0, 0, 0, 0), (35, .iload 4, 2, 0, 0, 0, 0), (37, .iastore, 1, 0, 0, 0, 0), (38, .aload_n 0, 1, 0, 0, 0, 0), (39, .getfield 99, 3, 11, 36, 0, 1692), (42, .iload 6, 2, 0, 0, 0, 0), (44, .iload 5, 2, 0, 0, 0, 0), (46, .iastore, 1, 0, 0, 0, 0), (47, .iload 4, 2, 0, 0, 0, 0)],
  [(49, .istore 7, 2, 0, 0, 0, 0), (51, .iload 7, 2, 0, 0, 0, 0), (53, .iload 5, 2, 0, 0, 0, 0), (55, .if_icmp .ge 27, 3, 82, 0, 0, 0), (58, .aload_n 0, 1, 0, 0, 0, 0), (59, .getfield 105, 3, 11, 38, 0, 1694), (62, .iload_n 1, 1, 0, 0, 0, 0), (63, .iload_n 2, 1, 0, 0, 0, 0)],
  [(64, .iload 7, 2, 0, 0, 0, 0), (66, .invokestatic 272, 3, 158, 3, 112, 2011), (69, .aload_n 0, 1, 0, 0, 0, 0), (70, .getfield 87, 3, 11, 32, 0, 1688), (73, .iload_n 1, 1, 0, 0, 0, 0), (74, .iaload, 1, 0, 0, 0, 0), (75, .iastore, 1, 0, 0, 0, 0), (76, .iinc 7 1, 3, 0, 0, 0, 0), (79, .goto (-28), 3, 51, 0, 0, 0)],
  [(82, .aload_n 0, 1, 0, 0, 0, 0), (83, .getfield 87, 3, 11, 32, 0, 1688), (86, .iload_n 1, 1, 0, 0, 0, 0), (87, .dup2, 1, 0, 0, 0, 0), (88, .iaload, 1, 0, 0, 0, 0), (89, .iconst 1, 1, 0, 0, 0, 0), (90, .iadd, 1, 0, 0, 0, 0), (91, .iastore, 1, 0, 0, 0, 0), (92, .return_, 1, 0, 0, 0, 0)]], [], 0, 8)
def qc_X11_laysRows : qCd := ([[(0, .aload_n 0, 1, 0, 0, 0, 0), (1, .getfield 87, 3, 11, 32, 0, 1688), (4, .iload_n 1, 1, 0, 0, 0, 0), (5, .iconst 0, 1, 0, 0, 0, 0), (6, .iastore, 1, 0, 0, 0, 0), (7, .iconst 0, 1, 0, 0, 0, 0), (8, .istore_n 2, 1, 0, 0, 0, 0), (9, .iload_n 2, 1, 0, 0, 0, 0), (10, .aload_n 0, 1, 0, 0, 0, 0), (11, .getfield 16, 3, 11, 4, 0, 1660), (14, .iload_n 1, 1, 0, 0, 0, 0), (15, .iaload, 1, 0, 0, 0, 0)],
  [(16, .if_icmp .ge 106, 3, 122, 0, 0, 0), (19, .bipush 10, 2, 0, 0, 0, 0), (21, .iload_n 1, 1, 0, 0, 0, 0), (22, .imul, 1, 0, 0, 0, 0), (23, .iload_n 2, 1, 0, 0, 0, 0), (24, .iadd, 1, 0, 0, 0, 0), (25, .istore_n 3, 1, 0, 0, 0, 0), (26, .aload_n 0, 1, 0, 0, 0, 0), (27, .getfield 20, 3, 11, 5, 0, 1661), (30, .iload_n 3, 1, 0, 0, 0, 0), (31, .baload, 1, 0, 0, 0, 0)],
  [(32, .ifCond .eq 12, 3, 44, 0, 0, 0), (35, .aload_n 0, 1, 0, 0, 0, 0), (36, .iload_n 1, 1, 0, 0, 0, 0), (37, .iload_n 2, 1, 0, 0, 0, 0), (38, .iconst 0, 1, 0, 0, 0, 0), (39, .iconst 0, 1, 0, 0, 0, 0), (40, .iconst 0, 1, 0, 0, 0, 0), (41, .invokevirtual 305, 3, 179, 6, 110, 2106), (44, .iconst 0, 1, 0, 0, 0, 0), (45, .istore 4, 2, 0, 0, 0, 0), (47, .iload 4, 2, 0, 0, 0, 0)],
  [(49, .aload_n 0, 1, 0, 0, 0, 0), (50, .getfield 69, 3, 11, 26, 0, 1682), (53, .iload_n 3, 1, 0, 0, 0, 0), (54, .iaload, 1, 0, 0, 0, 0), (55, .if_icmp .ge 61, 3, 116, 0, 0, 0), (58, .aload_n 0, 1, 0, 0, 0, 0), (59, .getfield 20, 3, 11, 5, 0, 1661), (62, .iload_n 3, 1, 0, 0, 0, 0), (63, .baload, 1, 0, 0, 0, 0)],
  [(64, .ifCond .ne 52, 3, 116, 0, 0, 0), (67, .aload_n 0, 1, 0, 0, 0, 0), (68, .iload_n 1, 1, 0, 0, 0, 0), (69, .iload_n 2, 1, 0, 0, 0, 0), (70, .iload 4, 2, 0, 0, 0, 0), (72, .iload 4, 2, 0, 0, 0, 0), (74, .ifCond .ne 7, 3, 81, 0, 0, 0), (77, .iconst 0, 1, 0, 0, 0, 0), (78, .goto 17, 3, 95, 0, 0, 0)],
  [(81, .aload_n 0, 1, 0, 0, 0, 0), (82, .getfield 72, 3, 11, 27, 0, 1683), (85, .bipush 20, 2, 0, 0, 0, 0), (87, .iload_n 3, 1, 0, 0, 0, 0), (88, .imul, 1, 0, 0, 0, 0), (89, .iload 4, 2, 0, 0, 0, 0), (91, .iadd, 1, 0, 0, 0, 0), (92, .iconst 1, 1, 0, 0, 0, 0), (93, .isub, 1, 0, 0, 0, 0), (94, .iaload, 1, 0, 0, 0, 0), (95, .aload_n 0, 1, 0, 0, 0, 0)],
  [(96, .getfield 72, 3, 11, 27, 0, 1683), (99, .bipush 20, 2, 0, 0, 0, 0), (101, .iload_n 3, 1, 0, 0, 0, 0), (102, .imul, 1, 0, 0, 0, 0), (103, .iload 4, 2, 0, 0, 0, 0), (105, .iadd, 1, 0, 0, 0, 0), (106, .iaload, 1, 0, 0, 0, 0), (107, .invokevirtual 305, 3, 179, 6, 110, 2106), (110, .iinc 4 1, 3, 0, 0, 0, 0)],
  [(113, .goto (-66), 3, 47, 0, 0, 0), (116, .iinc 2 1, 3, 0, 0, 0, 0), (119, .goto (-110), 3, 9, 0, 0, 0), (122, .return_, 1, 0, 0, 0, 0)]], [], 0, 5)
def qc_X11_laysSums : qCd := ([[(0, .aload_n 0, 1, 0, 0, 0, 0), (1, .getfield 108, 3, 11, 39, 0, 1695), (4, .iload_n 1, 1, 0, 0, 0, 0), (5, .iconst 0, 1, 0, 0, 0, 0), (6, .iastore, 1, 0, 0, 0, 0), (7, .aload_n 0, 1, 0, 0, 0, 0), (8, .getfield 114, 3, 11, 41, 0, 1697), (11, .iload_n 1, 1, 0, 0, 0, 0), (12, .iconst 0, 1, 0, 0, 0, 0), (13, .iastore, 1, 0, 0, 0, 0), (14, .aload_n 0, 1, 0, 0, 0, 0), (15, .getfield 123, 3, 11, 44, 0, 1700)],
  [(18, .iconst 0, 1, 0, 0, 0, 0), (19, .iconst 0, 1, 0, 0, 0, 0), (20, .iastore, 1, 0, 0, 0, 0), (21, .aload_n 0, 1, 0, 0, 0, 0), (22, .getfield 126, 3, 11, 45, 0, 1701), (25, .iconst 0, 1, 0, 0, 0, 0), (26, .iconst 0, 1, 0, 0, 0, 0), (27, .iastore, 1, 0, 0, 0, 0), (28, .aload_n 0, 1, 0, 0, 0, 0), (29, .getfield 129, 3, 11, 46, 0, 1702)],
  [(32, .iconst 0, 1, 0, 0, 0, 0), (33, .iconst 0, 1, 0, 0, 0, 0), (34, .iastore, 1, 0, 0, 0, 0), (35, .aload_n 0, 1, 0, 0, 0, 0), (36, .getfield 132, 3, 11, 47, 0, 1703), (39, .iconst 0, 1, 0, 0, 0, 0), (40, .iconst (-1), 1, 0, 0, 0, 0), (41, .iastore, 1, 0, 0, 0, 0), (42, .iconst 0, 1, 0, 0, 0, 0), (43, .istore_n 2, 1, 0, 0, 0, 0), (44, .iload_n 2, 1, 0, 0, 0, 0), (45, .aload_n 0, 1, 0, 0, 0, 0), (46, .getfield 87, 3, 11, 32, 0, 1688)],
  [(49, .iload_n 1, 1, 0, 0, 0, 0), (50, .iaload, 1, 0, 0, 0, 0), (51, .if_icmp .ge 287, 3, 338, 0, 0, 0), (54, .bipush 70, 2, 0, 0, 0, 0), (56, .iload_n 1, 1, 0, 0, 0, 0), (57, .imul, 1, 0, 0, 0, 0), (58, .iload_n 2, 1, 0, 0, 0, 0), (59, .iadd, 1, 0, 0, 0, 0), (60, .istore_n 3, 1, 0, 0, 0, 0), (61, .aload_n 0, 1, 0, 0, 0, 0), (62, .getfield 123, 3, 11, 44, 0, 1700)],
  [(65, .iload_n 2, 1, 0, 0, 0, 0), (66, .iconst 1, 1, 0, 0, 0, 0), (67, .iadd, 1, 0, 0, 0, 0), (68, .aload_n 0, 1, 0, 0, 0, 0), (69, .getfield 123, 3, 11, 44, 0, 1700), (72, .iload_n 2, 1, 0, 0, 0, 0), (73, .iaload, 1, 0, 0, 0, 0), (74, .aload_n 0, 1, 0, 0, 0, 0), (75, .getfield 93, 3, 11, 34, 0, 1690), (78, .iload_n 3, 1, 0, 0, 0, 0), (79, .iaload, 1, 0, 0, 0, 0)],
  [(80, .ifCond .ne 16, 3, 96, 0, 0, 0), (83, .aload_n 0, 1, 0, 0, 0, 0), (84, .getfield 90, 3, 11, 33, 0, 1689), (87, .iload_n 3, 1, 0, 0, 0, 0), (88, .iaload, 1, 0, 0, 0, 0), (89, .ifCond .le 7, 3, 96, 0, 0, 0), (92, .iconst 1, 1, 0, 0, 0, 0), (93, .goto 4, 3, 97, 0, 0, 0)],
  [(96, .iconst 0, 1, 0, 0, 0, 0), (97, .iadd, 1, 0, 0, 0, 0), (98, .iastore, 1, 0, 0, 0, 0), (99, .aload_n 0, 1, 0, 0, 0, 0), (100, .getfield 132, 3, 11, 47, 0, 1703), (103, .iload_n 2, 1, 0, 0, 0, 0), (104, .iconst 1, 1, 0, 0, 0, 0), (105, .iadd, 1, 0, 0, 0, 0), (106, .aload_n 0, 1, 0, 0, 0, 0), (107, .getfield 132, 3, 11, 47, 0, 1703), (110, .iload_n 2, 1, 0, 0, 0, 0), (111, .iaload, 1, 0, 0, 0, 0)],
  [(112, .iastore, 1, 0, 0, 0, 0), (113, .aload_n 0, 1, 0, 0, 0, 0), (114, .getfield 96, 3, 11, 35, 0, 1691), (117, .iload_n 3, 1, 0, 0, 0, 0), (118, .iaload, 1, 0, 0, 0, 0), (119, .istore 4, 2, 0, 0, 0, 0), (121, .iload 4, 2, 0, 0, 0, 0), (123, .aload_n 0, 1, 0, 0, 0, 0), (124, .getfield 99, 3, 11, 36, 0, 1692), (127, .iload_n 3, 1, 0, 0, 0, 0)],
  [(128, .iaload, 1, 0, 0, 0, 0), (129, .if_icmp .ge 175, 3, 304, 0, 0, 0), (132, .iload_n 1, 1, 0, 0, 0, 0), (133, .aload_n 0, 1, 0, 0, 0, 0), (134, .getfield 90, 3, 11, 33, 0, 1689), (137, .iload_n 3, 1, 0, 0, 0, 0), (138, .iaload, 1, 0, 0, 0, 0), (139, .iload 4, 2, 0, 0, 0, 0), (141, .invokestatic 272, 3, 158, 3, 112, 2011)],
  [(144, .istore 5, 2, 0, 0, 0, 0), (146, .aload_n 0, 1, 0, 0, 0, 0), (147, .getfield 36, 3, 11, 10, 0, 1666), (150, .iload 5, 2, 0, 0, 0, 0), (152, .iaload, 1, 0, 0, 0, 0), (153, .iconst 3, 1, 0, 0, 0, 0), (154, .if_icmp .ne 30, 3, 184, 0, 0, 0), (157, .aload_n 0, 1, 0, 0, 0, 0), (158, .getfield 111, 3, 11, 40, 0, 1696)],
  [(161, .iconst 4, 1, 0, 0, 0, 0), (162, .iload_n 1, 1, 0, 0, 0, 0), (163, .imul, 1, 0, 0, 0, 0), (164, .aload_n 0, 1, 0, 0, 0, 0), (165, .getfield 108, 3, 11, 39, 0, 1695), (168, .iload_n 1, 1, 0, 0, 0, 0), (169, .iaload, 1, 0, 0, 0, 0), (170, .iadd, 1, 0, 0, 0, 0), (171, .iload 5, 2, 0, 0, 0, 0), (173, .iastore, 1, 0, 0, 0, 0), (174, .aload_n 0, 1, 0, 0, 0, 0), (175, .getfield 108, 3, 11, 39, 0, 1695)],
  [(178, .iload_n 1, 1, 0, 0, 0, 0), (179, .dup2, 1, 0, 0, 0, 0), (180, .iaload, 1, 0, 0, 0, 0), (181, .iconst 1, 1, 0, 0, 0, 0), (182, .iadd, 1, 0, 0, 0, 0), (183, .iastore, 1, 0, 0, 0, 0), (184, .aload_n 0, 1, 0, 0, 0, 0), (185, .getfield 132, 3, 11, 47, 0, 1703), (188, .iload_n 2, 1, 0, 0, 0, 0), (189, .iconst 1, 1, 0, 0, 0, 0), (190, .iadd, 1, 0, 0, 0, 0), (191, .aload_n 0, 1, 0, 0, 0, 0)],
  [(192, .getfield 36, 3, 11, 10, 0, 1666), (195, .iload 5, 2, 0, 0, 0, 0), (197, .iaload, 1, 0, 0, 0, 0), (198, .iconst 2, 1, 0, 0, 0, 0), (199, .if_icmp .ne 12, 3, 211, 0, 0, 0), (202, .aload_n 0, 1, 0, 0, 0, 0), (203, .getfield 114, 3, 11, 41, 0, 1697), (206, .iload_n 1, 1, 0, 0, 0, 0), (207, .iaload, 1, 0, 0, 0, 0)],
  [(208, .goto 11, 3, 219, 0, 0, 0), (211, .aload_n 0, 1, 0, 0, 0, 0), (212, .getfield 132, 3, 11, 47, 0, 1703), (215, .iload_n 2, 1, 0, 0, 0, 0), (216, .iconst 1, 1, 0, 0, 0, 0), (217, .iadd, 1, 0, 0, 0, 0), (218, .iaload, 1, 0, 0, 0, 0), (219, .iastore, 1, 0, 0, 0, 0), (220, .iconst 0, 1, 0, 0, 0, 0), (221, .istore 6, 2, 0, 0, 0, 0), (223, .iload 6, 2, 0, 0, 0, 0)],
  [(225, .aload_n 0, 1, 0, 0, 0, 0), (226, .getfield 39, 3, 11, 11, 0, 1667), (229, .iload 5, 2, 0, 0, 0, 0), (231, .iaload, 1, 0, 0, 0, 0), (232, .if_icmp .ge 66, 3, 298, 0, 0, 0), (235, .aload_n 0, 1, 0, 0, 0, 0), (236, .getfield 36, 3, 11, 10, 0, 1666), (239, .iload 5, 2, 0, 0, 0, 0)],
  [(241, .iaload, 1, 0, 0, 0, 0), (242, .iconst 2, 1, 0, 0, 0, 0), (243, .if_icmp .ne 55, 3, 298, 0, 0, 0), (246, .aload_n 0, 1, 0, 0, 0, 0), (247, .getfield 117, 3, 11, 42, 0, 1698), (250, .bipush 12, 2, 0, 0, 0, 0), (252, .iload_n 1, 1, 0, 0, 0, 0), (253, .imul, 1, 0, 0, 0, 0), (254, .aload_n 0, 1, 0, 0, 0, 0), (255, .getfield 114, 3, 11, 41, 0, 1697)],
  [(258, .iload_n 1, 1, 0, 0, 0, 0), (259, .iaload, 1, 0, 0, 0, 0), (260, .iadd, 1, 0, 0, 0, 0), (261, .iload 5, 2, 0, 0, 0, 0), (263, .iastore, 1, 0, 0, 0, 0), (264, .aload_n 0, 1, 0, 0, 0, 0), (265, .getfield 120, 3, 11, 43, 0, 1699), (268, .bipush 12, 2, 0, 0, 0, 0), (270, .iload_n 1, 1, 0, 0, 0, 0), (271, .imul, 1, 0, 0, 0, 0)],
  [(272, .aload_n 0, 1, 0, 0, 0, 0), (273, .getfield 114, 3, 11, 41, 0, 1697), (276, .iload_n 1, 1, 0, 0, 0, 0), (277, .iaload, 1, 0, 0, 0, 0), (278, .iadd, 1, 0, 0, 0, 0), (279, .iload 6, 2, 0, 0, 0, 0), (281, .iastore, 1, 0, 0, 0, 0), (282, .aload_n 0, 1, 0, 0, 0, 0), (283, .getfield 114, 3, 11, 41, 0, 1697), (286, .iload_n 1, 1, 0, 0, 0, 0), (287, .dup2, 1, 0, 0, 0, 0)],
  [(288, .iaload, 1, 0, 0, 0, 0), (289, .iconst 1, 1, 0, 0, 0, 0), (290, .iadd, 1, 0, 0, 0, 0), (291, .iastore, 1, 0, 0, 0, 0), (292, .iinc 6 1, 3, 0, 0, 0, 0), (295, .goto (-72), 3, 223, 0, 0, 0), (298, .iinc 4 1, 3, 0, 0, 0, 0), (301, .goto (-180), 3, 121, 0, 0, 0)],
  [(304, .aload_n 0, 1, 0, 0, 0, 0), (305, .getfield 126, 3, 11, 45, 0, 1701), (308, .iload_n 2, 1, 0, 0, 0, 0), (309, .iconst 1, 1, 0, 0, 0, 0), (310, .iadd, 1, 0, 0, 0, 0), (311, .aload_n 0, 1, 0, 0, 0, 0), (312, .getfield 108, 3, 11, 39, 0, 1695), (315, .iload_n 1, 1, 0, 0, 0, 0), (316, .iaload, 1, 0, 0, 0, 0), (317, .iastore, 1, 0, 0, 0, 0), (318, .aload_n 0, 1, 0, 0, 0, 0), (319, .getfield 129, 3, 11, 46, 0, 1702)],
  [(322, .iload_n 2, 1, 0, 0, 0, 0), (323, .iconst 1, 1, 0, 0, 0, 0), (324, .iadd, 1, 0, 0, 0, 0), (325, .aload_n 0, 1, 0, 0, 0, 0), (326, .getfield 114, 3, 11, 41, 0, 1697), (329, .iload_n 1, 1, 0, 0, 0, 0), (330, .iaload, 1, 0, 0, 0, 0), (331, .iastore, 1, 0, 0, 0, 0), (332, .iinc 2 1, 3, 0, 0, 0, 0), (335, .goto (-291), 3, 44, 0, 0, 0)],
  [(338, .return_, 1, 0, 0, 0, 0)]], [], 0, 7)
def qc_X11_heightOf : qCd := ([[(0, .iconst 0, 1, 0, 0, 0, 0), (1, .istore 4, 2, 0, 0, 0, 0), (3, .iload_n 2, 1, 0, 0, 0, 0), (4, .istore 5, 2, 0, 0, 0, 0), (6, .iload 5, 2, 0, 0, 0, 0), (8, .iload_n 2, 1, 0, 0, 0, 0), (9, .iload_n 3, 1, 0, 0, 0, 0), (10, .iadd, 1, 0, 0, 0, 0), (11, .if_icmp .ge 30, 3, 41, 0, 0, 0), (14, .iload 4, 2, 0, 0, 0, 0)],
  [(16, .aload_n 0, 1, 0, 0, 0, 0), (17, .getfield 39, 3, 11, 11, 0, 1667), (20, .aload_n 0, 1, 0, 0, 0, 0), (21, .getfield 111, 3, 11, 40, 0, 1696), (24, .iconst 4, 1, 0, 0, 0, 0), (25, .iload_n 1, 1, 0, 0, 0, 0), (26, .imul, 1, 0, 0, 0, 0), (27, .iload 5, 2, 0, 0, 0, 0), (29, .iadd, 1, 0, 0, 0, 0), (30, .iaload, 1, 0, 0, 0, 0), (31, .iaload, 1, 0, 0, 0, 0)],
  [(32, .iadd, 1, 0, 0, 0, 0), (33, .istore 4, 2, 0, 0, 0, 0), (35, .iinc 5 1, 3, 0, 0, 0, 0), (38, .goto (-32), 3, 6, 0, 0, 0), (41, .iload 4, 2, 0, 0, 0, 0), (43, .ireturn, 1, 0, 0, 0, 0)]], [], 1, 6)
def qc_X11_costOfEnds : qCd := ([[(0, .bipush 70, 2, 0, 0, 0, 0), (2, .iload_n 1, 1, 0, 0, 0, 0), (3, .imul, 1, 0, 0, 0, 0), (4, .iload_n 2, 1, 0, 0, 0, 0), (5, .iadd, 1, 0, 0, 0, 0), (6, .istore 4, 2, 0, 0, 0, 0), (8, .bipush 70, 2, 0, 0, 0, 0), (10, .iload_n 1, 1, 0, 0, 0, 0), (11, .imul, 1, 0, 0, 0, 0), (12, .iload_n 3, 1, 0, 0, 0, 0), (13, .iadd, 1, 0, 0, 0, 0), (14, .iconst 1, 1, 0, 0, 0, 0), (15, .isub, 1, 0, 0, 0, 0)],
  [(16, .istore 5, 2, 0, 0, 0, 0), (18, .bipush 10, 2, 0, 0, 0, 0), (20, .iload_n 1, 1, 0, 0, 0, 0), (21, .imul, 1, 0, 0, 0, 0), (22, .aload_n 0, 1, 0, 0, 0, 0), (23, .getfield 90, 3, 11, 33, 0, 1689), (26, .iload 4, 2, 0, 0, 0, 0), (28, .iaload, 1, 0, 0, 0, 0), (29, .iadd, 1, 0, 0, 0, 0), (30, .istore 6, 2, 0, 0, 0, 0)],
  [(32, .bipush 10, 2, 0, 0, 0, 0), (34, .iload_n 1, 1, 0, 0, 0, 0), (35, .imul, 1, 0, 0, 0, 0), (36, .aload_n 0, 1, 0, 0, 0, 0), (37, .getfield 90, 3, 11, 33, 0, 1689), (40, .iload 5, 2, 0, 0, 0, 0), (42, .iaload, 1, 0, 0, 0, 0), (43, .iadd, 1, 0, 0, 0, 0), (44, .istore 7, 2, 0, 0, 0, 0), (46, .aload_n 0, 1, 0, 0, 0, 0), (47, .getfield 20, 3, 11, 5, 0, 1661)],
  [(50, .iload 6, 2, 0, 0, 0, 0), (52, .baload, 1, 0, 0, 0, 0), (53, .ifCond .ne 37, 3, 90, 0, 0, 0), (56, .aload_n 0, 1, 0, 0, 0, 0), (57, .getfield 69, 3, 11, 26, 0, 1682), (60, .iload 6, 2, 0, 0, 0, 0), (62, .iaload, 1, 0, 0, 0, 0), (63, .iconst 1, 1, 0, 0, 0, 0)],
  [(64, .if_icmp .le 26, 3, 90, 0, 0, 0), (67, .aload_n 0, 1, 0, 0, 0, 0), (68, .getfield 93, 3, 11, 34, 0, 1690), (71, .iload 4, 2, 0, 0, 0, 0), (73, .iaload, 1, 0, 0, 0, 0), (74, .aload_n 0, 1, 0, 0, 0, 0), (75, .getfield 69, 3, 11, 26, 0, 1682), (78, .iload 6, 2, 0, 0, 0, 0)],
  [(80, .iaload, 1, 0, 0, 0, 0), (81, .iconst 1, 1, 0, 0, 0, 0), (82, .isub, 1, 0, 0, 0, 0), (83, .if_icmp .ne 7, 3, 90, 0, 0, 0), (86, .iconst 1, 1, 0, 0, 0, 0), (87, .goto 4, 3, 91, 0, 0, 0), (90, .iconst 0, 1, 0, 0, 0, 0), (91, .istore 8, 2, 0, 0, 0, 0), (93, .aload_n 0, 1, 0, 0, 0, 0), (94, .getfield 20, 3, 11, 5, 0, 1661)],
  [(97, .iload 7, 2, 0, 0, 0, 0), (99, .baload, 1, 0, 0, 0, 0), (100, .ifCond .ne 28, 3, 128, 0, 0, 0), (103, .aload_n 0, 1, 0, 0, 0, 0), (104, .getfield 69, 3, 11, 26, 0, 1682), (107, .iload 7, 2, 0, 0, 0, 0), (109, .iaload, 1, 0, 0, 0, 0), (110, .iconst 1, 1, 0, 0, 0, 0), (111, .if_icmp .le 17, 3, 128, 0, 0, 0)],
  [(114, .aload_n 0, 1, 0, 0, 0, 0), (115, .getfield 93, 3, 11, 34, 0, 1690), (118, .iload 5, 2, 0, 0, 0, 0), (120, .iaload, 1, 0, 0, 0, 0), (121, .ifCond .ne 7, 3, 128, 0, 0, 0), (124, .iconst 1, 1, 0, 0, 0, 0), (125, .goto 4, 3, 129, 0, 0, 0)],
  [(128, .iconst 0, 1, 0, 0, 0, 0), (129, .istore 9, 2, 0, 0, 0, 0), (131, .iload 8, 2, 0, 0, 0, 0), (133, .ifCond .eq 8, 3, 141, 0, 0, 0), (136, .bipush 15, 2, 0, 0, 0, 0), (138, .goto 4, 3, 142, 0, 0, 0), (141, .iconst 0, 1, 0, 0, 0, 0), (142, .iload 9, 2, 0, 0, 0, 0)],
  [(144, .ifCond .eq 8, 3, 152, 0, 0, 0), (147, .bipush 15, 2, 0, 0, 0, 0), (149, .goto 4, 3, 153, 0, 0, 0), (152, .iconst 0, 1, 0, 0, 0, 0), (153, .iadd, 1, 0, 0, 0, 0), (154, .ireturn, 1, 0, 0, 0, 0)]], [], 1, 10)
def qc_X11_haveRoomBelow : qCd := ([[(0, .iconst 1, 1, 0, 0, 0, 0), (1, .istore 4, 2, 0, 0, 0, 0), (3, .iload_n 2, 1, 0, 0, 0, 0), (4, .istore 5, 2, 0, 0, 0, 0), (6, .iload 5, 2, 0, 0, 0, 0), (8, .iload_n 3, 1, 0, 0, 0, 0), (9, .if_icmp .ge 76, 3, 85, 0, 0, 0), (12, .iload_n 3, 1, 0, 0, 0, 0), (13, .aload_n 0, 1, 0, 0, 0, 0), (14, .getfield 87, 3, 11, 32, 0, 1688)],
  [(17, .iload_n 1, 1, 0, 0, 0, 0), (18, .iaload, 1, 0, 0, 0, 0), (19, .if_icmp .ge 66, 3, 85, 0, 0, 0), (22, .bipush 10, 2, 0, 0, 0, 0), (24, .iload_n 1, 1, 0, 0, 0, 0), (25, .imul, 1, 0, 0, 0, 0), (26, .aload_n 0, 1, 0, 0, 0, 0), (27, .getfield 90, 3, 11, 33, 0, 1689), (30, .bipush 70, 2, 0, 0, 0, 0)],
  [(32, .iload_n 1, 1, 0, 0, 0, 0), (33, .imul, 1, 0, 0, 0, 0), (34, .iload 5, 2, 0, 0, 0, 0), (36, .iadd, 1, 0, 0, 0, 0), (37, .iaload, 1, 0, 0, 0, 0), (38, .iadd, 1, 0, 0, 0, 0), (39, .istore 6, 2, 0, 0, 0, 0), (41, .iload 4, 2, 0, 0, 0, 0), (43, .ifCond .eq 33, 3, 76, 0, 0, 0), (46, .aload_n 0, 1, 0, 0, 0, 0), (47, .getfield 20, 3, 11, 5, 0, 1661)],
  [(50, .iload 6, 2, 0, 0, 0, 0), (52, .baload, 1, 0, 0, 0, 0), (53, .ifCond .eq 19, 3, 72, 0, 0, 0), (56, .iload_n 3, 1, 0, 0, 0, 0), (57, .iconst 1, 1, 0, 0, 0, 0), (58, .isub, 1, 0, 0, 0, 0), (59, .iload 5, 2, 0, 0, 0, 0), (61, .isub, 1, 0, 0, 0, 0), (62, .aload_n 0, 1, 0, 0, 0, 0), (63, .getfield 24, 3, 11, 6, 0, 1662)],
  [(66, .iload 6, 2, 0, 0, 0, 0), (68, .iaload, 1, 0, 0, 0, 0), (69, .if_icmp .lt 7, 3, 76, 0, 0, 0), (72, .iconst 1, 1, 0, 0, 0, 0), (73, .goto 4, 3, 77, 0, 0, 0), (76, .iconst 0, 1, 0, 0, 0, 0), (77, .istore 4, 2, 0, 0, 0, 0), (79, .iinc 5 1, 3, 0, 0, 0, 0)],
  [(82, .goto (-76), 3, 6, 0, 0, 0), (85, .iload 4, 2, 0, 0, 0, 0), (87, .ireturn, 1, 0, 0, 0, 0)]], [], 2, 7)
def qc_X11_tries : qCd := ([[(0, .iload_n 2, 1, 0, 0, 0, 0), (1, .iload 6, 2, 0, 0, 0, 0), (3, .iadd, 1, 0, 0, 0, 0), (4, .istore 8, 2, 0, 0, 0, 0), (6, .aload_n 0, 1, 0, 0, 0, 0), (7, .getfield 123, 3, 11, 44, 0, 1700), (10, .iload 8, 2, 0, 0, 0, 0), (12, .iaload, 1, 0, 0, 0, 0), (13, .aload_n 0, 1, 0, 0, 0, 0), (14, .getfield 123, 3, 11, 44, 0, 1700)],
  [(17, .iload_n 2, 1, 0, 0, 0, 0), (18, .iconst 1, 1, 0, 0, 0, 0), (19, .iadd, 1, 0, 0, 0, 0), (20, .iaload, 1, 0, 0, 0, 0), (21, .isub, 1, 0, 0, 0, 0), (22, .istore 9, 2, 0, 0, 0, 0), (24, .iload 6, 2, 0, 0, 0, 0), (26, .iload 9, 2, 0, 0, 0, 0), (28, .iadd, 1, 0, 0, 0, 0), (29, .aload_n 0, 1, 0, 0, 0, 0), (30, .iload_n 1, 1, 0, 0, 0, 0), (31, .iload_n 3, 1, 0, 0, 0, 0)],
  [(32, .iload 7, 2, 0, 0, 0, 0), (34, .invokevirtual 309, 3, 182, 4, 110, 2141), (37, .iadd, 1, 0, 0, 0, 0), (38, .istore 10, 2, 0, 0, 0, 0), (40, .aload_n 0, 1, 0, 0, 0, 0), (41, .getfield 13, 3, 11, 2, 0, 1658), (44, .iload 10, 2, 0, 0, 0, 0), (46, .isub, 1, 0, 0, 0, 0), (47, .istore 11, 2, 0, 0, 0, 0)],
  [(49, .aload_n 0, 1, 0, 0, 0, 0), (50, .getfield 129, 3, 11, 46, 0, 1702), (53, .iload 8, 2, 0, 0, 0, 0), (55, .iaload, 1, 0, 0, 0, 0), (56, .iload 4, 2, 0, 0, 0, 0), (58, .isub, 1, 0, 0, 0, 0), (59, .istore 12, 2, 0, 0, 0, 0), (61, .iload 11, 2, 0, 0, 0, 0), (63, .ifCond .lt 14, 3, 77, 0, 0, 0)],
  [(66, .aload_n 0, 1, 0, 0, 0, 0), (67, .iload_n 1, 1, 0, 0, 0, 0), (68, .iload_n 2, 1, 0, 0, 0, 0), (69, .iload 8, 2, 0, 0, 0, 0), (71, .invokevirtual 312, 3, 184, 4, 110, 2145), (74, .ifCond .ne 5, 3, 79, 0, 0, 0), (77, .iconst 0, 1, 0, 0, 0, 0), (78, .ireturn, 1, 0, 0, 0, 0), (79, .aload_n 0, 1, 0, 0, 0, 0)],
  [(80, .iload 11, 2, 0, 0, 0, 0), (82, .iconst 2, 1, 0, 0, 0, 0), (83, .if_icmp .ge 7, 3, 90, 0, 0, 0), (86, .iconst 0, 1, 0, 0, 0, 0), (87, .goto 12, 3, 99, 0, 0, 0), (90, .iload 12, 2, 0, 0, 0, 0), (92, .iload 11, 2, 0, 0, 0, 0), (94, .iconst 1, 1, 0, 0, 0, 0), (95, .isub, 1, 0, 0, 0, 0)],
  [(96, .invokestatic 315, 3, 153, 2, 112, 2149), (99, .putfield 319, 3, 11, 52, 0, 1707), (102, .aload_n 0, 1, 0, 0, 0, 0), (103, .getfield 129, 3, 11, 46, 0, 1702), (106, .iload 8, 2, 0, 0, 0, 0), (108, .iaload, 1, 0, 0, 0, 0), (109, .aload_n 0, 1, 0, 0, 0, 0), (110, .getfield 129, 3, 11, 46, 0, 1702)],
  [(113, .iload_n 2, 1, 0, 0, 0, 0), (114, .iaload, 1, 0, 0, 0, 0), (115, .if_icmp .le 22, 3, 137, 0, 0, 0), (118, .iload 4, 2, 0, 0, 0, 0), (120, .aload_n 0, 1, 0, 0, 0, 0), (121, .getfield 319, 3, 11, 52, 0, 1707), (124, .iadd, 1, 0, 0, 0, 0), (125, .aload_n 0, 1, 0, 0, 0, 0), (126, .getfield 132, 3, 11, 47, 0, 1703)],
  [(129, .iload 8, 2, 0, 0, 0, 0), (131, .iaload, 1, 0, 0, 0, 0), (132, .if_icmp .gt 5, 3, 137, 0, 0, 0), (135, .iconst 0, 1, 0, 0, 0, 0), (136, .ireturn, 1, 0, 0, 0, 0), (137, .aload_n 0, 1, 0, 0, 0, 0), (138, .iload 7, 2, 0, 0, 0, 0), (140, .putfield 322, 3, 11, 51, 0, 1706), (143, .aload_n 0, 1, 0, 0, 0, 0)],
  [(144, .aload_n 0, 1, 0, 0, 0, 0), (145, .getfield 126, 3, 11, 45, 0, 1701), (148, .iload 8, 2, 0, 0, 0, 0), (150, .iaload, 1, 0, 0, 0, 0), (151, .iload_n 3, 1, 0, 0, 0, 0), (152, .isub, 1, 0, 0, 0, 0), (153, .iload 7, 2, 0, 0, 0, 0), (155, .isub, 1, 0, 0, 0, 0), (156, .putfield 325, 3, 11, 56, 0, 1711), (159, .aload_n 0, 1, 0, 0, 0, 0)],
  [(160, .iload 12, 2, 0, 0, 0, 0), (162, .aload_n 0, 1, 0, 0, 0, 0), (163, .getfield 319, 3, 11, 52, 0, 1707), (166, .isub, 1, 0, 0, 0, 0), (167, .putfield 328, 3, 11, 57, 0, 1712), (170, .iload 8, 2, 0, 0, 0, 0), (172, .aload_n 0, 1, 0, 0, 0, 0), (173, .getfield 87, 3, 11, 32, 0, 1688)],
  [(176, .iload_n 1, 1, 0, 0, 0, 0), (177, .iaload, 1, 0, 0, 0, 0), (178, .if_icmp .ne 21, 3, 199, 0, 0, 0), (181, .aload_n 0, 1, 0, 0, 0, 0), (182, .getfield 325, 3, 11, 56, 0, 1711), (185, .ifCond .ne 14, 3, 199, 0, 0, 0), (188, .aload_n 0, 1, 0, 0, 0, 0), (189, .getfield 328, 3, 11, 57, 0, 1712)],
  [(192, .ifCond .ne 7, 3, 199, 0, 0, 0), (195, .iconst 1, 1, 0, 0, 0, 0), (196, .goto 4, 3, 200, 0, 0, 0), (199, .iconst 0, 1, 0, 0, 0, 0), (200, .istore 13, 2, 0, 0, 0, 0), (202, .aload_n 0, 1, 0, 0, 0, 0), (203, .iload 10, 2, 0, 0, 0, 0), (205, .aload_n 0, 1, 0, 0, 0, 0), (206, .getfield 319, 3, 11, 52, 0, 1707)],
  [(209, .ifCond .le 12, 3, 221, 0, 0, 0), (212, .aload_n 0, 1, 0, 0, 0, 0), (213, .getfield 319, 3, 11, 52, 0, 1707), (216, .iconst 1, 1, 0, 0, 0, 0), (217, .iadd, 1, 0, 0, 0, 0), (218, .goto 4, 3, 222, 0, 0, 0), (221, .iconst 0, 1, 0, 0, 0, 0), (222, .iadd, 1, 0, 0, 0, 0), (223, .putfield 331, 3, 11, 54, 0, 1709)],
  [(226, .aload_n 0, 1, 0, 0, 0, 0), (227, .getfield 13, 3, 11, 2, 0, 1658), (230, .aload_n 0, 1, 0, 0, 0, 0), (231, .getfield 331, 3, 11, 54, 0, 1709), (234, .isub, 1, 0, 0, 0, 0), (235, .istore 14, 2, 0, 0, 0, 0), (237, .aload_n 0, 1, 0, 0, 0, 0), (238, .iload 13, 2, 0, 0, 0, 0)],
  [(240, .ifCond .eq 7, 3, 247, 0, 0, 0), (243, .iconst 0, 1, 0, 0, 0, 0), (244, .goto 10, 3, 254, 0, 0, 0), (247, .iload 9, 2, 0, 0, 0, 0), (249, .iload 14, 2, 0, 0, 0, 0), (251, .invokestatic 315, 3, 153, 2, 112, 2149), (254, .putfield 334, 3, 11, 53, 0, 1708)],
  [(257, .aload_n 0, 1, 0, 0, 0, 0), (258, .dup, 1, 0, 0, 0, 0), (259, .getfield 331, 3, 11, 54, 0, 1709), (262, .aload_n 0, 1, 0, 0, 0, 0), (263, .getfield 334, 3, 11, 53, 0, 1708), (266, .iadd, 1, 0, 0, 0, 0), (267, .putfield 331, 3, 11, 54, 0, 1709), (270, .aload_n 0, 1, 0, 0, 0, 0), (271, .getfield 331, 3, 11, 54, 0, 1709)],
  [(274, .iload 5, 2, 0, 0, 0, 0), (276, .if_icmp .le 13, 3, 289, 0, 0, 0), (279, .aload_n 0, 1, 0, 0, 0, 0), (280, .getfield 331, 3, 11, 54, 0, 1709), (283, .iload 5, 2, 0, 0, 0, 0), (285, .isub, 1, 0, 0, 0, 0), (286, .goto 10, 3, 296, 0, 0, 0)],
  [(289, .iload 5, 2, 0, 0, 0, 0), (291, .aload_n 0, 1, 0, 0, 0, 0), (292, .getfield 331, 3, 11, 54, 0, 1709), (295, .isub, 1, 0, 0, 0, 0), (296, .istore 15, 2, 0, 0, 0, 0), (298, .aload_n 0, 1, 0, 0, 0, 0), (299, .iload 13, 2, 0, 0, 0, 0), (301, .ifCond .eq 7, 3, 308, 0, 0, 0)],
  [(304, .iconst 0, 1, 0, 0, 0, 0), (305, .goto 35, 3, 340, 0, 0, 0), (308, .aload_n 0, 1, 0, 0, 0, 0), (309, .getfield 334, 3, 11, 53, 0, 1708), (312, .iload 14, 2, 0, 0, 0, 0), (314, .aload_n 0, 1, 0, 0, 0, 0), (315, .getfield 334, 3, 11, 53, 0, 1708), (318, .isub, 1, 0, 0, 0, 0), (319, .iload 14, 2, 0, 0, 0, 0)],
  [(321, .aload_n 0, 1, 0, 0, 0, 0), (322, .getfield 334, 3, 11, 53, 0, 1708), (325, .isub, 1, 0, 0, 0, 0), (326, .imul, 1, 0, 0, 0, 0), (327, .iadd, 1, 0, 0, 0, 0), (328, .iload 5, 2, 0, 0, 0, 0), (330, .ifCond .le 8, 3, 338, 0, 0, 0), (333, .iload 15, 2, 0, 0, 0, 0), (335, .goto 4, 3, 339, 0, 0, 0)],
  [(338, .iconst 0, 1, 0, 0, 0, 0), (339, .iadd, 1, 0, 0, 0, 0), (340, .putfield 337, 3, 11, 55, 0, 1710), (343, .aload_n 0, 1, 0, 0, 0, 0), (344, .dup, 1, 0, 0, 0, 0), (345, .getfield 337, 3, 11, 55, 0, 1710), (348, .aload_n 0, 1, 0, 0, 0, 0), (349, .iload_n 1, 1, 0, 0, 0, 0), (350, .iload_n 2, 1, 0, 0, 0, 0), (351, .iload 8, 2, 0, 0, 0, 0)],
  [(353, .invokevirtual 340, 3, 183, 4, 110, 2152), (356, .iconst 3, 1, 0, 0, 0, 0), (357, .aload_n 0, 1, 0, 0, 0, 0), (358, .getfield 325, 3, 11, 56, 0, 1711), (361, .imul, 1, 0, 0, 0, 0), (362, .iadd, 1, 0, 0, 0, 0), (363, .iconst 2, 1, 0, 0, 0, 0), (364, .aload_n 0, 1, 0, 0, 0, 0), (365, .getfield 328, 3, 11, 57, 0, 1712)],
  [(368, .imul, 1, 0, 0, 0, 0), (369, .iadd, 1, 0, 0, 0, 0), (370, .iadd, 1, 0, 0, 0, 0), (371, .putfield 337, 3, 11, 55, 0, 1710), (374, .iconst 1, 1, 0, 0, 0, 0), (375, .ireturn, 1, 0, 0, 0, 0)]], [], 2, 16)
def qc_X11_manyBare : qCd := ([[(0, .iconst 0, 1, 0, 0, 0, 0), (1, .istore 5, 2, 0, 0, 0, 0), (3, .iload_n 2, 1, 0, 0, 0, 0), (4, .istore 6, 2, 0, 0, 0, 0), (6, .iload_n 3, 1, 0, 0, 0, 0), (7, .istore 7, 2, 0, 0, 0, 0), (9, .iload 6, 2, 0, 0, 0, 0), (11, .aload_n 0, 1, 0, 0, 0, 0), (12, .getfield 108, 3, 11, 39, 0, 1695), (15, .iload_n 1, 1, 0, 0, 0, 0)],
  [(16, .iaload, 1, 0, 0, 0, 0), (17, .if_icmp .lt 14, 3, 31, 0, 0, 0), (20, .iload 7, 2, 0, 0, 0, 0), (22, .aload_n 0, 1, 0, 0, 0, 0), (23, .getfield 114, 3, 11, 41, 0, 1697), (26, .iload_n 1, 1, 0, 0, 0, 0), (27, .iaload, 1, 0, 0, 0, 0), (28, .if_icmp .ge 166, 3, 194, 0, 0, 0), (31, .iload 6, 2, 0, 0, 0, 0)],
  [(33, .istore 8, 2, 0, 0, 0, 0), (35, .iload 7, 2, 0, 0, 0, 0), (37, .istore 9, 2, 0, 0, 0, 0), (39, .iconst 0, 1, 0, 0, 0, 0), (40, .istore 10, 2, 0, 0, 0, 0), (42, .iload 6, 2, 0, 0, 0, 0), (44, .aload_n 0, 1, 0, 0, 0, 0), (45, .getfield 108, 3, 11, 39, 0, 1695)],
  [(48, .iload_n 1, 1, 0, 0, 0, 0), (49, .iaload, 1, 0, 0, 0, 0), (50, .if_icmp .ge 40, 3, 90, 0, 0, 0), (53, .iload 10, 2, 0, 0, 0, 0), (55, .aload_n 0, 1, 0, 0, 0, 0), (56, .iload_n 1, 1, 0, 0, 0, 0), (57, .iload 6, 2, 0, 0, 0, 0), (59, .iconst 1, 1, 0, 0, 0, 0), (60, .invokevirtual 309, 3, 182, 4, 110, 2141), (63, .iadd, 1, 0, 0, 0, 0)],
  [(64, .aload_n 0, 1, 0, 0, 0, 0), (65, .getfield 13, 3, 11, 2, 0, 1658), (68, .if_icmp .gt 22, 3, 90, 0, 0, 0), (71, .iload 10, 2, 0, 0, 0, 0), (73, .aload_n 0, 1, 0, 0, 0, 0), (74, .iload_n 1, 1, 0, 0, 0, 0), (75, .iload 6, 2, 0, 0, 0, 0), (77, .iconst 1, 1, 0, 0, 0, 0), (78, .invokevirtual 309, 3, 182, 4, 110, 2141)],
  [(81, .iadd, 1, 0, 0, 0, 0), (82, .istore 10, 2, 0, 0, 0, 0), (84, .iinc 6 1, 3, 0, 0, 0, 0), (87, .goto (-45), 3, 42, 0, 0, 0), (90, .iload 7, 2, 0, 0, 0, 0), (92, .aload_n 0, 1, 0, 0, 0, 0), (93, .getfield 13, 3, 11, 2, 0, 1658)],
  [(96, .iload 10, 2, 0, 0, 0, 0), (98, .isub, 1, 0, 0, 0, 0), (99, .iconst 2, 1, 0, 0, 0, 0), (100, .if_icmp .ge 7, 3, 107, 0, 0, 0), (103, .iconst 0, 1, 0, 0, 0, 0), (104, .goto 24, 3, 128, 0, 0, 0), (107, .aload_n 0, 1, 0, 0, 0, 0), (108, .getfield 114, 3, 11, 41, 0, 1697), (111, .iload_n 1, 1, 0, 0, 0, 0)],
  [(112, .iaload, 1, 0, 0, 0, 0), (113, .iload 7, 2, 0, 0, 0, 0), (115, .isub, 1, 0, 0, 0, 0), (116, .aload_n 0, 1, 0, 0, 0, 0), (117, .getfield 13, 3, 11, 2, 0, 1658), (120, .iload 10, 2, 0, 0, 0, 0), (122, .isub, 1, 0, 0, 0, 0), (123, .iconst 1, 1, 0, 0, 0, 0), (124, .isub, 1, 0, 0, 0, 0), (125, .invokestatic 315, 3, 153, 2, 112, 2149)],
  [(128, .iadd, 1, 0, 0, 0, 0), (129, .istore 7, 2, 0, 0, 0, 0), (131, .iload 10, 2, 0, 0, 0, 0), (133, .iload 7, 2, 0, 0, 0, 0), (135, .iload 9, 2, 0, 0, 0, 0), (137, .if_icmp .le 13, 3, 150, 0, 0, 0), (140, .iload 7, 2, 0, 0, 0, 0), (142, .iload 9, 2, 0, 0, 0, 0)],
  [(144, .isub, 1, 0, 0, 0, 0), (145, .iconst 1, 1, 0, 0, 0, 0), (146, .iadd, 1, 0, 0, 0, 0), (147, .goto 4, 3, 151, 0, 0, 0), (150, .iconst 0, 1, 0, 0, 0, 0), (151, .iadd, 1, 0, 0, 0, 0), (152, .istore 10, 2, 0, 0, 0, 0), (154, .iinc 5 1, 3, 0, 0, 0, 0), (157, .iload 4, 2, 0, 0, 0, 0), (159, .ifCond .eq 32, 3, 191, 0, 0, 0)],
  [(162, .aload_n 0, 1, 0, 0, 0, 0), (163, .iload_n 1, 1, 0, 0, 0, 0), (164, .aload_n 0, 1, 0, 0, 0, 0), (165, .getfield 87, 3, 11, 32, 0, 1688), (168, .iload_n 1, 1, 0, 0, 0, 0), (169, .iaload, 1, 0, 0, 0, 0), (170, .iconst 0, 1, 0, 0, 0, 0), (171, .iload 8, 2, 0, 0, 0, 0), (173, .iload 6, 2, 0, 0, 0, 0), (175, .iload 8, 2, 0, 0, 0, 0)],
  [(177, .isub, 1, 0, 0, 0, 0), (178, .iload 9, 2, 0, 0, 0, 0), (180, .iload 7, 2, 0, 0, 0, 0), (182, .iload 9, 2, 0, 0, 0, 0), (184, .isub, 1, 0, 0, 0, 0), (185, .iconst 0, 1, 0, 0, 0, 0), (186, .iload 10, 2, 0, 0, 0, 0), (188, .invokevirtual 343, 3, 195, 10, 110, 2081), (191, .goto (-182), 3, 9, 0, 0, 0)],
  [(194, .iload 5, 2, 0, 0, 0, 0), (196, .ireturn, 1, 0, 0, 0, 0)]], [], 1, 11)
def qc_X11_stateOf : qCd := ([[(0, .iload_n 1, 1, 0, 0, 0, 0), (1, .iconst 5, 1, 0, 0, 0, 0), (2, .imul, 1, 0, 0, 0, 0), (3, .iload_n 2, 1, 0, 0, 0, 0), (4, .iadd, 1, 0, 0, 0, 0), (5, .iconst 4, 1, 0, 0, 0, 0), (6, .imul, 1, 0, 0, 0, 0), (7, .aload_n 0, 1, 0, 0, 0, 0), (8, .getfield 129, 3, 11, 46, 0, 1702), (11, .iload_n 1, 1, 0, 0, 0, 0), (12, .iaload, 1, 0, 0, 0, 0), (13, .iadd, 1, 0, 0, 0, 0), (14, .iload_n 3, 1, 0, 0, 0, 0), (15, .isub, 1, 0, 0, 0, 0)],
  [(16, .bipush 15, 2, 0, 0, 0, 0), (18, .imul, 1, 0, 0, 0, 0), (19, .iload 4, 2, 0, 0, 0, 0), (21, .ifCond .eq 8, 3, 29, 0, 0, 0), (24, .iload 5, 2, 0, 0, 0, 0), (26, .goto 4, 3, 30, 0, 0, 0), (29, .iconst 0, 1, 0, 0, 0, 0), (30, .iadd, 1, 0, 0, 0, 0), (31, .ireturn, 1, 0, 0, 0, 0)]], [], 1, 6)
def qc_X11_isOdd : qCd := ([[(0, .iload_n 0, 1, 0, 0, 0, 0), (1, .sipush 300, 3, 0, 0, 0, 0), (4, .idiv, 1, 0, 0, 0, 0), (5, .ifCond .eq 10, 3, 15, 0, 0, 0), (8, .iload_n 0, 1, 0, 0, 0, 0), (9, .bipush 15, 2, 0, 0, 0, 0), (11, .irem, 1, 0, 0, 0, 0), (12, .ifCond .le 7, 3, 19, 0, 0, 0), (15, .iconst 1, 1, 0, 0, 0, 0)],
  [(16, .goto 4, 3, 20, 0, 0, 0), (19, .iconst 0, 1, 0, 0, 0, 0), (20, .ireturn, 1, 0, 0, 0, 0)]], [], 2, 1)
def qc_X11_placedAt : qCd := ([[(0, .iload_n 0, 1, 0, 0, 0, 0), (1, .bipush 60, 2, 0, 0, 0, 0), (3, .idiv, 1, 0, 0, 0, 0), (4, .iconst 5, 1, 0, 0, 0, 0), (5, .irem, 1, 0, 0, 0, 0), (6, .ireturn, 1, 0, 0, 0, 0)]], [], 1, 1)
def qc_X11_shownAt : qCd := ([[(0, .aload_n 0, 1, 0, 0, 0, 0), (1, .getfield 129, 3, 11, 46, 0, 1702), (4, .iload_n 1, 1, 0, 0, 0, 0), (5, .sipush 300, 3, 0, 0, 0, 0), (8, .idiv, 1, 0, 0, 0, 0), (9, .iaload, 1, 0, 0, 0, 0), (10, .iload_n 1, 1, 0, 0, 0, 0), (11, .bipush 15, 2, 0, 0, 0, 0), (13, .idiv, 1, 0, 0, 0, 0), (14, .iconst 4, 1, 0, 0, 0, 0), (15, .irem, 1, 0, 0, 0, 0)],
  [(16, .isub, 1, 0, 0, 0, 0), (17, .ireturn, 1, 0, 0, 0, 0)]], [], 1, 2)
def qc_X11_behind : qCd := ([[(0, .aload_n 0, 1, 0, 0, 0, 0), (1, .iload_n 1, 1, 0, 0, 0, 0), (2, .iload_n 2, 1, 0, 0, 0, 0), (3, .invokestatic 347, 3, 189, 1, 112, 2130), (6, .aload_n 0, 1, 0, 0, 0, 0), (7, .getfield 322, 3, 11, 51, 0, 1706), (10, .iadd, 1, 0, 0, 0, 0), (11, .aload_n 0, 1, 0, 0, 0, 0), (12, .iload_n 2, 1, 0, 0, 0, 0), (13, .invokevirtual 350, 3, 190, 2, 110, 2133)],
  [(16, .aload_n 0, 1, 0, 0, 0, 0), (17, .getfield 319, 3, 11, 52, 0, 1707), (20, .iadd, 1, 0, 0, 0, 0), (21, .iload_n 2, 1, 0, 0, 0, 0), (22, .invokestatic 353, 3, 188, 1, 112, 2164), (25, .ifCond .ne 7, 3, 32, 0, 0, 0), (28, .iconst 1, 1, 0, 0, 0, 0), (29, .goto 4, 3, 33, 0, 0, 0)],
  [(32, .iconst 0, 1, 0, 0, 0, 0), (33, .aload_n 0, 1, 0, 0, 0, 0), (34, .getfield 331, 3, 11, 54, 0, 1709), (37, .invokevirtual 356, 3, 187, 6, 110, 2167), (40, .ireturn, 1, 0, 0, 0, 0)]], [], 1, 3)
def qc_X11_mostFloats : qCd := ([[(0, .iconst 2, 1, 0, 0, 0, 0), (1, .aload_n 0, 1, 0, 0, 0, 0), (2, .getfield 126, 3, 11, 45, 0, 1701), (5, .iload_n 1, 1, 0, 0, 0, 0), (6, .iaload, 1, 0, 0, 0, 0), (7, .iload_n 2, 1, 0, 0, 0, 0), (8, .isub, 1, 0, 0, 0, 0), (9, .invokestatic 315, 3, 153, 2, 112, 2149), (12, .ireturn, 1, 0, 0, 0, 0)]], [], 1, 3)
def qc_X11_goesThrough : qCd := ([[(0, .iload_n 2, 1, 0, 0, 0, 0), (1, .invokestatic 347, 3, 189, 1, 112, 2130), (4, .istore 4, 2, 0, 0, 0, 0), (6, .iload_n 2, 1, 0, 0, 0, 0), (7, .sipush 300, 3, 0, 0, 0, 0), (10, .idiv, 1, 0, 0, 0, 0), (11, .istore 5, 2, 0, 0, 0, 0), (13, .aload_n 0, 1, 0, 0, 0, 0), (14, .getfield 138, 3, 11, 49, 0, 1705)],
  [(17, .iload_n 2, 1, 0, 0, 0, 0), (18, .ldc_w 297, 3, 536870912, 0, 0, 2097), (21, .iastore, 1, 0, 0, 0, 0), (22, .iload 5, 2, 0, 0, 0, 0), (24, .iconst 1, 1, 0, 0, 0, 0), (25, .iadd, 1, 0, 0, 0, 0), (26, .istore 6, 2, 0, 0, 0, 0), (28, .iload 6, 2, 0, 0, 0, 0), (30, .aload_n 0, 1, 0, 0, 0, 0), (31, .getfield 87, 3, 11, 32, 0, 1688)],
  [(34, .iload_n 1, 1, 0, 0, 0, 0), (35, .iaload, 1, 0, 0, 0, 0), (36, .if_icmp .gt 156, 3, 192, 0, 0, 0), (39, .iload 6, 2, 0, 0, 0, 0), (41, .iload 5, 2, 0, 0, 0, 0), (43, .isub, 1, 0, 0, 0, 0), (44, .aload_n 0, 1, 0, 0, 0, 0), (45, .getfield 13, 3, 11, 2, 0, 1658)],
  [(48, .if_icmp .gt 144, 3, 192, 0, 0, 0), (51, .aload_n 0, 1, 0, 0, 0, 0), (52, .iload 6, 2, 0, 0, 0, 0), (54, .iload 4, 2, 0, 0, 0, 0), (56, .invokevirtual 360, 3, 192, 3, 110, 2179), (59, .istore 7, 2, 0, 0, 0, 0), (61, .iload 7, 2, 0, 0, 0, 0), (63, .ifCond .lt 123, 3, 186, 0, 0, 0)],
  [(66, .aload_n 0, 1, 0, 0, 0, 0), (67, .iload_n 1, 1, 0, 0, 0, 0), (68, .iload_n 2, 1, 0, 0, 0, 0), (69, .iload 6, 2, 0, 0, 0, 0), (71, .iload 5, 2, 0, 0, 0, 0), (73, .isub, 1, 0, 0, 0, 0), (74, .iload 7, 2, 0, 0, 0, 0), (76, .invokevirtual 363, 3, 198, 5, 110, 2126), (79, .ifCond .eq 101, 3, 180, 0, 0, 0)],
  [(82, .aload_n 0, 1, 0, 0, 0, 0), (83, .iload 6, 2, 0, 0, 0, 0), (85, .iload_n 2, 1, 0, 0, 0, 0), (86, .invokevirtual 367, 3, 191, 3, 110, 2160), (89, .istore 8, 2, 0, 0, 0, 0), (91, .iload_n 3, 1, 0, 0, 0, 0), (92, .ifCond .eq 14, 3, 106, 0, 0, 0), (95, .aload_n 0, 1, 0, 0, 0, 0)],
  [(96, .getfield 135, 3, 11, 48, 0, 1704), (99, .iload 8, 2, 0, 0, 0, 0), (101, .iconst 1, 1, 0, 0, 0, 0), (102, .bastore, 1, 0, 0, 0, 0), (103, .goto 77, 3, 180, 0, 0, 0), (106, .aload_n 0, 1, 0, 0, 0, 0), (107, .getfield 337, 3, 11, 55, 0, 1710), (110, .istore 9, 2, 0, 0, 0, 0)],
  [(112, .iload 9, 2, 0, 0, 0, 0), (114, .iload 6, 2, 0, 0, 0, 0), (116, .aload_n 0, 1, 0, 0, 0, 0), (117, .getfield 87, 3, 11, 32, 0, 1688), (120, .iload_n 1, 1, 0, 0, 0, 0), (121, .iaload, 1, 0, 0, 0, 0), (122, .if_icmp .ge 13, 3, 135, 0, 0, 0), (125, .aload_n 0, 1, 0, 0, 0, 0), (126, .getfield 138, 3, 11, 49, 0, 1705)],
  [(129, .iload 8, 2, 0, 0, 0, 0), (131, .iaload, 1, 0, 0, 0, 0), (132, .goto 28, 3, 160, 0, 0, 0), (135, .iconst 5, 1, 0, 0, 0, 0), (136, .aload_n 0, 1, 0, 0, 0, 0), (137, .iload_n 1, 1, 0, 0, 0, 0), (138, .iload 4, 2, 0, 0, 0, 0), (140, .aload_n 0, 1, 0, 0, 0, 0), (141, .getfield 322, 3, 11, 51, 0, 1706)],
  [(144, .iadd, 1, 0, 0, 0, 0), (145, .aload_n 0, 1, 0, 0, 0, 0), (146, .iload_n 2, 1, 0, 0, 0, 0), (147, .invokevirtual 350, 3, 190, 2, 110, 2133), (150, .aload_n 0, 1, 0, 0, 0, 0), (151, .getfield 319, 3, 11, 52, 0, 1707), (154, .iadd, 1, 0, 0, 0, 0), (155, .iconst 0, 1, 0, 0, 0, 0), (156, .invokevirtual 370, 3, 186, 5, 110, 2183), (159, .imul, 1, 0, 0, 0, 0)],
  [(160, .iadd, 1, 0, 0, 0, 0), (161, .istore 9, 2, 0, 0, 0, 0), (163, .aload_n 0, 1, 0, 0, 0, 0), (164, .getfield 138, 3, 11, 49, 0, 1705), (167, .iload_n 2, 1, 0, 0, 0, 0), (168, .aload_n 0, 1, 0, 0, 0, 0), (169, .getfield 138, 3, 11, 49, 0, 1705), (172, .iload_n 2, 1, 0, 0, 0, 0), (173, .iaload, 1, 0, 0, 0, 0), (174, .iload 9, 2, 0, 0, 0, 0)],
  [(176, .invokestatic 315, 3, 153, 2, 112, 2149), (179, .iastore, 1, 0, 0, 0, 0), (180, .iinc 7 (-1), 3, 0, 0, 0, 0), (183, .goto (-122), 3, 61, 0, 0, 0), (186, .iinc 6 1, 3, 0, 0, 0, 0), (189, .goto (-161), 3, 28, 0, 0, 0)],
  [(192, .return_, 1, 0, 0, 0, 0)]], [], 0, 10)
def qc_X11_leastFrom : qCd := ([[(0, .iload_n 2, 1, 0, 0, 0, 0), (1, .sipush 300, 3, 0, 0, 0, 0), (4, .idiv, 1, 0, 0, 0, 0), (5, .istore_n 3, 1, 0, 0, 0, 0), (6, .iload_n 3, 1, 0, 0, 0, 0), (7, .sipush 300, 3, 0, 0, 0, 0), (10, .imul, 1, 0, 0, 0, 0), (11, .istore 4, 2, 0, 0, 0, 0), (13, .iload 4, 2, 0, 0, 0, 0), (15, .aload_n 0, 1, 0, 0, 0, 0)],
  [(16, .getfield 87, 3, 11, 32, 0, 1688), (19, .iload_n 1, 1, 0, 0, 0, 0), (20, .iaload, 1, 0, 0, 0, 0), (21, .iconst 1, 1, 0, 0, 0, 0), (22, .iadd, 1, 0, 0, 0, 0), (23, .sipush 300, 3, 0, 0, 0, 0), (26, .imul, 1, 0, 0, 0, 0), (27, .if_icmp .ge 27, 3, 54, 0, 0, 0), (30, .aload_n 0, 1, 0, 0, 0, 0), (31, .getfield 135, 3, 11, 48, 0, 1704)],
  [(34, .iload 4, 2, 0, 0, 0, 0), (36, .iload 4, 2, 0, 0, 0, 0), (38, .iload_n 2, 1, 0, 0, 0, 0), (39, .if_icmp .ne 7, 3, 46, 0, 0, 0), (42, .iconst 1, 1, 0, 0, 0, 0), (43, .goto 4, 3, 47, 0, 0, 0), (46, .iconst 0, 1, 0, 0, 0, 0), (47, .bastore, 1, 0, 0, 0, 0)],
  [(48, .iinc 4 1, 3, 0, 0, 0, 0), (51, .goto (-38), 3, 13, 0, 0, 0), (54, .iload_n 3, 1, 0, 0, 0, 0), (55, .sipush 300, 3, 0, 0, 0, 0), (58, .imul, 1, 0, 0, 0, 0), (59, .istore 4, 2, 0, 0, 0, 0), (61, .iload 4, 2, 0, 0, 0, 0), (63, .aload_n 0, 1, 0, 0, 0, 0)],
  [(64, .getfield 87, 3, 11, 32, 0, 1688), (67, .iload_n 1, 1, 0, 0, 0, 0), (68, .iaload, 1, 0, 0, 0, 0), (69, .sipush 300, 3, 0, 0, 0, 0), (72, .imul, 1, 0, 0, 0, 0), (73, .if_icmp .ge 27, 3, 100, 0, 0, 0), (76, .aload_n 0, 1, 0, 0, 0, 0), (77, .getfield 135, 3, 11, 48, 0, 1704)],
  [(80, .iload 4, 2, 0, 0, 0, 0), (82, .baload, 1, 0, 0, 0, 0), (83, .ifCond .eq 11, 3, 94, 0, 0, 0), (86, .aload_n 0, 1, 0, 0, 0, 0), (87, .iload_n 1, 1, 0, 0, 0, 0), (88, .iload 4, 2, 0, 0, 0, 0), (90, .iconst 1, 1, 0, 0, 0, 0), (91, .invokevirtual 373, 3, 193, 4, 110, 2175), (94, .iinc 4 1, 3, 0, 0, 0, 0)],
  [(97, .goto (-36), 3, 61, 0, 0, 0), (100, .aload_n 0, 1, 0, 0, 0, 0), (101, .getfield 87, 3, 11, 32, 0, 1688), (104, .iload_n 1, 1, 0, 0, 0, 0), (105, .iaload, 1, 0, 0, 0, 0), (106, .sipush 300, 3, 0, 0, 0, 0), (109, .imul, 1, 0, 0, 0, 0), (110, .iconst 1, 1, 0, 0, 0, 0), (111, .isub, 1, 0, 0, 0, 0)],
  [(112, .istore 4, 2, 0, 0, 0, 0), (114, .iload 4, 2, 0, 0, 0, 0), (116, .iload_n 3, 1, 0, 0, 0, 0), (117, .sipush 300, 3, 0, 0, 0, 0), (120, .imul, 1, 0, 0, 0, 0), (121, .if_icmp .lt 27, 3, 148, 0, 0, 0), (124, .aload_n 0, 1, 0, 0, 0, 0), (125, .getfield 135, 3, 11, 48, 0, 1704)],
  [(128, .iload 4, 2, 0, 0, 0, 0), (130, .baload, 1, 0, 0, 0, 0), (131, .ifCond .eq 11, 3, 142, 0, 0, 0), (134, .aload_n 0, 1, 0, 0, 0, 0), (135, .iload_n 1, 1, 0, 0, 0, 0), (136, .iload 4, 2, 0, 0, 0, 0), (138, .iconst 0, 1, 0, 0, 0, 0), (139, .invokevirtual 373, 3, 193, 4, 110, 2175), (142, .iinc 4 (-1), 3, 0, 0, 0, 0)],
  [(145, .goto (-31), 3, 114, 0, 0, 0), (148, .aload_n 0, 1, 0, 0, 0, 0), (149, .getfield 138, 3, 11, 49, 0, 1705), (152, .iload_n 2, 1, 0, 0, 0, 0), (153, .iaload, 1, 0, 0, 0, 0), (154, .ireturn, 1, 0, 0, 0, 0)]], [], 1, 5)
def qc_X11_addsPage : qCd := ([[(0, .aload_n 0, 1, 0, 0, 0, 0), (1, .dup, 1, 0, 0, 0, 0), (2, .getfield 377, 3, 11, 58, 0, 1713), (5, .iconst 1, 1, 0, 0, 0, 0), (6, .iadd, 1, 0, 0, 0, 0), (7, .putfield 377, 3, 11, 58, 0, 1713), (10, .aload_n 0, 1, 0, 0, 0, 0), (11, .getfield 141, 3, 11, 59, 0, 1714), (14, .aload_n 0, 1, 0, 0, 0, 0), (15, .getfield 377, 3, 11, 58, 0, 1713)],
  [(18, .iload_n 1, 1, 0, 0, 0, 0), (19, .iastore, 1, 0, 0, 0, 0), (20, .aload_n 0, 1, 0, 0, 0, 0), (21, .getfield 144, 3, 11, 60, 0, 1715), (24, .aload_n 0, 1, 0, 0, 0, 0), (25, .getfield 377, 3, 11, 58, 0, 1713), (28, .iload_n 2, 1, 0, 0, 0, 0), (29, .iastore, 1, 0, 0, 0, 0), (30, .aload_n 0, 1, 0, 0, 0, 0), (31, .getfield 147, 3, 11, 61, 0, 1716)],
  [(34, .aload_n 0, 1, 0, 0, 0, 0), (35, .getfield 377, 3, 11, 58, 0, 1713), (38, .iload_n 3, 1, 0, 0, 0, 0), (39, .iastore, 1, 0, 0, 0, 0), (40, .aload_n 0, 1, 0, 0, 0, 0), (41, .getfield 150, 3, 11, 62, 0, 1717), (44, .aload_n 0, 1, 0, 0, 0, 0), (45, .getfield 377, 3, 11, 58, 0, 1713)],
  [(48, .iload 4, 2, 0, 0, 0, 0), (50, .iastore, 1, 0, 0, 0, 0), (51, .aload_n 0, 1, 0, 0, 0, 0), (52, .getfield 153, 3, 11, 63, 0, 1718), (55, .aload_n 0, 1, 0, 0, 0, 0), (56, .getfield 377, 3, 11, 58, 0, 1713), (59, .iload 5, 2, 0, 0, 0, 0), (61, .iastore, 1, 0, 0, 0, 0), (62, .aload_n 0, 1, 0, 0, 0, 0), (63, .getfield 156, 3, 11, 64, 0, 1719)],
  [(66, .aload_n 0, 1, 0, 0, 0, 0), (67, .getfield 377, 3, 11, 58, 0, 1713), (70, .iload 6, 2, 0, 0, 0, 0), (72, .iastore, 1, 0, 0, 0, 0), (73, .aload_n 0, 1, 0, 0, 0, 0), (74, .getfield 159, 3, 11, 65, 0, 1720), (77, .aload_n 0, 1, 0, 0, 0, 0), (78, .getfield 377, 3, 11, 58, 0, 1713)],
  [(81, .iload 7, 2, 0, 0, 0, 0), (83, .iastore, 1, 0, 0, 0, 0), (84, .aload_n 0, 1, 0, 0, 0, 0), (85, .getfield 162, 3, 11, 66, 0, 1721), (88, .aload_n 0, 1, 0, 0, 0, 0), (89, .getfield 377, 3, 11, 58, 0, 1713), (92, .iload 8, 2, 0, 0, 0, 0), (94, .iastore, 1, 0, 0, 0, 0), (95, .aload_n 0, 1, 0, 0, 0, 0)],
  [(96, .getfield 165, 3, 11, 67, 0, 1722), (99, .aload_n 0, 1, 0, 0, 0, 0), (100, .getfield 377, 3, 11, 58, 0, 1713), (103, .iload 9, 2, 0, 0, 0, 0), (105, .iastore, 1, 0, 0, 0, 0), (106, .iload_n 2, 1, 0, 0, 0, 0), (107, .istore 10, 2, 0, 0, 0, 0), (109, .iload 10, 2, 0, 0, 0, 0), (111, .iload_n 2, 1, 0, 0, 0, 0)],
  [(112, .iload_n 3, 1, 0, 0, 0, 0), (113, .iadd, 1, 0, 0, 0, 0), (114, .if_icmp .ge 25, 3, 139, 0, 0, 0), (117, .aload_n 0, 1, 0, 0, 0, 0), (118, .getfield 102, 3, 11, 37, 0, 1693), (121, .bipush 70, 2, 0, 0, 0, 0), (123, .iload_n 1, 1, 0, 0, 0, 0), (124, .imul, 1, 0, 0, 0, 0), (125, .iload 10, 2, 0, 0, 0, 0), (127, .iadd, 1, 0, 0, 0, 0)],
  [(128, .aload_n 0, 1, 0, 0, 0, 0), (129, .getfield 377, 3, 11, 58, 0, 1713), (132, .iastore, 1, 0, 0, 0, 0), (133, .iinc 10 1, 3, 0, 0, 0, 0), (136, .goto (-27), 3, 109, 0, 0, 0), (139, .return_, 1, 0, 0, 0, 0)]], [], 0, 11)
def qc_X11_addsBare : qCd := ([[(0, .aload_n 0, 1, 0, 0, 0, 0), (1, .iload_n 1, 1, 0, 0, 0, 0), (2, .iconst 0, 1, 0, 0, 0, 0), (3, .iconst 0, 1, 0, 0, 0, 0), (4, .iconst 0, 1, 0, 0, 0, 0), (5, .iconst 0, 1, 0, 0, 0, 0), (6, .iconst 0, 1, 0, 0, 0, 0), (7, .iconst 0, 1, 0, 0, 0, 0), (8, .iconst 0, 1, 0, 0, 0, 0), (9, .iconst 0, 1, 0, 0, 0, 0), (10, .invokevirtual 343, 3, 195, 10, 110, 2081), (13, .return_, 1, 0, 0, 0, 0)]], [], 0, 2)
def qc_X11_addsTried : qCd := ([[(0, .iload_n 2, 1, 0, 0, 0, 0), (1, .sipush 300, 3, 0, 0, 0, 0), (4, .idiv, 1, 0, 0, 0, 0), (5, .istore 4, 2, 0, 0, 0, 0), (7, .aload_n 0, 1, 0, 0, 0, 0), (8, .iload_n 1, 1, 0, 0, 0, 0), (9, .iload 4, 2, 0, 0, 0, 0), (11, .iload_n 3, 1, 0, 0, 0, 0), (12, .iload_n 2, 1, 0, 0, 0, 0), (13, .invokestatic 347, 3, 189, 1, 112, 2130)],
  [(16, .aload_n 0, 1, 0, 0, 0, 0), (17, .getfield 322, 3, 11, 51, 0, 1706), (20, .aload_n 0, 1, 0, 0, 0, 0), (21, .iload_n 2, 1, 0, 0, 0, 0), (22, .invokevirtual 350, 3, 190, 2, 110, 2133), (25, .aload_n 0, 1, 0, 0, 0, 0), (26, .getfield 319, 3, 11, 52, 0, 1707), (29, .aload_n 0, 1, 0, 0, 0, 0), (30, .getfield 334, 3, 11, 53, 0, 1708)],
  [(33, .aload_n 0, 1, 0, 0, 0, 0), (34, .getfield 331, 3, 11, 54, 0, 1709), (37, .invokevirtual 343, 3, 195, 10, 110, 2081), (40, .aload_n 0, 1, 0, 0, 0, 0), (41, .getfield 174, 3, 11, 70, 0, 1725), (44, .iload_n 1, 1, 0, 0, 0, 0), (45, .dup2, 1, 0, 0, 0, 0), (46, .iaload, 1, 0, 0, 0, 0), (47, .aload_n 0, 1, 0, 0, 0, 0)],
  [(48, .getfield 337, 3, 11, 55, 0, 1710), (51, .iadd, 1, 0, 0, 0, 0), (52, .iastore, 1, 0, 0, 0, 0), (53, .aload_n 0, 1, 0, 0, 0, 0), (54, .iload 4, 2, 0, 0, 0, 0), (56, .iload_n 3, 1, 0, 0, 0, 0), (57, .iadd, 1, 0, 0, 0, 0), (58, .iload_n 2, 1, 0, 0, 0, 0), (59, .invokevirtual 367, 3, 191, 3, 110, 2160), (62, .ireturn, 1, 0, 0, 0, 0)]], [], 1, 5)
def qc_X11_triesAt : qCd := ([[(0, .aload_n 0, 1, 0, 0, 0, 0), (1, .iload_n 1, 1, 0, 0, 0, 0), (2, .iload_n 2, 1, 0, 0, 0, 0), (3, .sipush 300, 3, 0, 0, 0, 0), (6, .idiv, 1, 0, 0, 0, 0), (7, .iload_n 2, 1, 0, 0, 0, 0), (8, .invokestatic 347, 3, 189, 1, 112, 2130), (11, .aload_n 0, 1, 0, 0, 0, 0), (12, .iload_n 2, 1, 0, 0, 0, 0), (13, .invokevirtual 350, 3, 190, 2, 110, 2133)],
  [(16, .iload_n 2, 1, 0, 0, 0, 0), (17, .bipush 15, 2, 0, 0, 0, 0), (19, .irem, 1, 0, 0, 0, 0), (20, .iload_n 3, 1, 0, 0, 0, 0), (21, .iload 4, 2, 0, 0, 0, 0), (23, .invokevirtual 380, 3, 185, 8, 110, 2137), (26, .ireturn, 1, 0, 0, 0, 0)]], [], 2, 5)
def qc_X11_addsBest : qCd := ([[(0, .iload_n 2, 1, 0, 0, 0, 0), (1, .sipush 300, 3, 0, 0, 0, 0), (4, .idiv, 1, 0, 0, 0, 0), (5, .istore_n 3, 1, 0, 0, 0, 0), (6, .iload_n 2, 1, 0, 0, 0, 0), (7, .invokestatic 347, 3, 189, 1, 112, 2130), (10, .istore 4, 2, 0, 0, 0, 0), (12, .aload_n 0, 1, 0, 0, 0, 0), (13, .getfield 87, 3, 11, 32, 0, 1688)],
  [(16, .iload_n 1, 1, 0, 0, 0, 0), (17, .iaload, 1, 0, 0, 0, 0), (18, .iload_n 3, 1, 0, 0, 0, 0), (19, .aload_n 0, 1, 0, 0, 0, 0), (20, .getfield 13, 3, 11, 2, 0, 1658), (23, .iadd, 1, 0, 0, 0, 0), (24, .invokestatic 315, 3, 153, 2, 112, 2149), (27, .istore 5, 2, 0, 0, 0, 0), (29, .iload 5, 2, 0, 0, 0, 0), (31, .iload_n 3, 1, 0, 0, 0, 0)],
  [(32, .if_icmp .le 123, 3, 155, 0, 0, 0), (35, .aload_n 0, 1, 0, 0, 0, 0), (36, .iload 5, 2, 0, 0, 0, 0), (38, .iload 4, 2, 0, 0, 0, 0), (40, .invokevirtual 360, 3, 192, 3, 110, 2179), (43, .istore 6, 2, 0, 0, 0, 0), (45, .iload 6, 2, 0, 0, 0, 0), (47, .ifCond .lt 102, 3, 149, 0, 0, 0)],
  [(50, .aload_n 0, 1, 0, 0, 0, 0), (51, .iload_n 1, 1, 0, 0, 0, 0), (52, .iload_n 2, 1, 0, 0, 0, 0), (53, .iload 5, 2, 0, 0, 0, 0), (55, .iload_n 3, 1, 0, 0, 0, 0), (56, .isub, 1, 0, 0, 0, 0), (57, .iload 6, 2, 0, 0, 0, 0), (59, .invokevirtual 363, 3, 198, 5, 110, 2126), (62, .ifCond .eq 81, 3, 143, 0, 0, 0)],
  [(65, .iload 5, 2, 0, 0, 0, 0), (67, .aload_n 0, 1, 0, 0, 0, 0), (68, .getfield 87, 3, 11, 32, 0, 1688), (71, .iload_n 1, 1, 0, 0, 0, 0), (72, .iaload, 1, 0, 0, 0, 0), (73, .if_icmp .ge 18, 3, 91, 0, 0, 0), (76, .aload_n 0, 1, 0, 0, 0, 0), (77, .getfield 138, 3, 11, 49, 0, 1705)],
  [(80, .aload_n 0, 1, 0, 0, 0, 0), (81, .iload 5, 2, 0, 0, 0, 0), (83, .iload_n 2, 1, 0, 0, 0, 0), (84, .invokevirtual 367, 3, 191, 3, 110, 2160), (87, .iaload, 1, 0, 0, 0, 0), (88, .goto 26, 3, 114, 0, 0, 0), (91, .iconst 5, 1, 0, 0, 0, 0), (92, .aload_n 0, 1, 0, 0, 0, 0), (93, .iload_n 1, 1, 0, 0, 0, 0), (94, .iload 4, 2, 0, 0, 0, 0)],
  [(96, .iload 6, 2, 0, 0, 0, 0), (98, .iadd, 1, 0, 0, 0, 0), (99, .aload_n 0, 1, 0, 0, 0, 0), (100, .iload_n 2, 1, 0, 0, 0, 0), (101, .invokevirtual 350, 3, 190, 2, 110, 2133), (104, .aload_n 0, 1, 0, 0, 0, 0), (105, .getfield 319, 3, 11, 52, 0, 1707), (108, .iadd, 1, 0, 0, 0, 0), (109, .iconst 0, 1, 0, 0, 0, 0), (110, .invokevirtual 370, 3, 186, 5, 110, 2183)],
  [(113, .imul, 1, 0, 0, 0, 0), (114, .istore 7, 2, 0, 0, 0, 0), (116, .aload_n 0, 1, 0, 0, 0, 0), (117, .getfield 337, 3, 11, 55, 0, 1710), (120, .iload 7, 2, 0, 0, 0, 0), (122, .iadd, 1, 0, 0, 0, 0), (123, .aload_n 0, 1, 0, 0, 0, 0), (124, .getfield 138, 3, 11, 49, 0, 1705), (127, .iload_n 2, 1, 0, 0, 0, 0)],
  [(128, .iaload, 1, 0, 0, 0, 0), (129, .if_icmp .ne 14, 3, 143, 0, 0, 0), (132, .aload_n 0, 1, 0, 0, 0, 0), (133, .iload_n 1, 1, 0, 0, 0, 0), (134, .iload_n 2, 1, 0, 0, 0, 0), (135, .iload 5, 2, 0, 0, 0, 0), (137, .iload_n 3, 1, 0, 0, 0, 0), (138, .isub, 1, 0, 0, 0, 0), (139, .invokevirtual 384, 3, 197, 4, 110, 2156), (142, .ireturn, 1, 0, 0, 0, 0), (143, .iinc 6 (-1), 3, 0, 0, 0, 0)],
  [(146, .goto (-101), 3, 45, 0, 0, 0), (149, .iinc 5 (-1), 3, 0, 0, 0, 0), (152, .goto (-123), 3, 29, 0, 0, 0), (155, .iconst (-1), 1, 0, 0, 0, 0), (156, .ireturn, 1, 0, 0, 0, 0)]], [], 1, 8)
def qc_X11_isRowSame : qCd := ([[(0, .bipush 70, 2, 0, 0, 0, 0), (2, .iload_n 1, 1, 0, 0, 0, 0), (3, .imul, 1, 0, 0, 0, 0), (4, .iload_n 2, 1, 0, 0, 0, 0), (5, .iadd, 1, 0, 0, 0, 0), (6, .istore_n 3, 1, 0, 0, 0, 0), (7, .bipush 10, 2, 0, 0, 0, 0), (9, .iload_n 1, 1, 0, 0, 0, 0), (10, .imul, 1, 0, 0, 0, 0), (11, .aload_n 0, 1, 0, 0, 0, 0), (12, .getfield 90, 3, 11, 33, 0, 1689), (15, .iload_n 3, 1, 0, 0, 0, 0)],
  [(16, .iaload, 1, 0, 0, 0, 0), (17, .iadd, 1, 0, 0, 0, 0), (18, .istore 4, 2, 0, 0, 0, 0), (20, .iload_n 2, 1, 0, 0, 0, 0), (21, .aload_n 0, 1, 0, 0, 0, 0), (22, .getfield 87, 3, 11, 32, 0, 1688), (25, .iload_n 1, 1, 0, 0, 0, 0), (26, .iaload, 1, 0, 0, 0, 0), (27, .if_icmp .ge 49, 3, 76, 0, 0, 0), (30, .iload_n 2, 1, 0, 0, 0, 0), (31, .aload_n 0, 1, 0, 0, 0, 0)],
  [(32, .getfield 183, 3, 11, 78, 0, 1733), (35, .iload_n 1, 1, 0, 0, 0, 0), (36, .iaload, 1, 0, 0, 0, 0), (37, .if_icmp .ge 39, 3, 76, 0, 0, 0), (40, .aload_n 0, 1, 0, 0, 0, 0), (41, .getfield 90, 3, 11, 33, 0, 1689), (44, .iload_n 3, 1, 0, 0, 0, 0), (45, .iaload, 1, 0, 0, 0, 0), (46, .aload_n 0, 1, 0, 0, 0, 0), (47, .getfield 189, 3, 11, 80, 0, 1735)],
  [(50, .iload_n 3, 1, 0, 0, 0, 0), (51, .iaload, 1, 0, 0, 0, 0), (52, .if_icmp .ne 24, 3, 76, 0, 0, 0), (55, .aload_n 0, 1, 0, 0, 0, 0), (56, .getfield 30, 3, 11, 8, 0, 1664), (59, .iload 4, 2, 0, 0, 0, 0), (61, .iaload, 1, 0, 0, 0, 0), (62, .aload_n 0, 1, 0, 0, 0, 0), (63, .getfield 186, 3, 11, 79, 0, 1734)],
  [(66, .iload 4, 2, 0, 0, 0, 0), (68, .iaload, 1, 0, 0, 0, 0), (69, .if_icmp .ne 7, 3, 76, 0, 0, 0), (72, .iconst 1, 1, 0, 0, 0, 0), (73, .goto 4, 3, 77, 0, 0, 0), (76, .iconst 0, 1, 0, 0, 0, 0), (77, .istore 5, 2, 0, 0, 0, 0), (79, .iload 5, 2, 0, 0, 0, 0)],
  [(81, .ifCond .eq 37, 3, 118, 0, 0, 0), (84, .aload_n 0, 1, 0, 0, 0, 0), (85, .getfield 96, 3, 11, 35, 0, 1691), (88, .iload_n 3, 1, 0, 0, 0, 0), (89, .iaload, 1, 0, 0, 0, 0), (90, .aload_n 0, 1, 0, 0, 0, 0), (91, .getfield 192, 3, 11, 81, 0, 1736), (94, .iload_n 3, 1, 0, 0, 0, 0), (95, .iaload, 1, 0, 0, 0, 0)],
  [(96, .if_icmp .ne 22, 3, 118, 0, 0, 0), (99, .aload_n 0, 1, 0, 0, 0, 0), (100, .getfield 99, 3, 11, 36, 0, 1692), (103, .iload_n 3, 1, 0, 0, 0, 0), (104, .iaload, 1, 0, 0, 0, 0), (105, .aload_n 0, 1, 0, 0, 0, 0), (106, .getfield 195, 3, 11, 82, 0, 1737), (109, .iload_n 3, 1, 0, 0, 0, 0), (110, .iaload, 1, 0, 0, 0, 0), (111, .if_icmp .ne 7, 3, 118, 0, 0, 0)],
  [(114, .iconst 1, 1, 0, 0, 0, 0), (115, .goto 4, 3, 119, 0, 0, 0), (118, .iconst 0, 1, 0, 0, 0, 0), (119, .ireturn, 1, 0, 0, 0, 0)]], [], 2, 6)
def qc_X11_addsKept : qCd := ([[(0, .iload_n 2, 1, 0, 0, 0, 0), (1, .istore_n 3, 1, 0, 0, 0, 0), (2, .aload_n 0, 1, 0, 0, 0, 0), (3, .getfield 387, 3, 11, 73, 0, 1728), (6, .ifCond .eq 44, 3, 50, 0, 0, 0), (9, .aload_n 0, 1, 0, 0, 0, 0), (10, .getfield 390, 3, 11, 75, 0, 1730), (13, .aload_n 0, 1, 0, 0, 0, 0), (14, .getfield 7, 3, 11, 1, 0, 1657)],
  [(17, .if_icmp .ne 33, 3, 50, 0, 0, 0), (20, .aload_n 0, 1, 0, 0, 0, 0), (21, .getfield 393, 3, 11, 76, 0, 1731), (24, .aload_n 0, 1, 0, 0, 0, 0), (25, .getfield 13, 3, 11, 2, 0, 1658), (28, .if_icmp .ne 22, 3, 50, 0, 0, 0), (31, .aload_n 0, 1, 0, 0, 0, 0)],
  [(32, .getfield 180, 3, 11, 77, 0, 1732), (35, .iload_n 1, 1, 0, 0, 0, 0), (36, .iaload, 1, 0, 0, 0, 0), (37, .aload_n 0, 1, 0, 0, 0, 0), (38, .getfield 168, 3, 11, 68, 0, 1723), (41, .iload_n 1, 1, 0, 0, 0, 0), (42, .iaload, 1, 0, 0, 0, 0), (43, .if_icmp .ne 7, 3, 50, 0, 0, 0), (46, .iconst 1, 1, 0, 0, 0, 0), (47, .goto 4, 3, 51, 0, 0, 0)],
  [(50, .iconst 0, 1, 0, 0, 0, 0), (51, .istore 4, 2, 0, 0, 0, 0), (53, .aload_n 0, 1, 0, 0, 0, 0), (54, .getfield 180, 3, 11, 77, 0, 1732), (57, .iload_n 1, 1, 0, 0, 0, 0), (58, .iaload, 1, 0, 0, 0, 0), (59, .istore 5, 2, 0, 0, 0, 0), (61, .iload 4, 2, 0, 0, 0, 0), (63, .ifCond .eq 177, 3, 240, 0, 0, 0)],
  [(66, .iload 5, 2, 0, 0, 0, 0), (68, .aload_n 0, 1, 0, 0, 0, 0), (69, .getfield 396, 3, 11, 74, 0, 1729), (72, .if_icmp .gt 168, 3, 240, 0, 0, 0), (75, .aload_n 0, 1, 0, 0, 0, 0), (76, .getfield 210, 3, 11, 87, 0, 1742), (79, .iload 5, 2, 0, 0, 0, 0)],
  [(81, .iaload, 1, 0, 0, 0, 0), (82, .iload_n 1, 1, 0, 0, 0, 0), (83, .if_icmp .ne 157, 3, 240, 0, 0, 0), (86, .aload_n 0, 1, 0, 0, 0, 0), (87, .getfield 216, 3, 11, 89, 0, 1744), (90, .iload 5, 2, 0, 0, 0, 0), (92, .iaload, 1, 0, 0, 0, 0), (93, .ifCond .le 31, 3, 124, 0, 0, 0)],
  [(96, .aload_n 0, 1, 0, 0, 0, 0), (97, .getfield 213, 3, 11, 88, 0, 1743), (100, .iload 5, 2, 0, 0, 0, 0), (102, .iaload, 1, 0, 0, 0, 0), (103, .aload_n 0, 1, 0, 0, 0, 0), (104, .getfield 216, 3, 11, 89, 0, 1744), (107, .iload 5, 2, 0, 0, 0, 0), (109, .iaload, 1, 0, 0, 0, 0), (110, .iadd, 1, 0, 0, 0, 0), (111, .aload_n 0, 1, 0, 0, 0, 0)],
  [(112, .getfield 183, 3, 11, 78, 0, 1733), (115, .iload_n 1, 1, 0, 0, 0, 0), (116, .iaload, 1, 0, 0, 0, 0), (117, .if_icmp .ge 7, 3, 124, 0, 0, 0), (120, .iconst 1, 1, 0, 0, 0, 0), (121, .goto 4, 3, 125, 0, 0, 0), (124, .iconst 0, 1, 0, 0, 0, 0), (125, .istore 4, 2, 0, 0, 0, 0), (127, .aload_n 0, 1, 0, 0, 0, 0)],
  [(128, .getfield 213, 3, 11, 88, 0, 1743), (131, .iload 5, 2, 0, 0, 0, 0), (133, .iaload, 1, 0, 0, 0, 0), (134, .istore 6, 2, 0, 0, 0, 0), (136, .iload 4, 2, 0, 0, 0, 0), (138, .ifCond .eq 38, 3, 176, 0, 0, 0), (141, .iload 6, 2, 0, 0, 0, 0), (143, .aload_n 0, 1, 0, 0, 0, 0)],
  [(144, .getfield 213, 3, 11, 88, 0, 1743), (147, .iload 5, 2, 0, 0, 0, 0), (149, .iaload, 1, 0, 0, 0, 0), (150, .aload_n 0, 1, 0, 0, 0, 0), (151, .getfield 216, 3, 11, 89, 0, 1744), (154, .iload 5, 2, 0, 0, 0, 0), (156, .iaload, 1, 0, 0, 0, 0), (157, .iadd, 1, 0, 0, 0, 0), (158, .if_icmp .ge 18, 3, 176, 0, 0, 0)],
  [(161, .aload_n 0, 1, 0, 0, 0, 0), (162, .iload_n 1, 1, 0, 0, 0, 0), (163, .iload 6, 2, 0, 0, 0, 0), (165, .invokevirtual 399, 3, 200, 3, 110, 2122), (168, .istore 4, 2, 0, 0, 0, 0), (170, .iinc 6 1, 3, 0, 0, 0, 0), (173, .goto (-37), 3, 136, 0, 0, 0)],
  [(176, .iload 4, 2, 0, 0, 0, 0), (178, .ifCond .eq 30, 3, 208, 0, 0, 0), (181, .aload_n 0, 1, 0, 0, 0, 0), (182, .iload_n 1, 1, 0, 0, 0, 0), (183, .iload_n 3, 1, 0, 0, 0, 0), (184, .aload_n 0, 1, 0, 0, 0, 0), (185, .getfield 216, 3, 11, 89, 0, 1744), (188, .iload 5, 2, 0, 0, 0, 0), (190, .iaload, 1, 0, 0, 0, 0), (191, .aload_n 0, 1, 0, 0, 0, 0)],
  [(192, .getfield 222, 3, 11, 91, 0, 1746), (195, .iload 5, 2, 0, 0, 0, 0), (197, .iaload, 1, 0, 0, 0, 0), (198, .invokevirtual 363, 3, 198, 5, 110, 2126), (201, .ifCond .eq 7, 3, 208, 0, 0, 0), (204, .iconst 1, 1, 0, 0, 0, 0), (205, .goto 4, 3, 209, 0, 0, 0)],
  [(208, .iconst 0, 1, 0, 0, 0, 0), (209, .istore 4, 2, 0, 0, 0, 0), (211, .iload 4, 2, 0, 0, 0, 0), (213, .ifCond .eq 19, 3, 232, 0, 0, 0), (216, .aload_n 0, 1, 0, 0, 0, 0), (217, .iload_n 1, 1, 0, 0, 0, 0), (218, .iload_n 3, 1, 0, 0, 0, 0), (219, .aload_n 0, 1, 0, 0, 0, 0), (220, .getfield 216, 3, 11, 89, 0, 1744), (223, .iload 5, 2, 0, 0, 0, 0)],
  [(225, .iaload, 1, 0, 0, 0, 0), (226, .invokevirtual 384, 3, 197, 4, 110, 2156), (229, .goto 4, 3, 233, 0, 0, 0), (232, .iload_n 3, 1, 0, 0, 0, 0), (233, .istore_n 3, 1, 0, 0, 0, 0), (234, .iinc 5 1, 3, 0, 0, 0, 0), (237, .goto (-176), 3, 61, 0, 0, 0)],
  [(240, .iload_n 3, 1, 0, 0, 0, 0), (241, .ireturn, 1, 0, 0, 0, 0)]], [], 1, 7)
def qc_X11_makes : qCd := ([[(0, .aload_n 0, 1, 0, 0, 0, 0), (1, .iload_n 1, 1, 0, 0, 0, 0), (2, .invokevirtual 402, 3, 181, 2, 110, 2114), (5, .aload_n 0, 1, 0, 0, 0, 0), (6, .getfield 168, 3, 11, 68, 0, 1723), (9, .iload_n 1, 1, 0, 0, 0, 0), (10, .aload_n 0, 1, 0, 0, 0, 0), (11, .getfield 377, 3, 11, 58, 0, 1713), (14, .iconst 1, 1, 0, 0, 0, 0), (15, .iadd, 1, 0, 0, 0, 0)],
  [(16, .iastore, 1, 0, 0, 0, 0), (17, .aload_n 0, 1, 0, 0, 0, 0), (18, .getfield 174, 3, 11, 70, 0, 1725), (21, .iload_n 1, 1, 0, 0, 0, 0), (22, .iconst 0, 1, 0, 0, 0, 0), (23, .iastore, 1, 0, 0, 0, 0), (24, .iconst 0, 1, 0, 0, 0, 0), (25, .istore_n 3, 1, 0, 0, 0, 0), (26, .iload_n 2, 1, 0, 0, 0, 0), (27, .ifCond .eq 10, 3, 37, 0, 0, 0), (30, .aload_n 0, 1, 0, 0, 0, 0), (31, .iload_n 1, 1, 0, 0, 0, 0)],
  [(32, .iload_n 3, 1, 0, 0, 0, 0), (33, .invokevirtual 405, 3, 201, 3, 110, 2118), (36, .istore_n 3, 1, 0, 0, 0, 0), (37, .aload_n 0, 1, 0, 0, 0, 0), (38, .iload_n 1, 1, 0, 0, 0, 0), (39, .iload_n 3, 1, 0, 0, 0, 0), (40, .invokevirtual 408, 3, 194, 3, 110, 2171), (43, .istore 4, 2, 0, 0, 0, 0), (45, .iload 4, 2, 0, 0, 0, 0), (47, .ldc_w 297, 3, 536870912, 0, 0, 2097)],
  [(50, .if_icmp .lt 5, 3, 55, 0, 0, 0), (53, .iconst 0, 1, 0, 0, 0, 0), (54, .ireturn, 1, 0, 0, 0, 0), (55, .iload_n 3, 1, 0, 0, 0, 0), (56, .sipush 300, 3, 0, 0, 0, 0), (59, .idiv, 1, 0, 0, 0, 0), (60, .aload_n 0, 1, 0, 0, 0, 0), (61, .getfield 87, 3, 11, 32, 0, 1688)],
  [(64, .iload_n 1, 1, 0, 0, 0, 0), (65, .iaload, 1, 0, 0, 0, 0), (66, .if_icmp .ge 13, 3, 79, 0, 0, 0), (69, .aload_n 0, 1, 0, 0, 0, 0), (70, .iload_n 1, 1, 0, 0, 0, 0), (71, .iload_n 3, 1, 0, 0, 0, 0), (72, .invokevirtual 411, 3, 199, 3, 110, 2187), (75, .istore_n 3, 1, 0, 0, 0, 0), (76, .goto (-21), 3, 55, 0, 0, 0), (79, .aload_n 0, 1, 0, 0, 0, 0)],
  [(80, .getfield 174, 3, 11, 70, 0, 1725), (83, .iload_n 1, 1, 0, 0, 0, 0), (84, .dup2, 1, 0, 0, 0, 0), (85, .iaload, 1, 0, 0, 0, 0), (86, .iconst 5, 1, 0, 0, 0, 0), (87, .aload_n 0, 1, 0, 0, 0, 0), (88, .iload_n 1, 1, 0, 0, 0, 0), (89, .iload_n 3, 1, 0, 0, 0, 0), (90, .invokestatic 347, 3, 189, 1, 112, 2130), (93, .aload_n 0, 1, 0, 0, 0, 0), (94, .iload_n 3, 1, 0, 0, 0, 0), (95, .invokevirtual 350, 3, 190, 2, 110, 2133)],
  [(98, .iconst 1, 1, 0, 0, 0, 0), (99, .invokevirtual 370, 3, 186, 5, 110, 2183), (102, .imul, 1, 0, 0, 0, 0), (103, .iadd, 1, 0, 0, 0, 0), (104, .iastore, 1, 0, 0, 0, 0), (105, .aload_n 0, 1, 0, 0, 0, 0), (106, .getfield 171, 3, 11, 69, 0, 1724), (109, .iload_n 1, 1, 0, 0, 0, 0), (110, .aload_n 0, 1, 0, 0, 0, 0), (111, .getfield 377, 3, 11, 58, 0, 1713)],
  [(114, .iastore, 1, 0, 0, 0, 0), (115, .iconst 1, 1, 0, 0, 0, 0), (116, .ireturn, 1, 0, 0, 0, 0)]], [], 2, 5)
def qc_X11_heads : qCd := ([[(0, .iconst 0, 1, 0, 0, 0, 0), (1, .istore_n 1, 1, 0, 0, 0, 0), (2, .iconst 0, 1, 0, 0, 0, 0), (3, .istore_n 2, 1, 0, 0, 0, 0), (4, .iload_n 2, 1, 0, 0, 0, 0), (5, .bipush 30, 2, 0, 0, 0, 0), (7, .if_icmp .ge 26, 3, 33, 0, 0, 0), (10, .iload_n 1, 1, 0, 0, 0, 0), (11, .aload_n 0, 1, 0, 0, 0, 0), (12, .getfield 20, 3, 11, 5, 0, 1661), (15, .iload_n 2, 1, 0, 0, 0, 0)],
  [(16, .baload, 1, 0, 0, 0, 0), (17, .ifCond .eq 7, 3, 24, 0, 0, 0), (20, .iconst 1, 1, 0, 0, 0, 0), (21, .goto 4, 3, 25, 0, 0, 0), (24, .iconst 0, 1, 0, 0, 0, 0), (25, .iadd, 1, 0, 0, 0, 0), (26, .istore_n 1, 1, 0, 0, 0, 0), (27, .iinc 2 1, 3, 0, 0, 0, 0), (30, .goto (-26), 3, 4, 0, 0, 0)],
  [(33, .iload_n 1, 1, 0, 0, 0, 0), (34, .ireturn, 1, 0, 0, 0, 0)]], [], 1, 3)
def qc_X11_makesRound : qCd := ([[(0, .aload_n 0, 1, 0, 0, 0, 0), (1, .iconst 0, 1, 0, 0, 0, 0), (2, .putfield 377, 3, 11, 58, 0, 1713), (5, .aload_n 0, 1, 0, 0, 0, 0), (6, .invokevirtual 414, 3, 203, 1, 110, 2073), (9, .aload_n 0, 1, 0, 0, 0, 0), (10, .getfield 13, 3, 11, 2, 0, 1658), (13, .iadd, 1, 0, 0, 0, 0), (14, .iconst 1, 1, 0, 0, 0, 0), (15, .isub, 1, 0, 0, 0, 0)],
  [(16, .aload_n 0, 1, 0, 0, 0, 0), (17, .getfield 13, 3, 11, 2, 0, 1658), (20, .idiv, 1, 0, 0, 0, 0), (21, .istore_n 2, 1, 0, 0, 0, 0), (22, .iconst 0, 1, 0, 0, 0, 0), (23, .istore_n 3, 1, 0, 0, 0, 0), (24, .iload_n 3, 1, 0, 0, 0, 0), (25, .iload_n 2, 1, 0, 0, 0, 0), (26, .iload_n 2, 1, 0, 0, 0, 0), (27, .iconst 2, 1, 0, 0, 0, 0), (28, .irem, 1, 0, 0, 0, 0), (29, .iadd, 1, 0, 0, 0, 0), (30, .if_icmp .ge 14, 3, 44, 0, 0, 0)],
  [(33, .aload_n 0, 1, 0, 0, 0, 0), (34, .iconst 3, 1, 0, 0, 0, 0), (35, .invokevirtual 418, 3, 196, 2, 110, 2077), (38, .iinc 3 1, 3, 0, 0, 0, 0), (41, .goto (-17), 3, 24, 0, 0, 0), (44, .iconst 1, 1, 0, 0, 0, 0), (45, .istore_n 3, 1, 0, 0, 0, 0), (46, .iconst 0, 1, 0, 0, 0, 0), (47, .istore 4, 2, 0, 0, 0, 0)],
  [(49, .iload 4, 2, 0, 0, 0, 0), (51, .iconst 3, 1, 0, 0, 0, 0), (52, .if_icmp .ge 121, 3, 173, 0, 0, 0), (55, .aload_n 0, 1, 0, 0, 0, 0), (56, .getfield 168, 3, 11, 68, 0, 1723), (59, .iload 4, 2, 0, 0, 0, 0), (61, .iconst (-1), 1, 0, 0, 0, 0), (62, .iastore, 1, 0, 0, 0, 0), (63, .aload_n 0, 1, 0, 0, 0, 0)],
  [(64, .getfield 171, 3, 11, 69, 0, 1724), (67, .iload 4, 2, 0, 0, 0, 0), (69, .iconst (-1), 1, 0, 0, 0, 0), (70, .iastore, 1, 0, 0, 0, 0), (71, .aload_n 0, 1, 0, 0, 0, 0), (72, .getfield 87, 3, 11, 32, 0, 1688), (75, .iload 4, 2, 0, 0, 0, 0), (77, .iconst 0, 1, 0, 0, 0, 0), (78, .iastore, 1, 0, 0, 0, 0), (79, .aload_n 0, 1, 0, 0, 0, 0)],
  [(80, .getfield 174, 3, 11, 70, 0, 1725), (83, .iload 4, 2, 0, 0, 0, 0), (85, .iconst 0, 1, 0, 0, 0, 0), (86, .iastore, 1, 0, 0, 0, 0), (87, .aload_n 0, 1, 0, 0, 0, 0), (88, .getfield 108, 3, 11, 39, 0, 1695), (91, .iload 4, 2, 0, 0, 0, 0), (93, .iconst 0, 1, 0, 0, 0, 0), (94, .iastore, 1, 0, 0, 0, 0), (95, .aload_n 0, 1, 0, 0, 0, 0)],
  [(96, .getfield 114, 3, 11, 41, 0, 1697), (99, .iload 4, 2, 0, 0, 0, 0), (101, .iconst 0, 1, 0, 0, 0, 0), (102, .iastore, 1, 0, 0, 0, 0), (103, .iconst 0, 1, 0, 0, 0, 0), (104, .istore 5, 2, 0, 0, 0, 0), (106, .iload 5, 2, 0, 0, 0, 0), (108, .aload_n 0, 1, 0, 0, 0, 0), (109, .getfield 16, 3, 11, 4, 0, 1660)],
  [(112, .iload 4, 2, 0, 0, 0, 0), (114, .iaload, 1, 0, 0, 0, 0), (115, .if_icmp .ge 52, 3, 167, 0, 0, 0), (118, .aload_n 0, 1, 0, 0, 0, 0), (119, .getfield 20, 3, 11, 5, 0, 1661), (122, .bipush 10, 2, 0, 0, 0, 0), (124, .iload 4, 2, 0, 0, 0, 0), (126, .imul, 1, 0, 0, 0, 0), (127, .iload 5, 2, 0, 0, 0, 0)],
  [(129, .iadd, 1, 0, 0, 0, 0), (130, .baload, 1, 0, 0, 0, 0), (131, .ifCond .ne 30, 3, 161, 0, 0, 0), (134, .aload_n 0, 1, 0, 0, 0, 0), (135, .bipush 10, 2, 0, 0, 0, 0), (137, .iload 4, 2, 0, 0, 0, 0), (139, .imul, 1, 0, 0, 0, 0), (140, .iload 5, 2, 0, 0, 0, 0), (142, .iadd, 1, 0, 0, 0, 0), (143, .invokevirtual 421, 3, 176, 2, 110, 2085)],
  [(146, .ifCond .ne 15, 3, 161, 0, 0, 0), (149, .aload_n 0, 1, 0, 0, 0, 0), (150, .bipush 10, 2, 0, 0, 0, 0), (152, .iload 4, 2, 0, 0, 0, 0), (154, .imul, 1, 0, 0, 0, 0), (155, .iload 5, 2, 0, 0, 0, 0), (157, .iadd, 1, 0, 0, 0, 0), (158, .invokevirtual 424, 3, 178, 2, 110, 2093)],
  [(161, .iinc 5 1, 3, 0, 0, 0, 0), (164, .goto (-58), 3, 106, 0, 0, 0), (167, .iinc 4 1, 3, 0, 0, 0, 0), (170, .goto (-121), 3, 49, 0, 0, 0), (173, .iconst 0, 1, 0, 0, 0, 0), (174, .istore 4, 2, 0, 0, 0, 0)],
  [(176, .iload 4, 2, 0, 0, 0, 0), (178, .iconst 3, 1, 0, 0, 0, 0), (179, .if_icmp .ge 52, 3, 231, 0, 0, 0), (182, .iload_n 3, 1, 0, 0, 0, 0), (183, .ifCond .eq 48, 3, 231, 0, 0, 0), (186, .aload_n 0, 1, 0, 0, 0, 0), (187, .getfield 16, 3, 11, 4, 0, 1660), (190, .iload 4, 2, 0, 0, 0, 0)],
  [(192, .iaload, 1, 0, 0, 0, 0), (193, .ifCond .le 32, 3, 225, 0, 0, 0), (196, .aload_n 0, 1, 0, 0, 0, 0), (197, .iload 4, 2, 0, 0, 0, 0), (199, .invokevirtual 427, 3, 180, 2, 110, 2102), (202, .aload_n 0, 1, 0, 0, 0, 0), (203, .getfield 377, 3, 11, 58, 0, 1713), (206, .iconst 2, 1, 0, 0, 0, 0), (207, .irem, 1, 0, 0, 0, 0)],
  [(208, .iconst 1, 1, 0, 0, 0, 0), (209, .if_icmp .ne 8, 3, 217, 0, 0, 0), (212, .aload_n 0, 1, 0, 0, 0, 0), (213, .iconst 4, 1, 0, 0, 0, 0), (214, .invokevirtual 418, 3, 196, 2, 110, 2077), (217, .aload_n 0, 1, 0, 0, 0, 0), (218, .iload 4, 2, 0, 0, 0, 0), (220, .iload_n 1, 1, 0, 0, 0, 0), (221, .invokevirtual 430, 3, 202, 3, 110, 2110)],
  [(224, .istore_n 3, 1, 0, 0, 0, 0), (225, .iinc 4 1, 3, 0, 0, 0, 0), (228, .goto (-52), 3, 176, 0, 0, 0), (231, .iload_n 3, 1, 0, 0, 0, 0), (232, .ireturn, 1, 0, 0, 0, 0)]], [], 2, 6)
def qc_X11_isThere : qCd := ([[(0, .iload_n 1, 1, 0, 0, 0, 0), (1, .bipush 20, 2, 0, 0, 0, 0), (3, .irem, 1, 0, 0, 0, 0), (4, .aload_n 0, 1, 0, 0, 0, 0), (5, .getfield 27, 3, 11, 7, 0, 1663), (8, .iload_n 1, 1, 0, 0, 0, 0), (9, .bipush 20, 2, 0, 0, 0, 0), (11, .idiv, 1, 0, 0, 0, 0), (12, .iaload, 1, 0, 0, 0, 0), (13, .if_icmp .ge 7, 3, 20, 0, 0, 0)],
  [(16, .iconst 1, 1, 0, 0, 0, 0), (17, .goto 4, 3, 21, 0, 0, 0), (20, .iconst 0, 1, 0, 0, 0, 0), (21, .ireturn, 1, 0, 0, 0, 0)]], [], 2, 2)
def qc_X11_pageOfWord : qCd := ([[(0, .iload_n 1, 1, 0, 0, 0, 0), (1, .sipush 200, 3, 0, 0, 0, 0), (4, .idiv, 1, 0, 0, 0, 0), (5, .istore_n 2, 1, 0, 0, 0, 0), (6, .aload_n 0, 1, 0, 0, 0, 0), (7, .getfield 102, 3, 11, 37, 0, 1693), (10, .bipush 70, 2, 0, 0, 0, 0), (12, .iload_n 2, 1, 0, 0, 0, 0), (13, .imul, 1, 0, 0, 0, 0), (14, .aload_n 0, 1, 0, 0, 0, 0), (15, .getfield 105, 3, 11, 38, 0, 1694)],
  [(18, .iload_n 1, 1, 0, 0, 0, 0), (19, .iaload, 1, 0, 0, 0, 0), (20, .iadd, 1, 0, 0, 0, 0), (21, .iaload, 1, 0, 0, 0, 0), (22, .ireturn, 1, 0, 0, 0, 0)]], [], 1, 3)
def qc_X11_wordWith : qCd := ([[(0, .iconst (-1), 1, 0, 0, 0, 0), (1, .istore_n 2, 1, 0, 0, 0, 0), (2, .iconst 0, 1, 0, 0, 0, 0), (3, .istore_n 3, 1, 0, 0, 0, 0), (4, .iload_n 3, 1, 0, 0, 0, 0), (5, .sipush 600, 3, 0, 0, 0, 0), (8, .if_icmp .ge 43, 3, 51, 0, 0, 0), (11, .aload_n 0, 1, 0, 0, 0, 0), (12, .iload_n 3, 1, 0, 0, 0, 0), (13, .invokevirtual 434, 3, 205, 2, 110, 2054)],
  [(16, .ifCond .eq 27, 3, 43, 0, 0, 0), (19, .aload_n 0, 1, 0, 0, 0, 0), (20, .getfield 36, 3, 11, 10, 0, 1666), (23, .iload_n 3, 1, 0, 0, 0, 0), (24, .iaload, 1, 0, 0, 0, 0), (25, .iconst 1, 1, 0, 0, 0, 0), (26, .if_icmp .ne 17, 3, 43, 0, 0, 0), (29, .aload_n 0, 1, 0, 0, 0, 0), (30, .getfield 39, 3, 11, 11, 0, 1667)],
  [(33, .iload_n 3, 1, 0, 0, 0, 0), (34, .iaload, 1, 0, 0, 0, 0), (35, .iload_n 1, 1, 0, 0, 0, 0), (36, .if_icmp .ne 7, 3, 43, 0, 0, 0), (39, .iload_n 3, 1, 0, 0, 0, 0), (40, .goto 4, 3, 44, 0, 0, 0), (43, .iload_n 2, 1, 0, 0, 0, 0), (44, .istore_n 2, 1, 0, 0, 0, 0), (45, .iinc 3 1, 3, 0, 0, 0, 0)],
  [(48, .goto (-44), 3, 4, 0, 0, 0), (51, .iload_n 2, 1, 0, 0, 0, 0), (52, .ireturn, 1, 0, 0, 0, 0)]], [], 1, 4)
def qc_X11_textAt : qCd := ([[(0, .aload_n 0, 1, 0, 0, 0, 0), (1, .aload_n 0, 1, 0, 0, 0, 0), (2, .getfield 39, 3, 11, 11, 0, 1667), (5, .iload_n 1, 1, 0, 0, 0, 0), (6, .iaload, 1, 0, 0, 0, 0), (7, .invokevirtual 437, 3, 207, 2, 110, 2199), (10, .istore_n 2, 1, 0, 0, 0, 0), (11, .iload_n 2, 1, 0, 0, 0, 0), (12, .iconst (-1), 1, 0, 0, 0, 0), (13, .if_icmp .ne 5, 3, 18, 0, 0, 0)],
  [(16, .iconst 0, 1, 0, 0, 0, 0), (17, .ireturn, 1, 0, 0, 0, 0), (18, .aload_n 0, 1, 0, 0, 0, 0), (19, .iload_n 1, 1, 0, 0, 0, 0), (20, .invokevirtual 440, 3, 206, 2, 110, 2062), (23, .istore_n 3, 1, 0, 0, 0, 0), (24, .aload_n 0, 1, 0, 0, 0, 0), (25, .iload_n 2, 1, 0, 0, 0, 0), (26, .invokevirtual 440, 3, 206, 2, 110, 2062), (29, .istore 4, 2, 0, 0, 0, 0), (31, .iload_n 3, 1, 0, 0, 0, 0)],
  [(32, .iload 4, 2, 0, 0, 0, 0), (34, .if_icmp .ne 7, 3, 41, 0, 0, 0), (37, .iconst 1, 1, 0, 0, 0, 0), (38, .goto 27, 3, 65, 0, 0, 0), (41, .iload 4, 2, 0, 0, 0, 0), (43, .iload_n 3, 1, 0, 0, 0, 0), (44, .iconst 1, 1, 0, 0, 0, 0), (45, .iadd, 1, 0, 0, 0, 0), (46, .if_icmp .ne 14, 3, 60, 0, 0, 0)],
  [(49, .iload_n 3, 1, 0, 0, 0, 0), (50, .iconst 2, 1, 0, 0, 0, 0), (51, .irem, 1, 0, 0, 0, 0), (52, .iconst 1, 1, 0, 0, 0, 0), (53, .if_icmp .ne 7, 3, 60, 0, 0, 0), (56, .iconst 2, 1, 0, 0, 0, 0), (57, .goto 8, 3, 65, 0, 0, 0), (60, .bipush 10, 2, 0, 0, 0, 0), (62, .iload 4, 2, 0, 0, 0, 0)],
  [(64, .iadd, 1, 0, 0, 0, 0), (65, .ireturn, 1, 0, 0, 0, 0)]], [], 1, 5)
def qc_X11_wideAs : qCd := ([[(0, .iload_n 0, 1, 0, 0, 0, 0), (1, .ifCond .ne 7, 3, 8, 0, 0, 0), (4, .iconst 2, 1, 0, 0, 0, 0), (5, .goto 31, 3, 36, 0, 0, 0), (8, .iload_n 0, 1, 0, 0, 0, 0), (9, .iconst 1, 1, 0, 0, 0, 0), (10, .if_icmp .ne 7, 3, 17, 0, 0, 0), (13, .iconst 5, 1, 0, 0, 0, 0), (14, .goto 22, 3, 36, 0, 0, 0)],
  [(17, .iload_n 0, 1, 0, 0, 0, 0), (18, .iconst 2, 1, 0, 0, 0, 0), (19, .if_icmp .ne 8, 3, 27, 0, 0, 0), (22, .bipush 8, 2, 0, 0, 0, 0), (24, .goto 12, 3, 36, 0, 0, 0), (27, .iconst 5, 1, 0, 0, 0, 0), (28, .iload_n 0, 1, 0, 0, 0, 0), (29, .bipush 10, 2, 0, 0, 0, 0), (31, .isub, 1, 0, 0, 0, 0)],
  [(32, .invokestatic 443, 3, 154, 1, 112, 2066), (35, .iadd, 1, 0, 0, 0, 0), (36, .ireturn, 1, 0, 0, 0, 0)]], [], 1, 1)
def qc_X11_numberAt : qCd := ([[(0, .iconst 1, 1, 0, 0, 0, 0), (1, .istore_n 3, 1, 0, 0, 0, 0), (2, .iload_n 1, 1, 0, 0, 0, 0), (3, .sipush 200, 3, 0, 0, 0, 0), (6, .idiv, 1, 0, 0, 0, 0), (7, .sipush 200, 3, 0, 0, 0, 0), (10, .imul, 1, 0, 0, 0, 0), (11, .istore 4, 2, 0, 0, 0, 0), (13, .iload 4, 2, 0, 0, 0, 0), (15, .iload_n 1, 1, 0, 0, 0, 0)],
  [(16, .if_icmp .ge 67, 3, 83, 0, 0, 0), (19, .aload_n 0, 1, 0, 0, 0, 0), (20, .iload 4, 2, 0, 0, 0, 0), (22, .invokevirtual 434, 3, 205, 2, 110, 2054), (25, .ifCond .eq 18, 3, 43, 0, 0, 0), (28, .aload_n 0, 1, 0, 0, 0, 0), (29, .getfield 36, 3, 11, 10, 0, 1666)],
  [(32, .iload 4, 2, 0, 0, 0, 0), (34, .iaload, 1, 0, 0, 0, 0), (35, .iconst 2, 1, 0, 0, 0, 0), (36, .if_icmp .ne 7, 3, 43, 0, 0, 0), (39, .iconst 1, 1, 0, 0, 0, 0), (40, .goto 4, 3, 44, 0, 0, 0), (43, .iconst 0, 1, 0, 0, 0, 0), (44, .istore 5, 2, 0, 0, 0, 0), (46, .iload_n 3, 1, 0, 0, 0, 0), (47, .iload 5, 2, 0, 0, 0, 0)],
  [(49, .ifCond .eq 25, 3, 74, 0, 0, 0), (52, .iload_n 2, 1, 0, 0, 0, 0), (53, .ifCond .eq 17, 3, 70, 0, 0, 0), (56, .aload_n 0, 1, 0, 0, 0, 0), (57, .iload 4, 2, 0, 0, 0, 0), (59, .invokevirtual 440, 3, 206, 2, 110, 2062), (62, .aload_n 0, 1, 0, 0, 0, 0), (63, .iload_n 1, 1, 0, 0, 0, 0)],
  [(64, .invokevirtual 440, 3, 206, 2, 110, 2062), (67, .if_icmp .ne 7, 3, 74, 0, 0, 0), (70, .iconst 1, 1, 0, 0, 0, 0), (71, .goto 4, 3, 75, 0, 0, 0), (74, .iconst 0, 1, 0, 0, 0, 0), (75, .iadd, 1, 0, 0, 0, 0), (76, .istore_n 3, 1, 0, 0, 0, 0), (77, .iinc 4 1, 3, 0, 0, 0, 0)],
  [(80, .goto (-67), 3, 13, 0, 0, 0), (83, .iload_n 3, 1, 0, 0, 0, 0), (84, .ireturn, 1, 0, 0, 0, 0)]], [], 1, 6)
def qc_X11_begin : qCd := ([[(0, .iconst 0, 1, 0, 0, 0, 0), (1, .istore_n 1, 1, 0, 0, 0, 0), (2, .iload_n 1, 1, 0, 0, 0, 0), (3, .sipush 600, 3, 0, 0, 0, 0), (6, .if_icmp .ge 79, 3, 85, 0, 0, 0), (9, .aload_n 0, 1, 0, 0, 0, 0), (10, .getfield 54, 3, 11, 17, 0, 1673), (13, .iload_n 1, 1, 0, 0, 0, 0), (14, .iconst 0, 1, 0, 0, 0, 0), (15, .iastore, 1, 0, 0, 0, 0)],
  [(16, .aload_n 0, 1, 0, 0, 0, 0), (17, .iload_n 1, 1, 0, 0, 0, 0), (18, .invokevirtual 434, 3, 205, 2, 110, 2054), (21, .ifCond .eq 58, 3, 79, 0, 0, 0), (24, .aload_n 0, 1, 0, 0, 0, 0), (25, .getfield 54, 3, 11, 17, 0, 1673), (28, .iload_n 1, 1, 0, 0, 0, 0), (29, .aload_n 0, 1, 0, 0, 0, 0), (30, .getfield 36, 3, 11, 10, 0, 1666)],
  [(33, .iload_n 1, 1, 0, 0, 0, 0), (34, .iaload, 1, 0, 0, 0, 0), (35, .bipush 6, 2, 0, 0, 0, 0), (37, .if_icmp .ne 7, 3, 44, 0, 0, 0), (40, .iconst 2, 1, 0, 0, 0, 0), (41, .goto 37, 3, 78, 0, 0, 0), (44, .aload_n 0, 1, 0, 0, 0, 0), (45, .getfield 36, 3, 11, 10, 0, 1666)],
  [(48, .iload_n 1, 1, 0, 0, 0, 0), (49, .iaload, 1, 0, 0, 0, 0), (50, .iconst 2, 1, 0, 0, 0, 0), (51, .if_icmp .eq 7, 3, 58, 0, 0, 0), (54, .iconst 0, 1, 0, 0, 0, 0), (55, .goto 23, 3, 78, 0, 0, 0), (58, .aload_n 0, 1, 0, 0, 0, 0), (59, .getfield 259, 3, 11, 3, 0, 1659), (62, .ifCond .eq 7, 3, 69, 0, 0, 0)],
  [(65, .iconst 1, 1, 0, 0, 0, 0), (66, .goto 12, 3, 78, 0, 0, 0), (69, .aload_n 0, 1, 0, 0, 0, 0), (70, .iload_n 1, 1, 0, 0, 0, 0), (71, .iconst 0, 1, 0, 0, 0, 0), (72, .invokevirtual 446, 3, 210, 3, 110, 2058), (75, .invokestatic 443, 3, 154, 1, 112, 2066), (78, .iastore, 1, 0, 0, 0, 0), (79, .iinc 1 1, 3, 0, 0, 0, 0)],
  [(82, .goto (-80), 3, 2, 0, 0, 0), (85, .return_, 1, 0, 0, 0, 0)]], [], 0, 2)
def qc_X11_finds : qCd := ([[(0, .iconst 0, 1, 0, 0, 0, 0), (1, .istore_n 1, 1, 0, 0, 0, 0), (2, .iload_n 1, 1, 0, 0, 0, 0), (3, .sipush 600, 3, 0, 0, 0, 0), (6, .if_icmp .ge 78, 3, 84, 0, 0, 0), (9, .aload_n 0, 1, 0, 0, 0, 0), (10, .getfield 57, 3, 11, 18, 0, 1674), (13, .iload_n 1, 1, 0, 0, 0, 0), (14, .iconst 0, 1, 0, 0, 0, 0), (15, .iastore, 1, 0, 0, 0, 0)],
  [(16, .aload_n 0, 1, 0, 0, 0, 0), (17, .iload_n 1, 1, 0, 0, 0, 0), (18, .invokevirtual 434, 3, 205, 2, 110, 2054), (21, .ifCond .eq 57, 3, 78, 0, 0, 0), (24, .aload_n 0, 1, 0, 0, 0, 0), (25, .getfield 57, 3, 11, 18, 0, 1674), (28, .iload_n 1, 1, 0, 0, 0, 0), (29, .aload_n 0, 1, 0, 0, 0, 0), (30, .getfield 36, 3, 11, 10, 0, 1666)],
  [(33, .iload_n 1, 1, 0, 0, 0, 0), (34, .iaload, 1, 0, 0, 0, 0), (35, .bipush 6, 2, 0, 0, 0, 0), (37, .if_icmp .ne 14, 3, 51, 0, 0, 0), (40, .aload_n 0, 1, 0, 0, 0, 0), (41, .iload_n 1, 1, 0, 0, 0, 0), (42, .invokevirtual 449, 3, 208, 2, 110, 2195), (45, .invokestatic 452, 3, 209, 1, 112, 2203)],
  [(48, .goto 29, 3, 77, 0, 0, 0), (51, .aload_n 0, 1, 0, 0, 0, 0), (52, .getfield 36, 3, 11, 10, 0, 1666), (55, .iload_n 1, 1, 0, 0, 0, 0), (56, .iaload, 1, 0, 0, 0, 0), (57, .iconst 2, 1, 0, 0, 0, 0), (58, .if_icmp .ne 18, 3, 76, 0, 0, 0), (61, .aload_n 0, 1, 0, 0, 0, 0), (62, .iload_n 1, 1, 0, 0, 0, 0), (63, .aload_n 0, 1, 0, 0, 0, 0)],
  [(64, .getfield 259, 3, 11, 3, 0, 1659), (67, .invokevirtual 446, 3, 210, 3, 110, 2058), (70, .invokestatic 443, 3, 154, 1, 112, 2066), (73, .goto 4, 3, 77, 0, 0, 0), (76, .iconst 0, 1, 0, 0, 0, 0), (77, .iastore, 1, 0, 0, 0, 0), (78, .iinc 1 1, 3, 0, 0, 0, 0)],
  [(81, .goto (-79), 3, 2, 0, 0, 0), (84, .return_, 1, 0, 0, 0, 0)]], [], 0, 2)
def qc_X11_roundThatTook : qCd := ([[(0, .iconst (-1), 1, 0, 0, 0, 0), (1, .istore_n 1, 1, 0, 0, 0, 0), (2, .aload_n 0, 1, 0, 0, 0, 0), (3, .getfield 455, 3, 11, 20, 0, 1676), (6, .iconst 1, 1, 0, 0, 0, 0), (7, .isub, 1, 0, 0, 0, 0), (8, .istore_n 2, 1, 0, 0, 0, 0), (9, .iload_n 2, 1, 0, 0, 0, 0), (10, .ifCond .lt 71, 3, 81, 0, 0, 0), (13, .iconst 1, 1, 0, 0, 0, 0), (14, .istore_n 3, 1, 0, 0, 0, 0), (15, .iconst 0, 1, 0, 0, 0, 0)],
  [(16, .istore 4, 2, 0, 0, 0, 0), (18, .iload 4, 2, 0, 0, 0, 0), (20, .sipush 600, 3, 0, 0, 0, 0), (23, .if_icmp .ge 42, 3, 65, 0, 0, 0), (26, .iload_n 3, 1, 0, 0, 0, 0), (27, .ifCond .eq 30, 3, 57, 0, 0, 0), (30, .aload_n 0, 1, 0, 0, 0, 0), (31, .getfield 60, 3, 11, 19, 0, 1675)],
  [(34, .sipush 600, 3, 0, 0, 0, 0), (37, .iload_n 2, 1, 0, 0, 0, 0), (38, .imul, 1, 0, 0, 0, 0), (39, .iload 4, 2, 0, 0, 0, 0), (41, .iadd, 1, 0, 0, 0, 0), (42, .iaload, 1, 0, 0, 0, 0), (43, .aload_n 0, 1, 0, 0, 0, 0), (44, .getfield 57, 3, 11, 18, 0, 1674), (47, .iload 4, 2, 0, 0, 0, 0)],
  [(49, .iaload, 1, 0, 0, 0, 0), (50, .if_icmp .ne 7, 3, 57, 0, 0, 0), (53, .iconst 1, 1, 0, 0, 0, 0), (54, .goto 4, 3, 58, 0, 0, 0), (57, .iconst 0, 1, 0, 0, 0, 0), (58, .istore_n 3, 1, 0, 0, 0, 0), (59, .iinc 4 1, 3, 0, 0, 0, 0), (62, .goto (-44), 3, 18, 0, 0, 0)],
  [(65, .iload_n 3, 1, 0, 0, 0, 0), (66, .ifCond .eq 7, 3, 73, 0, 0, 0), (69, .iload_n 2, 1, 0, 0, 0, 0), (70, .goto 4, 3, 74, 0, 0, 0), (73, .iload_n 1, 1, 0, 0, 0, 0), (74, .istore_n 1, 1, 0, 0, 0, 0), (75, .iinc 2 (-1), 3, 0, 0, 0, 0), (78, .goto (-69), 3, 9, 0, 0, 0)],
  [(81, .iload_n 1, 1, 0, 0, 0, 0), (82, .ireturn, 1, 0, 0, 0, 0)]], [], 1, 5)
def qc_X11_takesWidest : qCd := ([[(0, .iload_n 1, 1, 0, 0, 0, 0), (1, .istore_n 2, 1, 0, 0, 0, 0), (2, .iload_n 2, 1, 0, 0, 0, 0), (3, .aload_n 0, 1, 0, 0, 0, 0), (4, .getfield 455, 3, 11, 20, 0, 1676), (7, .if_icmp .ge 71, 3, 78, 0, 0, 0), (10, .iconst 0, 1, 0, 0, 0, 0), (11, .istore_n 3, 1, 0, 0, 0, 0), (12, .iload_n 3, 1, 0, 0, 0, 0), (13, .sipush 600, 3, 0, 0, 0, 0)],
  [(16, .if_icmp .ge 56, 3, 72, 0, 0, 0), (19, .aload_n 0, 1, 0, 0, 0, 0), (20, .getfield 60, 3, 11, 19, 0, 1675), (23, .sipush 600, 3, 0, 0, 0, 0), (26, .iload_n 2, 1, 0, 0, 0, 0), (27, .imul, 1, 0, 0, 0, 0), (28, .iload_n 3, 1, 0, 0, 0, 0), (29, .iadd, 1, 0, 0, 0, 0), (30, .iaload, 1, 0, 0, 0, 0), (31, .istore 4, 2, 0, 0, 0, 0)],
  [(33, .aload_n 0, 1, 0, 0, 0, 0), (34, .getfield 54, 3, 11, 17, 0, 1673), (37, .iload_n 3, 1, 0, 0, 0, 0), (38, .iload_n 2, 1, 0, 0, 0, 0), (39, .iload_n 1, 1, 0, 0, 0, 0), (40, .if_icmp .eq 14, 3, 54, 0, 0, 0), (43, .iload 4, 2, 0, 0, 0, 0), (45, .aload_n 0, 1, 0, 0, 0, 0), (46, .getfield 54, 3, 11, 17, 0, 1673)],
  [(49, .iload_n 3, 1, 0, 0, 0, 0), (50, .iaload, 1, 0, 0, 0, 0), (51, .if_icmp .le 8, 3, 59, 0, 0, 0), (54, .iload 4, 2, 0, 0, 0, 0), (56, .goto 9, 3, 65, 0, 0, 0), (59, .aload_n 0, 1, 0, 0, 0, 0), (60, .getfield 54, 3, 11, 17, 0, 1673), (63, .iload_n 3, 1, 0, 0, 0, 0)],
  [(64, .iaload, 1, 0, 0, 0, 0), (65, .iastore, 1, 0, 0, 0, 0), (66, .iinc 3 1, 3, 0, 0, 0, 0), (69, .goto (-57), 3, 12, 0, 0, 0), (72, .iinc 2 1, 3, 0, 0, 0, 0), (75, .goto (-73), 3, 2, 0, 0, 0), (78, .return_, 1, 0, 0, 0, 0)]], [], 0, 5)
def qc_X11_composes : qCd := ([[(0, .aload_n 0, 1, 0, 0, 0, 0), (1, .iconst 0, 1, 0, 0, 0, 0), (2, .putfield 455, 3, 11, 20, 0, 1676), (5, .aload_n 0, 1, 0, 0, 0, 0), (6, .iconst 0, 1, 0, 0, 0, 0), (7, .putfield 302, 3, 11, 23, 0, 1679), (10, .aload_n 0, 1, 0, 0, 0, 0), (11, .iconst 0, 1, 0, 0, 0, 0), (12, .putfield 458, 3, 11, 21, 0, 1677), (15, .aload_n 0, 1, 0, 0, 0, 0)],
  [(16, .invokevirtual 461, 3, 211, 1, 110, 2050), (19, .iconst 0, 1, 0, 0, 0, 0), (20, .istore_n 2, 1, 0, 0, 0, 0), (21, .iload_n 2, 1, 0, 0, 0, 0), (22, .sipush 600, 3, 0, 0, 0, 0), (25, .if_icmp .ge 30, 3, 55, 0, 0, 0), (28, .aload_n 0, 1, 0, 0, 0, 0), (29, .getfield 60, 3, 11, 19, 0, 1675)],
  [(32, .sipush 600, 3, 0, 0, 0, 0), (35, .aload_n 0, 1, 0, 0, 0, 0), (36, .getfield 455, 3, 11, 20, 0, 1676), (39, .imul, 1, 0, 0, 0, 0), (40, .iload_n 2, 1, 0, 0, 0, 0), (41, .iadd, 1, 0, 0, 0, 0), (42, .aload_n 0, 1, 0, 0, 0, 0), (43, .getfield 54, 3, 11, 17, 0, 1673), (46, .iload_n 2, 1, 0, 0, 0, 0), (47, .iaload, 1, 0, 0, 0, 0)],
  [(48, .iastore, 1, 0, 0, 0, 0), (49, .iinc 2 1, 3, 0, 0, 0, 0), (52, .goto (-31), 3, 21, 0, 0, 0), (55, .aload_n 0, 1, 0, 0, 0, 0), (56, .iload_n 1, 1, 0, 0, 0, 0), (57, .invokevirtual 464, 3, 204, 2, 110, 2069), (60, .ifCond .ne 5, 3, 65, 0, 0, 0), (63, .iconst 0, 1, 0, 0, 0, 0)],
  [(64, .ireturn, 1, 0, 0, 0, 0), (65, .aload_n 0, 1, 0, 0, 0, 0), (66, .dup, 1, 0, 0, 0, 0), (67, .getfield 455, 3, 11, 20, 0, 1676), (70, .iconst 1, 1, 0, 0, 0, 0), (71, .iadd, 1, 0, 0, 0, 0), (72, .putfield 455, 3, 11, 20, 0, 1676), (75, .aload_n 0, 1, 0, 0, 0, 0), (76, .invokevirtual 468, 3, 212, 1, 110, 2191), (79, .aload_n 0, 1, 0, 0, 0, 0)],
  [(80, .invokevirtual 471, 3, 213, 1, 110, 2206), (83, .istore_n 2, 1, 0, 0, 0, 0), (84, .iload_n 2, 1, 0, 0, 0, 0), (85, .aload_n 0, 1, 0, 0, 0, 0), (86, .getfield 455, 3, 11, 20, 0, 1676), (89, .iconst 1, 1, 0, 0, 0, 0), (90, .isub, 1, 0, 0, 0, 0), (91, .if_icmp .ne 5, 3, 96, 0, 0, 0), (94, .iconst 1, 1, 0, 0, 0, 0), (95, .ireturn, 1, 0, 0, 0, 0)],
  [(96, .iload_n 2, 1, 0, 0, 0, 0), (97, .iconst (-1), 1, 0, 0, 0, 0), (98, .if_icmp .ne 12, 3, 110, 0, 0, 0), (101, .aload_n 0, 1, 0, 0, 0, 0), (102, .getfield 455, 3, 11, 20, 0, 1676), (105, .bipush 12, 2, 0, 0, 0, 0), (107, .if_icmp .ne 38, 3, 145, 0, 0, 0), (110, .aload_n 0, 1, 0, 0, 0, 0), (111, .iload_n 2, 1, 0, 0, 0, 0)],
  [(112, .iconst (-1), 1, 0, 0, 0, 0), (113, .if_icmp .ne 7, 3, 120, 0, 0, 0), (116, .iconst 0, 1, 0, 0, 0, 0), (117, .goto 4, 3, 121, 0, 0, 0), (120, .iload_n 2, 1, 0, 0, 0, 0), (121, .invokevirtual 474, 3, 214, 2, 110, 2210), (124, .aload_n 0, 1, 0, 0, 0, 0), (125, .iconst 1, 1, 0, 0, 0, 0), (126, .putfield 458, 3, 11, 21, 0, 1677)],
  [(129, .aload_n 0, 1, 0, 0, 0, 0), (130, .dup, 1, 0, 0, 0, 0), (131, .getfield 455, 3, 11, 20, 0, 1676), (134, .iconst 1, 1, 0, 0, 0, 0), (135, .iadd, 1, 0, 0, 0, 0), (136, .putfield 455, 3, 11, 20, 0, 1676), (139, .aload_n 0, 1, 0, 0, 0, 0), (140, .iload_n 1, 1, 0, 0, 0, 0), (141, .invokevirtual 464, 3, 204, 2, 110, 2069)],
  [(144, .ireturn, 1, 0, 0, 0, 0), (145, .iconst 0, 1, 0, 0, 0, 0), (146, .istore_n 3, 1, 0, 0, 0, 0), (147, .iload_n 3, 1, 0, 0, 0, 0), (148, .sipush 600, 3, 0, 0, 0, 0), (151, .if_icmp .ge 21, 3, 172, 0, 0, 0), (154, .aload_n 0, 1, 0, 0, 0, 0), (155, .getfield 54, 3, 11, 17, 0, 1673), (158, .iload_n 3, 1, 0, 0, 0, 0), (159, .aload_n 0, 1, 0, 0, 0, 0)],
  [(160, .getfield 57, 3, 11, 18, 0, 1674), (163, .iload_n 3, 1, 0, 0, 0, 0), (164, .iaload, 1, 0, 0, 0, 0), (165, .iastore, 1, 0, 0, 0, 0), (166, .iinc 3 1, 3, 0, 0, 0, 0), (169, .goto (-22), 3, 147, 0, 0, 0), (172, .goto (-153), 3, 19, 0, 0, 0)]], [], 2, 4)
def qc_X11_compose : qCd := ([[(0, .aload_n 0, 1, 0, 0, 0, 0), (1, .iload_n 1, 1, 0, 0, 0, 0), (2, .ifCond .eq 14, 3, 16, 0, 0, 0), (5, .aload_n 0, 1, 0, 0, 0, 0), (6, .getfield 387, 3, 11, 73, 0, 1728), (9, .ifCond .ne 7, 3, 16, 0, 0, 0), (12, .iconst 1, 1, 0, 0, 0, 0), (13, .goto 4, 3, 17, 0, 0, 0)],
  [(16, .iconst 0, 1, 0, 0, 0, 0), (17, .putfield 240, 3, 11, 0, 0, 1656), (20, .aload_n 0, 1, 0, 0, 0, 0), (21, .getfield 240, 3, 11, 0, 0, 1656), (24, .ifCond .le 5, 3, 29, 0, 0, 0), (27, .iconst 0, 1, 0, 0, 0, 0), (28, .ireturn, 1, 0, 0, 0, 0), (29, .aload_n 0, 1, 0, 0, 0, 0), (30, .aload_n 0, 1, 0, 0, 0, 0), (31, .iload_n 1, 1, 0, 0, 0, 0)],
  [(32, .invokevirtual 477, 3, 215, 2, 110, 2046), (35, .putfield 255, 3, 11, 22, 0, 1678), (38, .aload_n 0, 1, 0, 0, 0, 0), (39, .getfield 255, 3, 11, 22, 0, 1678), (42, .ifCond .ne 5, 3, 47, 0, 0, 0), (45, .iconst (-1), 1, 0, 0, 0, 0), (46, .ireturn, 1, 0, 0, 0, 0), (47, .aload_n 0, 1, 0, 0, 0, 0)],
  [(48, .aload_n 0, 1, 0, 0, 0, 0), (49, .getfield 377, 3, 11, 58, 0, 1713), (52, .iconst 1, 1, 0, 0, 0, 0), (53, .iadd, 1, 0, 0, 0, 0), (54, .putfield 480, 3, 11, 71, 0, 1726), (57, .aload_n 0, 1, 0, 0, 0, 0), (58, .invokevirtual 483, 3, 253, 1, 110, 2214), (61, .istore_n 2, 1, 0, 0, 0, 0), (62, .iconst 0, 1, 0, 0, 0, 0), (63, .istore_n 3, 1, 0, 0, 0, 0)],
  [(64, .iload_n 3, 1, 0, 0, 0, 0), (65, .iload_n 2, 1, 0, 0, 0, 0), (66, .iconst 2, 1, 0, 0, 0, 0), (67, .aload_n 0, 1, 0, 0, 0, 0), (68, .getfield 13, 3, 11, 2, 0, 1658), (71, .imul, 1, 0, 0, 0, 0), (72, .iadd, 1, 0, 0, 0, 0), (73, .iconst 1, 1, 0, 0, 0, 0), (74, .isub, 1, 0, 0, 0, 0), (75, .iconst 2, 1, 0, 0, 0, 0), (76, .aload_n 0, 1, 0, 0, 0, 0), (77, .getfield 13, 3, 11, 2, 0, 1658)],
  [(80, .imul, 1, 0, 0, 0, 0), (81, .idiv, 1, 0, 0, 0, 0), (82, .if_icmp .ge 14, 3, 96, 0, 0, 0), (85, .aload_n 0, 1, 0, 0, 0, 0), (86, .iconst 5, 1, 0, 0, 0, 0), (87, .invokevirtual 418, 3, 196, 2, 110, 2077), (90, .iinc 3 1, 3, 0, 0, 0, 0), (93, .goto (-29), 3, 64, 0, 0, 0)],
  [(96, .aload_n 0, 1, 0, 0, 0, 0), (97, .getfield 455, 3, 11, 20, 0, 1676), (100, .ireturn, 1, 0, 0, 0, 0)]], [], 1, 4)
def qc_X11_print : qCd := ([[(0, .aload_n 0, 1, 0, 0, 0, 0), (1, .aload_n 0, 1, 0, 0, 0, 0), (2, .getfield 255, 3, 11, 22, 0, 1678), (5, .ifCond .eq 7, 3, 12, 0, 0, 0), (8, .iconst 0, 1, 0, 0, 0, 0), (9, .goto 4, 3, 13, 0, 0, 0), (12, .iconst 1, 1, 0, 0, 0, 0), (13, .putfield 240, 3, 11, 0, 0, 1656)],
  [(16, .aload_n 0, 1, 0, 0, 0, 0), (17, .getfield 240, 3, 11, 0, 0, 1656), (20, .ifCond .le 5, 3, 25, 0, 0, 0), (23, .iconst 0, 1, 0, 0, 0, 0), (24, .ireturn, 1, 0, 0, 0, 0), (25, .aload_n 0, 1, 0, 0, 0, 0), (26, .iconst 1, 1, 0, 0, 0, 0), (27, .putfield 387, 3, 11, 73, 0, 1728), (30, .aload_n 0, 1, 0, 0, 0, 0), (31, .aload_n 0, 1, 0, 0, 0, 0)],
  [(32, .getfield 377, 3, 11, 58, 0, 1713), (35, .putfield 396, 3, 11, 74, 0, 1729), (38, .aload_n 0, 1, 0, 0, 0, 0), (39, .aload_n 0, 1, 0, 0, 0, 0), (40, .getfield 7, 3, 11, 1, 0, 1657), (43, .putfield 390, 3, 11, 75, 0, 1730), (46, .aload_n 0, 1, 0, 0, 0, 0), (47, .aload_n 0, 1, 0, 0, 0, 0)],
  [(48, .getfield 13, 3, 11, 2, 0, 1658), (51, .putfield 393, 3, 11, 76, 0, 1731), (54, .iconst 0, 1, 0, 0, 0, 0), (55, .istore_n 1, 1, 0, 0, 0, 0), (56, .iload_n 1, 1, 0, 0, 0, 0), (57, .iconst 3, 1, 0, 0, 0, 0), (58, .if_icmp .ge 33, 3, 91, 0, 0, 0), (61, .aload_n 0, 1, 0, 0, 0, 0), (62, .getfield 180, 3, 11, 77, 0, 1732)],
  [(65, .iload_n 1, 1, 0, 0, 0, 0), (66, .aload_n 0, 1, 0, 0, 0, 0), (67, .getfield 168, 3, 11, 68, 0, 1723), (70, .iload_n 1, 1, 0, 0, 0, 0), (71, .iaload, 1, 0, 0, 0, 0), (72, .iastore, 1, 0, 0, 0, 0), (73, .aload_n 0, 1, 0, 0, 0, 0), (74, .getfield 183, 3, 11, 78, 0, 1733), (77, .iload_n 1, 1, 0, 0, 0, 0), (78, .aload_n 0, 1, 0, 0, 0, 0), (79, .getfield 87, 3, 11, 32, 0, 1688)],
  [(82, .iload_n 1, 1, 0, 0, 0, 0), (83, .iaload, 1, 0, 0, 0, 0), (84, .iastore, 1, 0, 0, 0, 0), (85, .iinc 1 1, 3, 0, 0, 0, 0), (88, .goto (-32), 3, 56, 0, 0, 0), (91, .iconst 0, 1, 0, 0, 0, 0), (92, .istore_n 1, 1, 0, 0, 0, 0), (93, .iload_n 1, 1, 0, 0, 0, 0), (94, .bipush 30, 2, 0, 0, 0, 0)],
  [(96, .if_icmp .ge 21, 3, 117, 0, 0, 0), (99, .aload_n 0, 1, 0, 0, 0, 0), (100, .getfield 186, 3, 11, 79, 0, 1734), (103, .iload_n 1, 1, 0, 0, 0, 0), (104, .aload_n 0, 1, 0, 0, 0, 0), (105, .getfield 30, 3, 11, 8, 0, 1664), (108, .iload_n 1, 1, 0, 0, 0, 0), (109, .iaload, 1, 0, 0, 0, 0), (110, .iastore, 1, 0, 0, 0, 0), (111, .iinc 1 1, 3, 0, 0, 0, 0)],
  [(114, .goto (-21), 3, 93, 0, 0, 0), (117, .iconst 0, 1, 0, 0, 0, 0), (118, .istore_n 1, 1, 0, 0, 0, 0), (119, .iload_n 1, 1, 0, 0, 0, 0), (120, .sipush 210, 3, 0, 0, 0, 0), (123, .if_icmp .ge 45, 3, 168, 0, 0, 0), (126, .aload_n 0, 1, 0, 0, 0, 0), (127, .getfield 189, 3, 11, 80, 0, 1735)],
  [(130, .iload_n 1, 1, 0, 0, 0, 0), (131, .aload_n 0, 1, 0, 0, 0, 0), (132, .getfield 90, 3, 11, 33, 0, 1689), (135, .iload_n 1, 1, 0, 0, 0, 0), (136, .iaload, 1, 0, 0, 0, 0), (137, .iastore, 1, 0, 0, 0, 0), (138, .aload_n 0, 1, 0, 0, 0, 0), (139, .getfield 192, 3, 11, 81, 0, 1736), (142, .iload_n 1, 1, 0, 0, 0, 0), (143, .aload_n 0, 1, 0, 0, 0, 0)],
  [(144, .getfield 96, 3, 11, 35, 0, 1691), (147, .iload_n 1, 1, 0, 0, 0, 0), (148, .iaload, 1, 0, 0, 0, 0), (149, .iastore, 1, 0, 0, 0, 0), (150, .aload_n 0, 1, 0, 0, 0, 0), (151, .getfield 195, 3, 11, 82, 0, 1737), (154, .iload_n 1, 1, 0, 0, 0, 0), (155, .aload_n 0, 1, 0, 0, 0, 0), (156, .getfield 99, 3, 11, 36, 0, 1692), (159, .iload_n 1, 1, 0, 0, 0, 0)],
  [(160, .iaload, 1, 0, 0, 0, 0), (161, .iastore, 1, 0, 0, 0, 0), (162, .iinc 1 1, 3, 0, 0, 0, 0), (165, .goto (-46), 3, 119, 0, 0, 0), (168, .aload_n 0, 1, 0, 0, 0, 0), (169, .invokevirtual 486, 3, 219, 1, 110, 2230), (172, .aload_n 0, 1, 0, 0, 0, 0), (173, .invokevirtual 489, 3, 220, 1, 110, 2238)],
  [(176, .aload_n 0, 1, 0, 0, 0, 0), (177, .getfield 377, 3, 11, 58, 0, 1713), (180, .ireturn, 1, 0, 0, 0, 0)]], [], 1, 2)
def qc_X11_toldOf : qCd := ([[(0, .aload_n 0, 1, 0, 0, 0, 0), (1, .getfield 36, 3, 11, 10, 0, 1666), (4, .iload_n 1, 1, 0, 0, 0, 0), (5, .iaload, 1, 0, 0, 0, 0), (6, .bipush 6, 2, 0, 0, 0, 0), (8, .if_icmp .ne 11, 3, 19, 0, 0, 0), (11, .aload_n 0, 1, 0, 0, 0, 0), (12, .iload_n 1, 1, 0, 0, 0, 0), (13, .invokevirtual 449, 3, 208, 2, 110, 2195)],
  [(16, .goto 26, 3, 42, 0, 0, 0), (19, .aload_n 0, 1, 0, 0, 0, 0), (20, .getfield 36, 3, 11, 10, 0, 1666), (23, .iload_n 1, 1, 0, 0, 0, 0), (24, .iaload, 1, 0, 0, 0, 0), (25, .iconst 2, 1, 0, 0, 0, 0), (26, .if_icmp .ne 15, 3, 41, 0, 0, 0), (29, .aload_n 0, 1, 0, 0, 0, 0), (30, .iload_n 1, 1, 0, 0, 0, 0), (31, .aload_n 0, 1, 0, 0, 0, 0)],
  [(32, .getfield 259, 3, 11, 3, 0, 1659), (35, .invokevirtual 446, 3, 210, 3, 110, 2058), (38, .goto 4, 3, 42, 0, 0, 0), (41, .iconst 0, 1, 0, 0, 0, 0), (42, .ireturn, 1, 0, 0, 0, 0)]], [], 1, 2)
def qc_X11_printsWords : qCd := ([[(0, .iconst 0, 1, 0, 0, 0, 0), (1, .istore_n 1, 1, 0, 0, 0, 0), (2, .iload_n 1, 1, 0, 0, 0, 0), (3, .sipush 600, 3, 0, 0, 0, 0), (6, .if_icmp .ge 32, 3, 38, 0, 0, 0), (9, .aload_n 0, 1, 0, 0, 0, 0), (10, .getfield 198, 3, 11, 83, 0, 1738), (13, .iload_n 1, 1, 0, 0, 0, 0), (14, .aload_n 0, 1, 0, 0, 0, 0), (15, .iload_n 1, 1, 0, 0, 0, 0)],
  [(16, .invokevirtual 434, 3, 205, 2, 110, 2054), (19, .ifCond .eq 11, 3, 30, 0, 0, 0), (22, .aload_n 0, 1, 0, 0, 0, 0), (23, .iload_n 1, 1, 0, 0, 0, 0), (24, .invokevirtual 492, 3, 218, 2, 110, 2234), (27, .goto 4, 3, 31, 0, 0, 0), (30, .iconst 0, 1, 0, 0, 0, 0), (31, .iastore, 1, 0, 0, 0, 0)],
  [(32, .iinc 1 1, 3, 0, 0, 0, 0), (35, .goto (-33), 3, 2, 0, 0, 0), (38, .iconst 0, 1, 0, 0, 0, 0), (39, .istore_n 1, 1, 0, 0, 0, 0), (40, .iload_n 1, 1, 0, 0, 0, 0), (41, .bipush 12, 2, 0, 0, 0, 0), (43, .if_icmp .ge 21, 3, 64, 0, 0, 0), (46, .aload_n 0, 1, 0, 0, 0, 0), (47, .getfield 201, 3, 11, 84, 0, 1739)],
  [(50, .iload_n 1, 1, 0, 0, 0, 0), (51, .aload_n 0, 1, 0, 0, 0, 0), (52, .getfield 111, 3, 11, 40, 0, 1696), (55, .iload_n 1, 1, 0, 0, 0, 0), (56, .iaload, 1, 0, 0, 0, 0), (57, .iastore, 1, 0, 0, 0, 0), (58, .iinc 1 1, 3, 0, 0, 0, 0), (61, .goto (-21), 3, 40, 0, 0, 0)],
  [(64, .iconst 0, 1, 0, 0, 0, 0), (65, .istore_n 1, 1, 0, 0, 0, 0), (66, .iload_n 1, 1, 0, 0, 0, 0), (67, .bipush 36, 2, 0, 0, 0, 0), (69, .if_icmp .ge 33, 3, 102, 0, 0, 0), (72, .aload_n 0, 1, 0, 0, 0, 0), (73, .getfield 204, 3, 11, 85, 0, 1740), (76, .iload_n 1, 1, 0, 0, 0, 0), (77, .aload_n 0, 1, 0, 0, 0, 0), (78, .getfield 117, 3, 11, 42, 0, 1698)],
  [(81, .iload_n 1, 1, 0, 0, 0, 0), (82, .iaload, 1, 0, 0, 0, 0), (83, .iastore, 1, 0, 0, 0, 0), (84, .aload_n 0, 1, 0, 0, 0, 0), (85, .getfield 207, 3, 11, 86, 0, 1741), (88, .iload_n 1, 1, 0, 0, 0, 0), (89, .aload_n 0, 1, 0, 0, 0, 0), (90, .getfield 120, 3, 11, 43, 0, 1699), (93, .iload_n 1, 1, 0, 0, 0, 0), (94, .iaload, 1, 0, 0, 0, 0), (95, .iastore, 1, 0, 0, 0, 0)],
  [(96, .iinc 1 1, 3, 0, 0, 0, 0), (99, .goto (-33), 3, 66, 0, 0, 0), (102, .return_, 1, 0, 0, 0, 0)]], [], 0, 2)
def qc_X11_printsPages : qCd := ([[(0, .iconst 1, 1, 0, 0, 0, 0), (1, .istore_n 1, 1, 0, 0, 0, 0), (2, .iload_n 1, 1, 0, 0, 0, 0), (3, .aload_n 0, 1, 0, 0, 0, 0), (4, .getfield 377, 3, 11, 58, 0, 1713), (7, .if_icmp .gt 105, 3, 112, 0, 0, 0), (10, .aload_n 0, 1, 0, 0, 0, 0), (11, .getfield 210, 3, 11, 87, 0, 1742), (14, .iload_n 1, 1, 0, 0, 0, 0), (15, .aload_n 0, 1, 0, 0, 0, 0)],
  [(16, .getfield 141, 3, 11, 59, 0, 1714), (19, .iload_n 1, 1, 0, 0, 0, 0), (20, .iaload, 1, 0, 0, 0, 0), (21, .iastore, 1, 0, 0, 0, 0), (22, .aload_n 0, 1, 0, 0, 0, 0), (23, .getfield 213, 3, 11, 88, 0, 1743), (26, .iload_n 1, 1, 0, 0, 0, 0), (27, .aload_n 0, 1, 0, 0, 0, 0), (28, .getfield 144, 3, 11, 60, 0, 1715), (31, .iload_n 1, 1, 0, 0, 0, 0)],
  [(32, .iaload, 1, 0, 0, 0, 0), (33, .iastore, 1, 0, 0, 0, 0), (34, .aload_n 0, 1, 0, 0, 0, 0), (35, .getfield 216, 3, 11, 89, 0, 1744), (38, .iload_n 1, 1, 0, 0, 0, 0), (39, .aload_n 0, 1, 0, 0, 0, 0), (40, .getfield 147, 3, 11, 61, 0, 1716), (43, .iload_n 1, 1, 0, 0, 0, 0), (44, .iaload, 1, 0, 0, 0, 0), (45, .iastore, 1, 0, 0, 0, 0), (46, .aload_n 0, 1, 0, 0, 0, 0), (47, .getfield 219, 3, 11, 90, 0, 1745)],
  [(50, .iload_n 1, 1, 0, 0, 0, 0), (51, .aload_n 0, 1, 0, 0, 0, 0), (52, .getfield 150, 3, 11, 62, 0, 1717), (55, .iload_n 1, 1, 0, 0, 0, 0), (56, .iaload, 1, 0, 0, 0, 0), (57, .iastore, 1, 0, 0, 0, 0), (58, .aload_n 0, 1, 0, 0, 0, 0), (59, .getfield 222, 3, 11, 91, 0, 1746), (62, .iload_n 1, 1, 0, 0, 0, 0), (63, .aload_n 0, 1, 0, 0, 0, 0)],
  [(64, .getfield 153, 3, 11, 63, 0, 1718), (67, .iload_n 1, 1, 0, 0, 0, 0), (68, .iaload, 1, 0, 0, 0, 0), (69, .iastore, 1, 0, 0, 0, 0), (70, .aload_n 0, 1, 0, 0, 0, 0), (71, .getfield 225, 3, 11, 92, 0, 1747), (74, .iload_n 1, 1, 0, 0, 0, 0), (75, .aload_n 0, 1, 0, 0, 0, 0), (76, .getfield 156, 3, 11, 64, 0, 1719), (79, .iload_n 1, 1, 0, 0, 0, 0)],
  [(80, .iaload, 1, 0, 0, 0, 0), (81, .iastore, 1, 0, 0, 0, 0), (82, .aload_n 0, 1, 0, 0, 0, 0), (83, .getfield 228, 3, 11, 93, 0, 1748), (86, .iload_n 1, 1, 0, 0, 0, 0), (87, .aload_n 0, 1, 0, 0, 0, 0), (88, .getfield 159, 3, 11, 65, 0, 1720), (91, .iload_n 1, 1, 0, 0, 0, 0), (92, .iaload, 1, 0, 0, 0, 0), (93, .iastore, 1, 0, 0, 0, 0), (94, .aload_n 0, 1, 0, 0, 0, 0), (95, .getfield 231, 3, 11, 94, 0, 1749)],
  [(98, .iload_n 1, 1, 0, 0, 0, 0), (99, .aload_n 0, 1, 0, 0, 0, 0), (100, .getfield 162, 3, 11, 66, 0, 1721), (103, .iload_n 1, 1, 0, 0, 0, 0), (104, .iaload, 1, 0, 0, 0, 0), (105, .iastore, 1, 0, 0, 0, 0), (106, .iinc 1 1, 3, 0, 0, 0, 0), (109, .goto (-107), 3, 2, 0, 0, 0)],
  [(112, .return_, 1, 0, 0, 0, 0)]], [], 0, 2)
def qc_X11_isComposed : qCd := ([[(0, .aload_n 0, 1, 0, 0, 0, 0), (1, .iconst 0, 1, 0, 0, 0, 0), (2, .putfield 240, 3, 11, 0, 0, 1656), (5, .aload_n 0, 1, 0, 0, 0, 0), (6, .getfield 255, 3, 11, 22, 0, 1678), (9, .ireturn, 1, 0, 0, 0, 0)]], [], 2, 1)
def qc_X11_items : qCd := ([[(0, .aload_n 0, 1, 0, 0, 0, 0), (1, .iload_n 1, 1, 0, 0, 0, 0), (2, .invokestatic 247, 3, 155, 1, 112, 2000), (5, .ifCond .eq 7, 3, 12, 0, 0, 0), (8, .iconst 0, 1, 0, 0, 0, 0), (9, .goto 4, 3, 13, 0, 0, 0), (12, .iconst 1, 1, 0, 0, 0, 0), (13, .putfield 240, 3, 11, 0, 0, 1656)],
  [(16, .aload_n 0, 1, 0, 0, 0, 0), (17, .getfield 240, 3, 11, 0, 0, 1656), (20, .ifCond .le 7, 3, 27, 0, 0, 0), (23, .iconst 0, 1, 0, 0, 0, 0), (24, .goto 9, 3, 33, 0, 0, 0), (27, .aload_n 0, 1, 0, 0, 0, 0), (28, .getfield 16, 3, 11, 4, 0, 1660), (31, .iload_n 1, 1, 0, 0, 0, 0)],
  [(32, .iaload, 1, 0, 0, 0, 0), (33, .ireturn, 1, 0, 0, 0, 0)]], [], 1, 2)
def qc_X11_words : qCd := ([[(0, .aload_n 0, 1, 0, 0, 0, 0), (1, .aload_n 0, 1, 0, 0, 0, 0), (2, .iload_n 1, 1, 0, 0, 0, 0), (3, .iload_n 2, 1, 0, 0, 0, 0), (4, .invokevirtual 251, 3, 156, 3, 110, 2034), (7, .ifCond .eq 7, 3, 14, 0, 0, 0), (10, .iconst 0, 1, 0, 0, 0, 0), (11, .goto 4, 3, 15, 0, 0, 0), (14, .iconst 1, 1, 0, 0, 0, 0), (15, .putfield 240, 3, 11, 0, 0, 1656)],
  [(18, .aload_n 0, 1, 0, 0, 0, 0), (19, .getfield 240, 3, 11, 0, 0, 1656), (22, .ifCond .le 7, 3, 29, 0, 0, 0), (25, .iconst 0, 1, 0, 0, 0, 0), (26, .goto 14, 3, 40, 0, 0, 0), (29, .aload_n 0, 1, 0, 0, 0, 0), (30, .getfield 27, 3, 11, 7, 0, 1663)],
  [(33, .bipush 10, 2, 0, 0, 0, 0), (35, .iload_n 1, 1, 0, 0, 0, 0), (36, .imul, 1, 0, 0, 0, 0), (37, .iload_n 2, 1, 0, 0, 0, 0), (38, .iadd, 1, 0, 0, 0, 0), (39, .iaload, 1, 0, 0, 0, 0), (40, .ireturn, 1, 0, 0, 0, 0)]], [], 1, 3)
def qc_X11_asksWord : qCd := ([[(0, .aload_n 0, 1, 0, 0, 0, 0), (1, .aload_n 0, 1, 0, 0, 0, 0), (2, .iload_n 1, 1, 0, 0, 0, 0), (3, .iload_n 2, 1, 0, 0, 0, 0), (4, .iload_n 3, 1, 0, 0, 0, 0), (5, .invokevirtual 495, 3, 157, 4, 110, 2262), (8, .ifCond .ne 7, 3, 15, 0, 0, 0), (11, .iconst 1, 1, 0, 0, 0, 0), (12, .goto 15, 3, 27, 0, 0, 0), (15, .aload_n 0, 1, 0, 0, 0, 0)],
  [(16, .getfield 255, 3, 11, 22, 0, 1678), (19, .ifCond .eq 7, 3, 26, 0, 0, 0), (22, .iconst 0, 1, 0, 0, 0, 0), (23, .goto 4, 3, 27, 0, 0, 0), (26, .iconst 2, 1, 0, 0, 0, 0), (27, .putfield 240, 3, 11, 0, 0, 1656), (30, .aload_n 0, 1, 0, 0, 0, 0), (31, .getfield 240, 3, 11, 0, 0, 1656)],
  [(34, .ifCond .ne 7, 3, 41, 0, 0, 0), (37, .iconst 1, 1, 0, 0, 0, 0), (38, .goto 4, 3, 42, 0, 0, 0), (41, .iconst 0, 1, 0, 0, 0, 0), (42, .ireturn, 1, 0, 0, 0, 0)]], [], 2, 4)
def qc_X11_widthOf : qCd := ([[(0, .aload_n 0, 1, 0, 0, 0, 0), (1, .iload_n 1, 1, 0, 0, 0, 0), (2, .iload_n 2, 1, 0, 0, 0, 0), (3, .iload_n 3, 1, 0, 0, 0, 0), (4, .invokevirtual 498, 3, 224, 4, 110, 2258), (7, .ifCond .eq 16, 3, 23, 0, 0, 0), (10, .aload_n 0, 1, 0, 0, 0, 0), (11, .iload_n 1, 1, 0, 0, 0, 0), (12, .iload_n 2, 1, 0, 0, 0, 0), (13, .iload_n 3, 1, 0, 0, 0, 0), (14, .invokestatic 272, 3, 158, 3, 112, 2011)],
  [(17, .invokevirtual 293, 3, 175, 2, 110, 2089), (20, .goto 4, 3, 24, 0, 0, 0), (23, .iconst 0, 1, 0, 0, 0, 0), (24, .ireturn, 1, 0, 0, 0, 0)]], [], 1, 4)
def qc_X11_asksItem : qCd := ([[(0, .aload_n 0, 1, 0, 0, 0, 0), (1, .aload_n 0, 1, 0, 0, 0, 0), (2, .iload_n 1, 1, 0, 0, 0, 0), (3, .iload_n 2, 1, 0, 0, 0, 0), (4, .invokevirtual 251, 3, 156, 3, 110, 2034), (7, .ifCond .ne 7, 3, 14, 0, 0, 0), (10, .iconst 1, 1, 0, 0, 0, 0), (11, .goto 15, 3, 26, 0, 0, 0), (14, .aload_n 0, 1, 0, 0, 0, 0), (15, .getfield 255, 3, 11, 22, 0, 1678)],
  [(18, .ifCond .eq 7, 3, 25, 0, 0, 0), (21, .iconst 0, 1, 0, 0, 0, 0), (22, .goto 4, 3, 26, 0, 0, 0), (25, .iconst 2, 1, 0, 0, 0, 0), (26, .putfield 240, 3, 11, 0, 0, 1656), (29, .aload_n 0, 1, 0, 0, 0, 0), (30, .getfield 240, 3, 11, 0, 0, 1656)],
  [(33, .ifCond .ne 7, 3, 40, 0, 0, 0), (36, .iconst 1, 1, 0, 0, 0, 0), (37, .goto 4, 3, 41, 0, 0, 0), (40, .iconst 0, 1, 0, 0, 0, 0), (41, .ireturn, 1, 0, 0, 0, 0)]], [], 2, 3)
def qc_X11_linesOf : qCd := ([[(0, .aload_n 0, 1, 0, 0, 0, 0), (1, .getfield 20, 3, 11, 5, 0, 1661), (4, .iload_n 1, 1, 0, 0, 0, 0), (5, .baload, 1, 0, 0, 0, 0), (6, .ifCond .eq 7, 3, 13, 0, 0, 0), (9, .iconst 1, 1, 0, 0, 0, 0), (10, .goto 9, 3, 19, 0, 0, 0), (13, .aload_n 0, 1, 0, 0, 0, 0), (14, .getfield 69, 3, 11, 26, 0, 1682)],
  [(17, .iload_n 1, 1, 0, 0, 0, 0), (18, .iaload, 1, 0, 0, 0, 0), (19, .ireturn, 1, 0, 0, 0, 0)]], [], 1, 2)
def qc_X11_lines : qCd := ([[(0, .aload_n 0, 1, 0, 0, 0, 0), (1, .iload_n 1, 1, 0, 0, 0, 0), (2, .iload_n 2, 1, 0, 0, 0, 0), (3, .invokevirtual 501, 3, 226, 3, 110, 2270), (6, .ifCond .eq 16, 3, 22, 0, 0, 0), (9, .aload_n 0, 1, 0, 0, 0, 0), (10, .bipush 10, 2, 0, 0, 0, 0), (12, .iload_n 1, 1, 0, 0, 0, 0), (13, .imul, 1, 0, 0, 0, 0), (14, .iload_n 2, 1, 0, 0, 0, 0), (15, .iadd, 1, 0, 0, 0, 0)],
  [(16, .invokevirtual 504, 3, 227, 2, 110, 2274), (19, .goto 4, 3, 23, 0, 0, 0), (22, .iconst 0, 1, 0, 0, 0, 0), (23, .ireturn, 1, 0, 0, 0, 0)]], [], 1, 3)
def qc_X11_wordsTo : qCd := ([[(0, .aload_n 0, 1, 0, 0, 0, 0), (1, .aload_n 0, 1, 0, 0, 0, 0), (2, .iload_n 1, 1, 0, 0, 0, 0), (3, .iload_n 2, 1, 0, 0, 0, 0), (4, .invokevirtual 251, 3, 156, 3, 110, 2034), (7, .ifCond .eq 7, 3, 14, 0, 0, 0), (10, .iload_n 3, 1, 0, 0, 0, 0), (11, .ifCond .ge 7, 3, 18, 0, 0, 0), (14, .iconst 1, 1, 0, 0, 0, 0), (15, .goto 15, 3, 30, 0, 0, 0)],
  [(18, .aload_n 0, 1, 0, 0, 0, 0), (19, .getfield 255, 3, 11, 22, 0, 1678), (22, .ifCond .eq 7, 3, 29, 0, 0, 0), (25, .iconst 0, 1, 0, 0, 0, 0), (26, .goto 4, 3, 30, 0, 0, 0), (29, .iconst 2, 1, 0, 0, 0, 0), (30, .putfield 240, 3, 11, 0, 0, 1656)],
  [(33, .aload_n 0, 1, 0, 0, 0, 0), (34, .getfield 240, 3, 11, 0, 0, 1656), (37, .ifCond .ne 26, 3, 63, 0, 0, 0), (40, .aload_n 0, 1, 0, 0, 0, 0), (41, .iload_n 3, 1, 0, 0, 0, 0), (42, .aload_n 0, 1, 0, 0, 0, 0), (43, .bipush 10, 2, 0, 0, 0, 0), (45, .iload_n 1, 1, 0, 0, 0, 0), (46, .imul, 1, 0, 0, 0, 0), (47, .iload_n 2, 1, 0, 0, 0, 0)],
  [(48, .iadd, 1, 0, 0, 0, 0), (49, .invokevirtual 504, 3, 227, 2, 110, 2274), (52, .if_icmp .ge 7, 3, 59, 0, 0, 0), (55, .iconst 0, 1, 0, 0, 0, 0), (56, .goto 4, 3, 60, 0, 0, 0), (59, .iconst 1, 1, 0, 0, 0, 0), (60, .putfield 240, 3, 11, 0, 0, 1656), (63, .aload_n 0, 1, 0, 0, 0, 0)],
  [(64, .getfield 240, 3, 11, 0, 0, 1656), (67, .ifCond .gt 17, 3, 84, 0, 0, 0), (70, .aload_n 0, 1, 0, 0, 0, 0), (71, .getfield 20, 3, 11, 5, 0, 1661), (74, .bipush 10, 2, 0, 0, 0, 0), (76, .iload_n 1, 1, 0, 0, 0, 0), (77, .imul, 1, 0, 0, 0, 0), (78, .iload_n 2, 1, 0, 0, 0, 0), (79, .iadd, 1, 0, 0, 0, 0)],
  [(80, .baload, 1, 0, 0, 0, 0), (81, .ifCond .eq 7, 3, 88, 0, 0, 0), (84, .iconst 0, 1, 0, 0, 0, 0), (85, .goto 19, 3, 104, 0, 0, 0), (88, .aload_n 0, 1, 0, 0, 0, 0), (89, .getfield 72, 3, 11, 27, 0, 1683), (92, .bipush 20, 2, 0, 0, 0, 0), (94, .bipush 10, 2, 0, 0, 0, 0)],
  [(96, .iload_n 1, 1, 0, 0, 0, 0), (97, .imul, 1, 0, 0, 0, 0), (98, .iload_n 2, 1, 0, 0, 0, 0), (99, .iadd, 1, 0, 0, 0, 0), (100, .imul, 1, 0, 0, 0, 0), (101, .iload_n 3, 1, 0, 0, 0, 0), (102, .iadd, 1, 0, 0, 0, 0), (103, .iaload, 1, 0, 0, 0, 0), (104, .ireturn, 1, 0, 0, 0, 0)]], [], 1, 4)
def qc_X11_costOfLines : qCd := ([[(0, .aload_n 0, 1, 0, 0, 0, 0), (1, .iload_n 1, 1, 0, 0, 0, 0), (2, .iload_n 2, 1, 0, 0, 0, 0), (3, .invokevirtual 501, 3, 226, 3, 110, 2270), (6, .ifCond .eq 31, 3, 37, 0, 0, 0), (9, .aload_n 0, 1, 0, 0, 0, 0), (10, .getfield 20, 3, 11, 5, 0, 1661), (13, .bipush 10, 2, 0, 0, 0, 0), (15, .iload_n 1, 1, 0, 0, 0, 0)],
  [(16, .imul, 1, 0, 0, 0, 0), (17, .iload_n 2, 1, 0, 0, 0, 0), (18, .iadd, 1, 0, 0, 0, 0), (19, .baload, 1, 0, 0, 0, 0), (20, .ifCond .ne 17, 3, 37, 0, 0, 0), (23, .aload_n 0, 1, 0, 0, 0, 0), (24, .getfield 75, 3, 11, 28, 0, 1684), (27, .bipush 10, 2, 0, 0, 0, 0), (29, .iload_n 1, 1, 0, 0, 0, 0), (30, .imul, 1, 0, 0, 0, 0), (31, .iload_n 2, 1, 0, 0, 0, 0)],
  [(32, .iadd, 1, 0, 0, 0, 0), (33, .iaload, 1, 0, 0, 0, 0), (34, .goto 4, 3, 38, 0, 0, 0), (37, .iconst 0, 1, 0, 0, 0, 0), (38, .ireturn, 1, 0, 0, 0, 0)]], [], 1, 3)
def qc_X11_asksChapter : qCd := ([[(0, .aload_n 0, 1, 0, 0, 0, 0), (1, .iload_n 1, 1, 0, 0, 0, 0), (2, .invokestatic 247, 3, 155, 1, 112, 2000), (5, .ifCond .ne 7, 3, 12, 0, 0, 0), (8, .iconst 1, 1, 0, 0, 0, 0), (9, .goto 15, 3, 24, 0, 0, 0), (12, .aload_n 0, 1, 0, 0, 0, 0), (13, .getfield 255, 3, 11, 22, 0, 1678)],
  [(16, .ifCond .eq 7, 3, 23, 0, 0, 0), (19, .iconst 0, 1, 0, 0, 0, 0), (20, .goto 4, 3, 24, 0, 0, 0), (23, .iconst 2, 1, 0, 0, 0, 0), (24, .putfield 240, 3, 11, 0, 0, 1656), (27, .aload_n 0, 1, 0, 0, 0, 0), (28, .getfield 240, 3, 11, 0, 0, 1656), (31, .ifCond .ne 7, 3, 38, 0, 0, 0)],
  [(34, .iconst 1, 1, 0, 0, 0, 0), (35, .goto 4, 3, 39, 0, 0, 0), (38, .iconst 0, 1, 0, 0, 0, 0), (39, .ireturn, 1, 0, 0, 0, 0)]], [], 2, 2)
def qc_X11_rows : qCd := ([[(0, .aload_n 0, 1, 0, 0, 0, 0), (1, .iload_n 1, 1, 0, 0, 0, 0), (2, .invokevirtual 507, 3, 231, 2, 110, 2290), (5, .ifCond .eq 12, 3, 17, 0, 0, 0), (8, .aload_n 0, 1, 0, 0, 0, 0), (9, .getfield 87, 3, 11, 32, 0, 1688), (12, .iload_n 1, 1, 0, 0, 0, 0), (13, .iaload, 1, 0, 0, 0, 0), (14, .goto 4, 3, 18, 0, 0, 0)],
  [(17, .iconst 0, 1, 0, 0, 0, 0), (18, .ireturn, 1, 0, 0, 0, 0)]], [], 1, 2)
def qc_X11_asks : qCd := ([[(0, .aload_n 0, 1, 0, 0, 0, 0), (1, .aload_n 0, 1, 0, 0, 0, 0), (2, .getfield 255, 3, 11, 22, 0, 1678), (5, .ifCond .eq 7, 3, 12, 0, 0, 0), (8, .iconst 0, 1, 0, 0, 0, 0), (9, .goto 4, 3, 13, 0, 0, 0), (12, .iconst 1, 1, 0, 0, 0, 0), (13, .putfield 240, 3, 11, 0, 0, 1656)],
  [(16, .aload_n 0, 1, 0, 0, 0, 0), (17, .getfield 240, 3, 11, 0, 0, 1656), (20, .ifCond .ne 7, 3, 27, 0, 0, 0), (23, .iconst 1, 1, 0, 0, 0, 0), (24, .goto 4, 3, 28, 0, 0, 0), (27, .iconst 0, 1, 0, 0, 0, 0), (28, .ireturn, 1, 0, 0, 0, 0)]], [], 2, 1)
def qc_X11_broken : qCd := ([[(0, .aload_n 0, 1, 0, 0, 0, 0), (1, .invokevirtual 510, 3, 233, 1, 110, 2298), (4, .ifCond .eq 10, 3, 14, 0, 0, 0), (7, .aload_n 0, 1, 0, 0, 0, 0), (8, .getfield 302, 3, 11, 23, 0, 1679), (11, .goto 4, 3, 15, 0, 0, 0), (14, .iconst 0, 1, 0, 0, 0, 0), (15, .ireturn, 1, 0, 0, 0, 0)]], [], 1, 1)
def qc_X11_pages : qCd := ([[(0, .aload_n 0, 1, 0, 0, 0, 0), (1, .invokevirtual 510, 3, 233, 1, 110, 2298), (4, .ifCond .eq 10, 3, 14, 0, 0, 0), (7, .aload_n 0, 1, 0, 0, 0, 0), (8, .getfield 377, 3, 11, 58, 0, 1713), (11, .goto 4, 3, 15, 0, 0, 0), (14, .iconst 0, 1, 0, 0, 0, 0), (15, .ireturn, 1, 0, 0, 0, 0)]], [], 1, 1)
def qc_X11_asksPage : qCd := ([[(0, .aload_n 0, 1, 0, 0, 0, 0), (1, .iload_n 1, 1, 0, 0, 0, 0), (2, .iconst 1, 1, 0, 0, 0, 0), (3, .if_icmp .lt 18, 3, 21, 0, 0, 0), (6, .aload_n 0, 1, 0, 0, 0, 0), (7, .getfield 255, 3, 11, 22, 0, 1678), (10, .ifCond .eq 15, 3, 25, 0, 0, 0), (13, .iload_n 1, 1, 0, 0, 0, 0), (14, .aload_n 0, 1, 0, 0, 0, 0), (15, .getfield 377, 3, 11, 58, 0, 1713)],
  [(18, .if_icmp .le 7, 3, 25, 0, 0, 0), (21, .iconst 1, 1, 0, 0, 0, 0), (22, .goto 15, 3, 37, 0, 0, 0), (25, .aload_n 0, 1, 0, 0, 0, 0), (26, .getfield 255, 3, 11, 22, 0, 1678), (29, .ifCond .eq 7, 3, 36, 0, 0, 0)],
  [(32, .iconst 0, 1, 0, 0, 0, 0), (33, .goto 4, 3, 37, 0, 0, 0), (36, .iconst 2, 1, 0, 0, 0, 0), (37, .putfield 240, 3, 11, 0, 0, 1656), (40, .aload_n 0, 1, 0, 0, 0, 0), (41, .getfield 240, 3, 11, 0, 0, 1656), (44, .ifCond .ne 7, 3, 51, 0, 0, 0), (47, .iconst 1, 1, 0, 0, 0, 0)],
  [(48, .goto 4, 3, 52, 0, 0, 0), (51, .iconst 0, 1, 0, 0, 0, 0), (52, .ireturn, 1, 0, 0, 0, 0)]], [], 2, 2)
def qc_X11_kindOf : qCd := ([[(0, .aload_n 0, 1, 0, 0, 0, 0), (1, .iload_n 1, 1, 0, 0, 0, 0), (2, .invokevirtual 514, 3, 236, 2, 110, 2310), (5, .ifCond .eq 12, 3, 17, 0, 0, 0), (8, .aload_n 0, 1, 0, 0, 0, 0), (9, .getfield 141, 3, 11, 59, 0, 1714), (12, .iload_n 1, 1, 0, 0, 0, 0), (13, .iaload, 1, 0, 0, 0, 0), (14, .goto 4, 3, 18, 0, 0, 0)],
  [(17, .iconst 0, 1, 0, 0, 0, 0), (18, .ireturn, 1, 0, 0, 0, 0)]], [], 1, 2)
def qc_X11_pageOf : qCd := ([[(0, .aload_n 0, 1, 0, 0, 0, 0), (1, .iload_n 1, 1, 0, 0, 0, 0), (2, .invokevirtual 507, 3, 231, 2, 110, 2290), (5, .ifCond .ne 7, 3, 12, 0, 0, 0), (8, .iconst 0, 1, 0, 0, 0, 0), (9, .goto 22, 3, 31, 0, 0, 0), (12, .iload_n 2, 1, 0, 0, 0, 0), (13, .ifCond .eq 12, 3, 25, 0, 0, 0)],
  [(16, .aload_n 0, 1, 0, 0, 0, 0), (17, .getfield 171, 3, 11, 69, 0, 1724), (20, .iload_n 1, 1, 0, 0, 0, 0), (21, .iaload, 1, 0, 0, 0, 0), (22, .goto 9, 3, 31, 0, 0, 0), (25, .aload_n 0, 1, 0, 0, 0, 0), (26, .getfield 168, 3, 11, 68, 0, 1723), (29, .iload_n 1, 1, 0, 0, 0, 0), (30, .iaload, 1, 0, 0, 0, 0), (31, .ireturn, 1, 0, 0, 0, 0)]], [], 1, 3)
def qc_X11_pageOfRow : qCd := ([[(0, .aload_n 0, 1, 0, 0, 0, 0), (1, .iload_n 1, 1, 0, 0, 0, 0), (2, .invokestatic 247, 3, 155, 1, 112, 2000), (5, .ifCond .eq 24, 3, 29, 0, 0, 0), (8, .iload_n 2, 1, 0, 0, 0, 0), (9, .ifCond .lt 20, 3, 29, 0, 0, 0), (12, .aload_n 0, 1, 0, 0, 0, 0), (13, .getfield 255, 3, 11, 22, 0, 1678)],
  [(16, .ifCond .eq 17, 3, 33, 0, 0, 0), (19, .iload_n 2, 1, 0, 0, 0, 0), (20, .aload_n 0, 1, 0, 0, 0, 0), (21, .getfield 87, 3, 11, 32, 0, 1688), (24, .iload_n 1, 1, 0, 0, 0, 0), (25, .iaload, 1, 0, 0, 0, 0), (26, .if_icmp .lt 7, 3, 33, 0, 0, 0), (29, .iconst 1, 1, 0, 0, 0, 0), (30, .goto 15, 3, 45, 0, 0, 0)],
  [(33, .aload_n 0, 1, 0, 0, 0, 0), (34, .getfield 255, 3, 11, 22, 0, 1678), (37, .ifCond .eq 7, 3, 44, 0, 0, 0), (40, .iconst 0, 1, 0, 0, 0, 0), (41, .goto 4, 3, 45, 0, 0, 0), (44, .iconst 2, 1, 0, 0, 0, 0), (45, .putfield 240, 3, 11, 0, 0, 1656)],
  [(48, .aload_n 0, 1, 0, 0, 0, 0), (49, .getfield 240, 3, 11, 0, 0, 1656), (52, .ifCond .le 7, 3, 59, 0, 0, 0), (55, .iconst 0, 1, 0, 0, 0, 0), (56, .goto 14, 3, 70, 0, 0, 0), (59, .aload_n 0, 1, 0, 0, 0, 0), (60, .getfield 102, 3, 11, 37, 0, 1693), (63, .bipush 70, 2, 0, 0, 0, 0)],
  [(65, .iload_n 1, 1, 0, 0, 0, 0), (66, .imul, 1, 0, 0, 0, 0), (67, .iload_n 2, 1, 0, 0, 0, 0), (68, .iadd, 1, 0, 0, 0, 0), (69, .iaload, 1, 0, 0, 0, 0), (70, .ireturn, 1, 0, 0, 0, 0)]], [], 1, 3)
def qc_X11_onPage : qCd := ([[(0, .aload_n 0, 1, 0, 0, 0, 0), (1, .iload_n 1, 1, 0, 0, 0, 0), (2, .iconst 1, 1, 0, 0, 0, 0), (3, .if_icmp .lt 18, 3, 21, 0, 0, 0), (6, .aload_n 0, 1, 0, 0, 0, 0), (7, .getfield 255, 3, 11, 22, 0, 1678), (10, .ifCond .eq 15, 3, 25, 0, 0, 0), (13, .iload_n 1, 1, 0, 0, 0, 0), (14, .aload_n 0, 1, 0, 0, 0, 0), (15, .getfield 377, 3, 11, 58, 0, 1713)],
  [(18, .if_icmp .le 7, 3, 25, 0, 0, 0), (21, .iconst 1, 1, 0, 0, 0, 0), (22, .goto 28, 3, 50, 0, 0, 0), (25, .iload_n 2, 1, 0, 0, 0, 0), (26, .iconst 0, 1, 0, 0, 0, 0), (27, .iconst 4, 1, 0, 0, 0, 0), (28, .invokestatic 243, 3, 152, 3, 112, 1970), (31, .ifCond .ne 7, 3, 38, 0, 0, 0)],
  [(34, .iconst 2, 1, 0, 0, 0, 0), (35, .goto 15, 3, 50, 0, 0, 0), (38, .aload_n 0, 1, 0, 0, 0, 0), (39, .getfield 255, 3, 11, 22, 0, 1678), (42, .ifCond .eq 7, 3, 49, 0, 0, 0), (45, .iconst 0, 1, 0, 0, 0, 0), (46, .goto 4, 3, 50, 0, 0, 0)],
  [(49, .iconst 3, 1, 0, 0, 0, 0), (50, .putfield 240, 3, 11, 0, 0, 1656), (53, .aload_n 0, 1, 0, 0, 0, 0), (54, .getfield 240, 3, 11, 0, 0, 1656), (57, .ifCond .gt 13, 3, 70, 0, 0, 0), (60, .aload_n 0, 1, 0, 0, 0, 0), (61, .getfield 141, 3, 11, 59, 0, 1714)],
  [(64, .iload_n 1, 1, 0, 0, 0, 0), (65, .iaload, 1, 0, 0, 0, 0), (66, .iconst 3, 1, 0, 0, 0, 0), (67, .if_icmp .lt 5, 3, 72, 0, 0, 0), (70, .iconst 0, 1, 0, 0, 0, 0), (71, .ireturn, 1, 0, 0, 0, 0), (72, .iload_n 2, 1, 0, 0, 0, 0), (73, .ifCond .ne 12, 3, 85, 0, 0, 0), (76, .aload_n 0, 1, 0, 0, 0, 0), (77, .getfield 147, 3, 11, 61, 0, 1716)],
  [(80, .iload_n 1, 1, 0, 0, 0, 0), (81, .iaload, 1, 0, 0, 0, 0), (82, .goto 51, 3, 133, 0, 0, 0), (85, .iload_n 2, 1, 0, 0, 0, 0), (86, .iconst 1, 1, 0, 0, 0, 0), (87, .if_icmp .ne 12, 3, 99, 0, 0, 0), (90, .aload_n 0, 1, 0, 0, 0, 0), (91, .getfield 153, 3, 11, 63, 0, 1718), (94, .iload_n 1, 1, 0, 0, 0, 0), (95, .iaload, 1, 0, 0, 0, 0)],
  [(96, .goto 37, 3, 133, 0, 0, 0), (99, .iload_n 2, 1, 0, 0, 0, 0), (100, .iconst 2, 1, 0, 0, 0, 0), (101, .if_icmp .ne 12, 3, 113, 0, 0, 0), (104, .aload_n 0, 1, 0, 0, 0, 0), (105, .getfield 159, 3, 11, 65, 0, 1720), (108, .iload_n 1, 1, 0, 0, 0, 0), (109, .iaload, 1, 0, 0, 0, 0), (110, .goto 23, 3, 133, 0, 0, 0)],
  [(113, .iload_n 2, 1, 0, 0, 0, 0), (114, .iconst 3, 1, 0, 0, 0, 0), (115, .if_icmp .ne 12, 3, 127, 0, 0, 0), (118, .aload_n 0, 1, 0, 0, 0, 0), (119, .getfield 162, 3, 11, 66, 0, 1721), (122, .iload_n 1, 1, 0, 0, 0, 0), (123, .iaload, 1, 0, 0, 0, 0), (124, .goto 9, 3, 133, 0, 0, 0), (127, .aload_n 0, 1, 0, 0, 0, 0)],
  [(128, .getfield 165, 3, 11, 67, 0, 1722), (131, .iload_n 1, 1, 0, 0, 0, 0), (132, .iaload, 1, 0, 0, 0, 0), (133, .ireturn, 1, 0, 0, 0, 0)]], [], 1, 3)
def qc_X11_cost : qCd := ([[(0, .aload_n 0, 1, 0, 0, 0, 0), (1, .iload_n 1, 1, 0, 0, 0, 0), (2, .invokevirtual 507, 3, 231, 2, 110, 2290), (5, .ifCond .eq 12, 3, 17, 0, 0, 0), (8, .aload_n 0, 1, 0, 0, 0, 0), (9, .getfield 174, 3, 11, 70, 0, 1725), (12, .iload_n 1, 1, 0, 0, 0, 0), (13, .iaload, 1, 0, 0, 0, 0), (14, .goto 4, 3, 18, 0, 0, 0)],
  [(17, .iconst 0, 1, 0, 0, 0, 0), (18, .ireturn, 1, 0, 0, 0, 0)]], [], 1, 2)
def qc_X11_costByAll : qCd := ([[(0, .aload_n 0, 1, 0, 0, 0, 0), (1, .iload_n 1, 1, 0, 0, 0, 0), (2, .invokevirtual 507, 3, 231, 2, 110, 2290), (5, .ifCond .eq 23, 3, 28, 0, 0, 0), (8, .aload_n 0, 1, 0, 0, 0, 0), (9, .aload_n 0, 1, 0, 0, 0, 0), (10, .getfield 87, 3, 11, 32, 0, 1688), (13, .iload_n 1, 1, 0, 0, 0, 0), (14, .iaload, 1, 0, 0, 0, 0), (15, .bipush 8, 2, 0, 0, 0, 0)],
  [(17, .if_icmp .le 7, 3, 24, 0, 0, 0), (20, .iconst 2, 1, 0, 0, 0, 0), (21, .goto 4, 3, 25, 0, 0, 0), (24, .iconst 0, 1, 0, 0, 0, 0), (25, .putfield 240, 3, 11, 0, 0, 1656), (28, .aload_n 0, 1, 0, 0, 0, 0), (29, .getfield 240, 3, 11, 0, 0, 1656)],
  [(32, .ifCond .gt 12, 3, 44, 0, 0, 0), (35, .aload_n 0, 1, 0, 0, 0, 0), (36, .getfield 87, 3, 11, 32, 0, 1688), (39, .iload_n 1, 1, 0, 0, 0, 0), (40, .iaload, 1, 0, 0, 0, 0), (41, .ifCond .ne 5, 3, 46, 0, 0, 0), (44, .iconst 0, 1, 0, 0, 0, 0), (45, .ireturn, 1, 0, 0, 0, 0), (46, .aload_n 0, 1, 0, 0, 0, 0), (47, .iload_n 1, 1, 0, 0, 0, 0)],
  [(48, .invokevirtual 402, 3, 181, 2, 110, 2114), (51, .aload_n 0, 1, 0, 0, 0, 0), (52, .iload_n 1, 1, 0, 0, 0, 0), (53, .iconst 0, 1, 0, 0, 0, 0), (54, .invokevirtual 408, 3, 194, 3, 110, 2171), (57, .ireturn, 1, 0, 0, 0, 0)]], [], 1, 2)
def qc_X11_isSettled : qCd := ([[(0, .aload_n 0, 1, 0, 0, 0, 0), (1, .invokevirtual 510, 3, 233, 1, 110, 2298), (4, .ifCond .eq 14, 3, 18, 0, 0, 0), (7, .aload_n 0, 1, 0, 0, 0, 0), (8, .getfield 458, 3, 11, 21, 0, 1677), (11, .ifCond .eq 7, 3, 18, 0, 0, 0), (14, .iconst 1, 1, 0, 0, 0, 0), (15, .goto 4, 3, 19, 0, 0, 0)],
  [(18, .iconst 0, 1, 0, 0, 0, 0), (19, .ireturn, 1, 0, 0, 0, 0)]], [], 2, 1)
def qc_X11_textOf : qCd := ([[(0, .aload_n 0, 1, 0, 0, 0, 0), (1, .iload_n 1, 1, 0, 0, 0, 0), (2, .iload_n 2, 1, 0, 0, 0, 0), (3, .iload_n 3, 1, 0, 0, 0, 0), (4, .invokevirtual 498, 3, 224, 4, 110, 2258), (7, .ifCond .ne 5, 3, 12, 0, 0, 0), (10, .iconst 0, 1, 0, 0, 0, 0), (11, .ireturn, 1, 0, 0, 0, 0), (12, .iload_n 1, 1, 0, 0, 0, 0), (13, .iload_n 2, 1, 0, 0, 0, 0), (14, .iload_n 3, 1, 0, 0, 0, 0), (15, .invokestatic 272, 3, 158, 3, 112, 2011)],
  [(18, .istore 4, 2, 0, 0, 0, 0), (20, .aload_n 0, 1, 0, 0, 0, 0), (21, .getfield 36, 3, 11, 10, 0, 1666), (24, .iload 4, 2, 0, 0, 0, 0), (26, .iaload, 1, 0, 0, 0, 0), (27, .bipush 6, 2, 0, 0, 0, 0), (29, .if_icmp .ne 12, 3, 41, 0, 0, 0)],
  [(32, .aload_n 0, 1, 0, 0, 0, 0), (33, .iload 4, 2, 0, 0, 0, 0), (35, .invokevirtual 449, 3, 208, 2, 110, 2195), (38, .goto 4, 3, 42, 0, 0, 0), (41, .iconst (-1), 1, 0, 0, 0, 0), (42, .ireturn, 1, 0, 0, 0, 0)]], [], 1, 5)
def qc_X11_noteOf : qCd := ([[(0, .aload_n 0, 1, 0, 0, 0, 0), (1, .iload_n 1, 1, 0, 0, 0, 0), (2, .iload_n 2, 1, 0, 0, 0, 0), (3, .iload_n 3, 1, 0, 0, 0, 0), (4, .invokevirtual 498, 3, 224, 4, 110, 2258), (7, .ifCond .ne 5, 3, 12, 0, 0, 0), (10, .iconst 0, 1, 0, 0, 0, 0), (11, .ireturn, 1, 0, 0, 0, 0), (12, .iload_n 1, 1, 0, 0, 0, 0), (13, .iload_n 2, 1, 0, 0, 0, 0), (14, .iload_n 3, 1, 0, 0, 0, 0), (15, .invokestatic 272, 3, 158, 3, 112, 2011)],
  [(18, .istore 4, 2, 0, 0, 0, 0), (20, .aload_n 0, 1, 0, 0, 0, 0), (21, .getfield 36, 3, 11, 10, 0, 1666), (24, .iload 4, 2, 0, 0, 0, 0), (26, .iaload, 1, 0, 0, 0, 0), (27, .iconst 2, 1, 0, 0, 0, 0), (28, .if_icmp .ne 16, 3, 44, 0, 0, 0), (31, .aload_n 0, 1, 0, 0, 0, 0)],
  [(32, .iload 4, 2, 0, 0, 0, 0), (34, .aload_n 0, 1, 0, 0, 0, 0), (35, .getfield 259, 3, 11, 3, 0, 1659), (38, .invokevirtual 446, 3, 210, 3, 110, 2058), (41, .goto 4, 3, 45, 0, 0, 0), (44, .iconst 0, 1, 0, 0, 0, 0), (45, .ireturn, 1, 0, 0, 0, 0)]], [], 1, 5)
def qc_X11_headOf : qCd := ([[(0, .aload_n 0, 1, 0, 0, 0, 0), (1, .iload_n 1, 1, 0, 0, 0, 0), (2, .invokevirtual 514, 3, 236, 2, 110, 2310), (5, .ifCond .eq 13, 3, 18, 0, 0, 0), (8, .aload_n 0, 1, 0, 0, 0, 0), (9, .getfield 141, 3, 11, 59, 0, 1714), (12, .iload_n 1, 1, 0, 0, 0, 0), (13, .iaload, 1, 0, 0, 0, 0), (14, .iconst 3, 1, 0, 0, 0, 0), (15, .if_icmp .lt 5, 3, 20, 0, 0, 0)],
  [(18, .iconst (-1), 1, 0, 0, 0, 0), (19, .ireturn, 1, 0, 0, 0, 0), (20, .aload_n 0, 1, 0, 0, 0, 0), (21, .getfield 141, 3, 11, 59, 0, 1714), (24, .iload_n 1, 1, 0, 0, 0, 0), (25, .iaload, 1, 0, 0, 0, 0), (26, .istore_n 3, 1, 0, 0, 0, 0), (27, .iconst (-1), 1, 0, 0, 0, 0), (28, .istore 4, 2, 0, 0, 0, 0), (30, .iconst (-1), 1, 0, 0, 0, 0), (31, .istore 5, 2, 0, 0, 0, 0)],
  [(33, .iconst (-1), 1, 0, 0, 0, 0), (34, .istore 6, 2, 0, 0, 0, 0), (36, .iconst 0, 1, 0, 0, 0, 0), (37, .istore 7, 2, 0, 0, 0, 0), (39, .iload 7, 2, 0, 0, 0, 0), (41, .aload_n 0, 1, 0, 0, 0, 0), (42, .getfield 144, 3, 11, 60, 0, 1715), (45, .iload_n 1, 1, 0, 0, 0, 0), (46, .iaload, 1, 0, 0, 0, 0), (47, .aload_n 0, 1, 0, 0, 0, 0)],
  [(48, .getfield 147, 3, 11, 61, 0, 1716), (51, .iload_n 1, 1, 0, 0, 0, 0), (52, .iaload, 1, 0, 0, 0, 0), (53, .iadd, 1, 0, 0, 0, 0), (54, .if_icmp .ge 118, 3, 172, 0, 0, 0), (57, .aload_n 0, 1, 0, 0, 0, 0), (58, .getfield 90, 3, 11, 33, 0, 1689), (61, .bipush 70, 2, 0, 0, 0, 0), (63, .iload_n 3, 1, 0, 0, 0, 0)],
  [(64, .imul, 1, 0, 0, 0, 0), (65, .iload 7, 2, 0, 0, 0, 0), (67, .iadd, 1, 0, 0, 0, 0), (68, .iaload, 1, 0, 0, 0, 0), (69, .istore 8, 2, 0, 0, 0, 0), (71, .aload_n 0, 1, 0, 0, 0, 0), (72, .getfield 20, 3, 11, 5, 0, 1661), (75, .bipush 10, 2, 0, 0, 0, 0), (77, .iload_n 3, 1, 0, 0, 0, 0), (78, .imul, 1, 0, 0, 0, 0), (79, .iload 8, 2, 0, 0, 0, 0)],
  [(81, .iadd, 1, 0, 0, 0, 0), (82, .baload, 1, 0, 0, 0, 0), (83, .istore 9, 2, 0, 0, 0, 0), (85, .iload 7, 2, 0, 0, 0, 0), (87, .aload_n 0, 1, 0, 0, 0, 0), (88, .getfield 144, 3, 11, 60, 0, 1715), (91, .iload_n 1, 1, 0, 0, 0, 0), (92, .iaload, 1, 0, 0, 0, 0), (93, .if_icmp .lt 7, 3, 100, 0, 0, 0)],
  [(96, .iconst 1, 1, 0, 0, 0, 0), (97, .goto 4, 3, 101, 0, 0, 0), (100, .iconst 0, 1, 0, 0, 0, 0), (101, .istore 10, 2, 0, 0, 0, 0), (103, .iload 9, 2, 0, 0, 0, 0), (105, .ifCond .eq 13, 3, 118, 0, 0, 0), (108, .iload 10, 2, 0, 0, 0, 0), (110, .ifCond .ne 8, 3, 118, 0, 0, 0)],
  [(113, .iload 8, 2, 0, 0, 0, 0), (115, .goto 5, 3, 120, 0, 0, 0), (118, .iload 6, 2, 0, 0, 0, 0), (120, .istore 6, 2, 0, 0, 0, 0), (122, .iload 9, 2, 0, 0, 0, 0), (124, .ifCond .eq 13, 3, 137, 0, 0, 0), (127, .iload 10, 2, 0, 0, 0, 0)],
  [(129, .ifCond .eq 8, 3, 137, 0, 0, 0), (132, .iload 8, 2, 0, 0, 0, 0), (134, .goto 5, 3, 139, 0, 0, 0), (137, .iload 5, 2, 0, 0, 0, 0), (139, .istore 5, 2, 0, 0, 0, 0), (141, .iload 9, 2, 0, 0, 0, 0), (143, .ifCond .eq 19, 3, 162, 0, 0, 0)],
  [(146, .iload 10, 2, 0, 0, 0, 0), (148, .ifCond .eq 14, 3, 162, 0, 0, 0), (151, .iload 4, 2, 0, 0, 0, 0), (153, .iconst (-1), 1, 0, 0, 0, 0), (154, .if_icmp .ne 8, 3, 162, 0, 0, 0), (157, .iload 8, 2, 0, 0, 0, 0), (159, .goto 5, 3, 164, 0, 0, 0)],
  [(162, .iload 4, 2, 0, 0, 0, 0), (164, .istore 4, 2, 0, 0, 0, 0), (166, .iinc 7 1, 3, 0, 0, 0, 0), (169, .goto (-130), 3, 39, 0, 0, 0), (172, .iload 4, 2, 0, 0, 0, 0), (174, .iconst (-1), 1, 0, 0, 0, 0), (175, .if_icmp .ne 8, 3, 183, 0, 0, 0)],
  [(178, .iload 6, 2, 0, 0, 0, 0), (180, .goto 14, 3, 194, 0, 0, 0), (183, .iload_n 2, 1, 0, 0, 0, 0), (184, .ifCond .eq 8, 3, 192, 0, 0, 0), (187, .iload 5, 2, 0, 0, 0, 0), (189, .goto 5, 3, 194, 0, 0, 0)],
  [(192, .iload 4, 2, 0, 0, 0, 0), (194, .ireturn, 1, 0, 0, 0, 0)]], [], 1, 11)
def qc_X11_placeOf : qCd := ([[(0, .aload_n 0, 1, 0, 0, 0, 0), (1, .getfield 141, 3, 11, 59, 0, 1714), (4, .iload_n 1, 1, 0, 0, 0, 0), (5, .iaload, 1, 0, 0, 0, 0), (6, .istore_n 3, 1, 0, 0, 0, 0), (7, .aload_n 0, 1, 0, 0, 0, 0), (8, .getfield 153, 3, 11, 63, 0, 1718), (11, .iload_n 1, 1, 0, 0, 0, 0), (12, .iaload, 1, 0, 0, 0, 0), (13, .ifCond .le 26, 3, 39, 0, 0, 0)],
  [(16, .aload_n 0, 1, 0, 0, 0, 0), (17, .getfield 39, 3, 11, 11, 0, 1667), (20, .aload_n 0, 1, 0, 0, 0, 0), (21, .getfield 111, 3, 11, 40, 0, 1696), (24, .iconst 4, 1, 0, 0, 0, 0), (25, .iload_n 3, 1, 0, 0, 0, 0), (26, .imul, 1, 0, 0, 0, 0), (27, .aload_n 0, 1, 0, 0, 0, 0), (28, .getfield 150, 3, 11, 62, 0, 1717), (31, .iload_n 1, 1, 0, 0, 0, 0)],
  [(32, .iaload, 1, 0, 0, 0, 0), (33, .iadd, 1, 0, 0, 0, 0), (34, .iaload, 1, 0, 0, 0, 0), (35, .iaload, 1, 0, 0, 0, 0), (36, .goto 4, 3, 40, 0, 0, 0), (39, .iconst 0, 1, 0, 0, 0, 0), (40, .istore 4, 2, 0, 0, 0, 0), (42, .iconst 0, 1, 0, 0, 0, 0), (43, .istore 5, 2, 0, 0, 0, 0), (45, .aload_n 0, 1, 0, 0, 0, 0), (46, .getfield 144, 3, 11, 60, 0, 1715)],
  [(49, .iload_n 1, 1, 0, 0, 0, 0), (50, .iaload, 1, 0, 0, 0, 0), (51, .iconst 1, 1, 0, 0, 0, 0), (52, .iadd, 1, 0, 0, 0, 0), (53, .istore 6, 2, 0, 0, 0, 0), (55, .iload 6, 2, 0, 0, 0, 0), (57, .iload_n 2, 1, 0, 0, 0, 0), (58, .if_icmp .gt 48, 3, 106, 0, 0, 0), (61, .bipush 70, 2, 0, 0, 0, 0), (63, .iload_n 3, 1, 0, 0, 0, 0)],
  [(64, .imul, 1, 0, 0, 0, 0), (65, .iload 6, 2, 0, 0, 0, 0), (67, .iadd, 1, 0, 0, 0, 0), (68, .istore 7, 2, 0, 0, 0, 0), (70, .iload 5, 2, 0, 0, 0, 0), (72, .aload_n 0, 1, 0, 0, 0, 0), (73, .getfield 93, 3, 11, 34, 0, 1690), (76, .iload 7, 2, 0, 0, 0, 0), (78, .iaload, 1, 0, 0, 0, 0), (79, .ifCond .ne 17, 3, 96, 0, 0, 0)],
  [(82, .aload_n 0, 1, 0, 0, 0, 0), (83, .getfield 90, 3, 11, 33, 0, 1689), (86, .iload 7, 2, 0, 0, 0, 0), (88, .iaload, 1, 0, 0, 0, 0), (89, .ifCond .le 7, 3, 96, 0, 0, 0), (92, .iconst 1, 1, 0, 0, 0, 0), (93, .goto 4, 3, 97, 0, 0, 0)],
  [(96, .iconst 0, 1, 0, 0, 0, 0), (97, .iadd, 1, 0, 0, 0, 0), (98, .istore 5, 2, 0, 0, 0, 0), (100, .iinc 6 1, 3, 0, 0, 0, 0), (103, .goto (-48), 3, 55, 0, 0, 0), (106, .iload 4, 2, 0, 0, 0, 0), (108, .iload_n 2, 1, 0, 0, 0, 0), (109, .iadd, 1, 0, 0, 0, 0), (110, .aload_n 0, 1, 0, 0, 0, 0), (111, .getfield 144, 3, 11, 60, 0, 1715)],
  [(114, .iload_n 1, 1, 0, 0, 0, 0), (115, .iaload, 1, 0, 0, 0, 0), (116, .isub, 1, 0, 0, 0, 0), (117, .iload 5, 2, 0, 0, 0, 0), (119, .iadd, 1, 0, 0, 0, 0), (120, .iload 5, 2, 0, 0, 0, 0), (122, .aload_n 0, 1, 0, 0, 0, 0), (123, .getfield 162, 3, 11, 66, 0, 1721), (126, .iload_n 1, 1, 0, 0, 0, 0), (127, .iaload, 1, 0, 0, 0, 0)],
  [(128, .invokestatic 315, 3, 153, 2, 112, 2149), (131, .iadd, 1, 0, 0, 0, 0), (132, .ireturn, 1, 0, 0, 0, 0)]], [], 1, 8)
def qc_X11_puts : qCd := ([[(0, .aload_n 0, 1, 0, 0, 0, 0), (1, .getfield 39, 3, 11, 11, 0, 1667), (4, .iload_n 2, 1, 0, 0, 0, 0), (5, .iaload, 1, 0, 0, 0, 0), (6, .istore 4, 2, 0, 0, 0, 0), (8, .iload_n 3, 1, 0, 0, 0, 0), (9, .aload_n 0, 1, 0, 0, 0, 0), (10, .getfield 517, 3, 11, 99, 0, 1754), (13, .if_icmp .le 7, 3, 20, 0, 0, 0)],
  [(16, .iload_n 3, 1, 0, 0, 0, 0), (17, .goto 7, 3, 24, 0, 0, 0), (20, .aload_n 0, 1, 0, 0, 0, 0), (21, .getfield 517, 3, 11, 99, 0, 1754), (24, .istore 5, 2, 0, 0, 0, 0), (26, .iload 5, 2, 0, 0, 0, 0), (28, .iload 4, 2, 0, 0, 0, 0), (30, .iadd, 1, 0, 0, 0, 0), (31, .aload_n 0, 1, 0, 0, 0, 0)],
  [(32, .getfield 13, 3, 11, 2, 0, 1658), (35, .if_icmp .le 12, 3, 47, 0, 0, 0), (38, .aload_n 0, 1, 0, 0, 0, 0), (39, .getfield 13, 3, 11, 2, 0, 1658), (42, .iload 4, 2, 0, 0, 0, 0), (44, .isub, 1, 0, 0, 0, 0), (45, .istore 5, 2, 0, 0, 0, 0), (47, .iload 5, 2, 0, 0, 0, 0)],
  [(49, .aload_n 0, 1, 0, 0, 0, 0), (50, .getfield 517, 3, 11, 99, 0, 1754), (53, .if_icmp .ge 24, 3, 77, 0, 0, 0), (56, .aload_n 0, 1, 0, 0, 0, 0), (57, .getfield 237, 3, 11, 98, 0, 1753), (60, .aload_n 0, 1, 0, 0, 0, 0), (61, .getfield 520, 3, 11, 96, 0, 1751)],
  [(64, .iload_n 2, 1, 0, 0, 0, 0), (65, .iastore, 1, 0, 0, 0, 0), (66, .aload_n 0, 1, 0, 0, 0, 0), (67, .dup, 1, 0, 0, 0, 0), (68, .getfield 520, 3, 11, 96, 0, 1751), (71, .iconst 1, 1, 0, 0, 0, 0), (72, .iadd, 1, 0, 0, 0, 0), (73, .putfield 520, 3, 11, 96, 0, 1751), (76, .return_, 1, 0, 0, 0, 0), (77, .aload_n 0, 1, 0, 0, 0, 0), (78, .iload 5, 2, 0, 0, 0, 0)],
  [(80, .iload 4, 2, 0, 0, 0, 0), (82, .iadd, 1, 0, 0, 0, 0), (83, .putfield 517, 3, 11, 99, 0, 1754), (86, .aload_n 0, 1, 0, 0, 0, 0), (87, .iload_n 2, 1, 0, 0, 0, 0), (88, .aload_n 0, 1, 0, 0, 0, 0), (89, .getfield 523, 3, 11, 100, 0, 1755), (92, .if_icmp .ne 13, 3, 105, 0, 0, 0), (95, .bipush 100, 2, 0, 0, 0, 0)],
  [(97, .iload_n 1, 1, 0, 0, 0, 0), (98, .imul, 1, 0, 0, 0, 0), (99, .iload 5, 2, 0, 0, 0, 0), (101, .iadd, 1, 0, 0, 0, 0), (102, .goto 7, 3, 109, 0, 0, 0), (105, .aload_n 0, 1, 0, 0, 0, 0), (106, .getfield 526, 3, 11, 101, 0, 1756), (109, .putfield 526, 3, 11, 101, 0, 1756)],
  [(112, .return_, 1, 0, 0, 0, 0)]], [], 0, 6)
def qc_X11_putsAll : qCd := ([[(0, .aload_n 0, 1, 0, 0, 0, 0), (1, .getfield 141, 3, 11, 59, 0, 1714), (4, .iload_n 1, 1, 0, 0, 0, 0), (5, .iaload, 1, 0, 0, 0, 0), (6, .istore_n 2, 1, 0, 0, 0, 0), (7, .aload_n 0, 1, 0, 0, 0, 0), (8, .iconst 0, 1, 0, 0, 0, 0), (9, .putfield 517, 3, 11, 99, 0, 1754), (12, .aload_n 0, 1, 0, 0, 0, 0), (13, .iconst 0, 1, 0, 0, 0, 0), (14, .putfield 520, 3, 11, 96, 0, 1751)],
  [(17, .iconst 0, 1, 0, 0, 0, 0), (18, .istore_n 3, 1, 0, 0, 0, 0), (19, .iload_n 3, 1, 0, 0, 0, 0), (20, .aload_n 0, 1, 0, 0, 0, 0), (21, .getfield 529, 3, 11, 95, 0, 1750), (24, .if_icmp .ge 21, 3, 45, 0, 0, 0), (27, .aload_n 0, 1, 0, 0, 0, 0), (28, .iload_n 1, 1, 0, 0, 0, 0), (29, .aload_n 0, 1, 0, 0, 0, 0), (30, .getfield 234, 3, 11, 97, 0, 1752)],
  [(33, .iload_n 3, 1, 0, 0, 0, 0), (34, .iaload, 1, 0, 0, 0, 0), (35, .iconst 0, 1, 0, 0, 0, 0), (36, .invokevirtual 532, 3, 248, 4, 110, 2358), (39, .iinc 3 1, 3, 0, 0, 0, 0), (42, .goto (-23), 3, 19, 0, 0, 0), (45, .aload_n 0, 1, 0, 0, 0, 0), (46, .getfield 144, 3, 11, 60, 0, 1715)],
  [(49, .iload_n 1, 1, 0, 0, 0, 0), (50, .iaload, 1, 0, 0, 0, 0), (51, .istore_n 3, 1, 0, 0, 0, 0), (52, .iload_n 3, 1, 0, 0, 0, 0), (53, .aload_n 0, 1, 0, 0, 0, 0), (54, .getfield 144, 3, 11, 60, 0, 1715), (57, .iload_n 1, 1, 0, 0, 0, 0), (58, .iaload, 1, 0, 0, 0, 0), (59, .aload_n 0, 1, 0, 0, 0, 0), (60, .getfield 147, 3, 11, 61, 0, 1716), (63, .iload_n 1, 1, 0, 0, 0, 0)],
  [(64, .iaload, 1, 0, 0, 0, 0), (65, .iadd, 1, 0, 0, 0, 0), (66, .if_icmp .ge 87, 3, 153, 0, 0, 0), (69, .aload_n 0, 1, 0, 0, 0, 0), (70, .getfield 96, 3, 11, 35, 0, 1691), (73, .bipush 70, 2, 0, 0, 0, 0), (75, .iload_n 2, 1, 0, 0, 0, 0), (76, .imul, 1, 0, 0, 0, 0), (77, .iload_n 3, 1, 0, 0, 0, 0), (78, .iadd, 1, 0, 0, 0, 0), (79, .iaload, 1, 0, 0, 0, 0)],
  [(80, .istore 4, 2, 0, 0, 0, 0), (82, .iload 4, 2, 0, 0, 0, 0), (84, .aload_n 0, 1, 0, 0, 0, 0), (85, .getfield 99, 3, 11, 36, 0, 1692), (88, .bipush 70, 2, 0, 0, 0, 0), (90, .iload_n 2, 1, 0, 0, 0, 0), (91, .imul, 1, 0, 0, 0, 0), (92, .iload_n 3, 1, 0, 0, 0, 0), (93, .iadd, 1, 0, 0, 0, 0), (94, .iaload, 1, 0, 0, 0, 0), (95, .if_icmp .ge 52, 3, 147, 0, 0, 0)],
  [(98, .iload_n 2, 1, 0, 0, 0, 0), (99, .aload_n 0, 1, 0, 0, 0, 0), (100, .getfield 90, 3, 11, 33, 0, 1689), (103, .bipush 70, 2, 0, 0, 0, 0), (105, .iload_n 2, 1, 0, 0, 0, 0), (106, .imul, 1, 0, 0, 0, 0), (107, .iload_n 3, 1, 0, 0, 0, 0), (108, .iadd, 1, 0, 0, 0, 0), (109, .iaload, 1, 0, 0, 0, 0), (110, .iload 4, 2, 0, 0, 0, 0)],
  [(112, .invokestatic 272, 3, 158, 3, 112, 2011), (115, .istore 5, 2, 0, 0, 0, 0), (117, .aload_n 0, 1, 0, 0, 0, 0), (118, .getfield 36, 3, 11, 10, 0, 1666), (121, .iload 5, 2, 0, 0, 0, 0), (123, .iaload, 1, 0, 0, 0, 0), (124, .iconst 5, 1, 0, 0, 0, 0), (125, .if_icmp .ne 16, 3, 141, 0, 0, 0)],
  [(128, .aload_n 0, 1, 0, 0, 0, 0), (129, .iload_n 1, 1, 0, 0, 0, 0), (130, .iload 5, 2, 0, 0, 0, 0), (132, .aload_n 0, 1, 0, 0, 0, 0), (133, .iload_n 1, 1, 0, 0, 0, 0), (134, .iload_n 3, 1, 0, 0, 0, 0), (135, .invokevirtual 536, 3, 247, 3, 110, 2362), (138, .invokevirtual 532, 3, 248, 4, 110, 2358), (141, .iinc 4 1, 3, 0, 0, 0, 0)],
  [(144, .goto (-62), 3, 82, 0, 0, 0), (147, .iinc 3 1, 3, 0, 0, 0, 0), (150, .goto (-98), 3, 52, 0, 0, 0), (153, .aload_n 0, 1, 0, 0, 0, 0), (154, .aload_n 0, 1, 0, 0, 0, 0), (155, .getfield 520, 3, 11, 96, 0, 1751), (158, .putfield 529, 3, 11, 95, 0, 1750)],
  [(161, .iconst 0, 1, 0, 0, 0, 0), (162, .istore_n 3, 1, 0, 0, 0, 0), (163, .iload_n 3, 1, 0, 0, 0, 0), (164, .aload_n 0, 1, 0, 0, 0, 0), (165, .getfield 529, 3, 11, 95, 0, 1750), (168, .if_icmp .ge 21, 3, 189, 0, 0, 0), (171, .aload_n 0, 1, 0, 0, 0, 0), (172, .getfield 234, 3, 11, 97, 0, 1752), (175, .iload_n 3, 1, 0, 0, 0, 0)],
  [(176, .aload_n 0, 1, 0, 0, 0, 0), (177, .getfield 237, 3, 11, 98, 0, 1753), (180, .iload_n 3, 1, 0, 0, 0, 0), (181, .iaload, 1, 0, 0, 0, 0), (182, .iastore, 1, 0, 0, 0, 0), (183, .iinc 3 1, 3, 0, 0, 0, 0), (186, .goto (-23), 3, 163, 0, 0, 0), (189, .return_, 1, 0, 0, 0, 0)]], [], 0, 6)
def qc_X11_marginOf : qCd := ([[(0, .aload_n 0, 1, 0, 0, 0, 0), (1, .iload_n 1, 1, 0, 0, 0, 0), (2, .iload_n 2, 1, 0, 0, 0, 0), (3, .iload_n 3, 1, 0, 0, 0, 0), (4, .invokevirtual 498, 3, 224, 4, 110, 2258), (7, .ifCond .ne 5, 3, 12, 0, 0, 0), (10, .iconst 0, 1, 0, 0, 0, 0), (11, .ireturn, 1, 0, 0, 0, 0), (12, .aload_n 0, 1, 0, 0, 0, 0), (13, .iload_n 1, 1, 0, 0, 0, 0), (14, .iload_n 2, 1, 0, 0, 0, 0), (15, .iload_n 3, 1, 0, 0, 0, 0)],
  [(16, .invokestatic 272, 3, 158, 3, 112, 2011), (19, .putfield 523, 3, 11, 100, 0, 1755), (22, .aload_n 0, 1, 0, 0, 0, 0), (23, .iconst (-1), 1, 0, 0, 0, 0), (24, .putfield 526, 3, 11, 101, 0, 1756), (27, .aload_n 0, 1, 0, 0, 0, 0), (28, .iconst 0, 1, 0, 0, 0, 0), (29, .putfield 529, 3, 11, 95, 0, 1750)],
  [(32, .aload_n 0, 1, 0, 0, 0, 0), (33, .getfield 168, 3, 11, 68, 0, 1723), (36, .iload_n 1, 1, 0, 0, 0, 0), (37, .iaload, 1, 0, 0, 0, 0), (38, .istore 4, 2, 0, 0, 0, 0), (40, .iload 4, 2, 0, 0, 0, 0), (42, .aload_n 0, 1, 0, 0, 0, 0), (43, .getfield 171, 3, 11, 69, 0, 1724), (46, .iload_n 1, 1, 0, 0, 0, 0), (47, .iaload, 1, 0, 0, 0, 0)],
  [(48, .if_icmp .gt 25, 3, 73, 0, 0, 0), (51, .aload_n 0, 1, 0, 0, 0, 0), (52, .getfield 147, 3, 11, 61, 0, 1716), (55, .iload 4, 2, 0, 0, 0, 0), (57, .iaload, 1, 0, 0, 0, 0), (58, .ifCond .le 9, 3, 67, 0, 0, 0), (61, .aload_n 0, 1, 0, 0, 0, 0), (62, .iload 4, 2, 0, 0, 0, 0)],
  [(64, .invokevirtual 539, 3, 249, 2, 110, 2354), (67, .iinc 4 1, 3, 0, 0, 0, 0), (70, .goto (-30), 3, 40, 0, 0, 0), (73, .aload_n 0, 1, 0, 0, 0, 0), (74, .getfield 526, 3, 11, 101, 0, 1756), (77, .ireturn, 1, 0, 0, 0, 0)]], [], 1, 5)
def qc_X11_laysTerm : qCd := ([[(0, .iconst 0, 1, 0, 0, 0, 0), (1, .istore_n 2, 1, 0, 0, 0, 0), (2, .iload_n 2, 1, 0, 0, 0, 0), (3, .sipush 400, 3, 0, 0, 0, 0), (6, .if_icmp .ge 16, 3, 22, 0, 0, 0), (9, .aload_n 0, 1, 0, 0, 0, 0), (10, .getfield 177, 3, 11, 72, 0, 1727), (13, .iload_n 2, 1, 0, 0, 0, 0), (14, .iconst 0, 1, 0, 0, 0, 0), (15, .bastore, 1, 0, 0, 0, 0)],
  [(16, .iinc 2 1, 3, 0, 0, 0, 0), (19, .goto (-17), 3, 2, 0, 0, 0), (22, .iconst 0, 1, 0, 0, 0, 0), (23, .istore_n 2, 1, 0, 0, 0, 0), (24, .iload_n 2, 1, 0, 0, 0, 0), (25, .sipush 600, 3, 0, 0, 0, 0), (28, .if_icmp .ge 48, 3, 76, 0, 0, 0), (31, .aload_n 0, 1, 0, 0, 0, 0)],
  [(32, .iload_n 2, 1, 0, 0, 0, 0), (33, .invokevirtual 434, 3, 205, 2, 110, 2054), (36, .ifCond .eq 34, 3, 70, 0, 0, 0), (39, .aload_n 0, 1, 0, 0, 0, 0), (40, .getfield 36, 3, 11, 10, 0, 1666), (43, .iload_n 2, 1, 0, 0, 0, 0), (44, .iaload, 1, 0, 0, 0, 0), (45, .iconst 4, 1, 0, 0, 0, 0), (46, .if_icmp .ne 24, 3, 70, 0, 0, 0)],
  [(49, .aload_n 0, 1, 0, 0, 0, 0), (50, .getfield 39, 3, 11, 11, 0, 1667), (53, .iload_n 2, 1, 0, 0, 0, 0), (54, .iaload, 1, 0, 0, 0, 0), (55, .iload_n 1, 1, 0, 0, 0, 0), (56, .if_icmp .ne 14, 3, 70, 0, 0, 0), (59, .aload_n 0, 1, 0, 0, 0, 0), (60, .getfield 177, 3, 11, 72, 0, 1727), (63, .aload_n 0, 1, 0, 0, 0, 0)],
  [(64, .iload_n 2, 1, 0, 0, 0, 0), (65, .invokevirtual 440, 3, 206, 2, 110, 2062), (68, .iconst 1, 1, 0, 0, 0, 0), (69, .bastore, 1, 0, 0, 0, 0), (70, .iinc 2 1, 3, 0, 0, 0, 0), (73, .goto (-49), 3, 24, 0, 0, 0), (76, .return_, 1, 0, 0, 0, 0)]], [], 0, 3)
def qc_X11_manyRanges : qCd := ([[(0, .aload_n 0, 1, 0, 0, 0, 0), (1, .iload_n 1, 1, 0, 0, 0, 0), (2, .invokevirtual 542, 3, 251, 2, 110, 2222), (5, .iconst 0, 1, 0, 0, 0, 0), (6, .istore_n 2, 1, 0, 0, 0, 0), (7, .iconst 1, 1, 0, 0, 0, 0), (8, .istore_n 3, 1, 0, 0, 0, 0), (9, .iload_n 3, 1, 0, 0, 0, 0), (10, .sipush 400, 3, 0, 0, 0, 0), (13, .if_icmp .ge 37, 3, 50, 0, 0, 0)],
  [(16, .iload_n 2, 1, 0, 0, 0, 0), (17, .aload_n 0, 1, 0, 0, 0, 0), (18, .getfield 177, 3, 11, 72, 0, 1727), (21, .iload_n 3, 1, 0, 0, 0, 0), (22, .baload, 1, 0, 0, 0, 0), (23, .ifCond .eq 18, 3, 41, 0, 0, 0), (26, .aload_n 0, 1, 0, 0, 0, 0), (27, .getfield 177, 3, 11, 72, 0, 1727), (30, .iload_n 3, 1, 0, 0, 0, 0), (31, .iconst 1, 1, 0, 0, 0, 0)],
  [(32, .isub, 1, 0, 0, 0, 0), (33, .baload, 1, 0, 0, 0, 0), (34, .ifCond .ne 7, 3, 41, 0, 0, 0), (37, .iconst 1, 1, 0, 0, 0, 0), (38, .goto 4, 3, 42, 0, 0, 0), (41, .iconst 0, 1, 0, 0, 0, 0), (42, .iadd, 1, 0, 0, 0, 0), (43, .istore_n 2, 1, 0, 0, 0, 0), (44, .iinc 3 1, 3, 0, 0, 0, 0), (47, .goto (-38), 3, 9, 0, 0, 0)],
  [(50, .iload_n 2, 1, 0, 0, 0, 0), (51, .ireturn, 1, 0, 0, 0, 0)]], [], 1, 4)
def qc_X11_manyIndexLines : qCd := ([[(0, .iconst 0, 1, 0, 0, 0, 0), (1, .istore_n 1, 1, 0, 0, 0, 0), (2, .iconst 0, 1, 0, 0, 0, 0), (3, .istore_n 2, 1, 0, 0, 0, 0), (4, .iload_n 2, 1, 0, 0, 0, 0), (5, .bipush 10, 2, 0, 0, 0, 0), (7, .if_icmp .ge 37, 3, 44, 0, 0, 0), (10, .iload_n 1, 1, 0, 0, 0, 0), (11, .aload_n 0, 1, 0, 0, 0, 0), (12, .iload_n 2, 1, 0, 0, 0, 0), (13, .invokevirtual 545, 3, 252, 2, 110, 2218)],
  [(16, .iconst 2, 1, 0, 0, 0, 0), (17, .iadd, 1, 0, 0, 0, 0), (18, .iconst 3, 1, 0, 0, 0, 0), (19, .idiv, 1, 0, 0, 0, 0), (20, .aload_n 0, 1, 0, 0, 0, 0), (21, .getfield 51, 3, 11, 16, 0, 1672), (24, .iload_n 2, 1, 0, 0, 0, 0), (25, .iaload, 1, 0, 0, 0, 0), (26, .iconst (-1), 1, 0, 0, 0, 0), (27, .if_icmp .ne 7, 3, 34, 0, 0, 0), (30, .iconst 0, 1, 0, 0, 0, 0), (31, .goto 4, 3, 35, 0, 0, 0)],
  [(34, .iconst 1, 1, 0, 0, 0, 0), (35, .iadd, 1, 0, 0, 0, 0), (36, .iadd, 1, 0, 0, 0, 0), (37, .istore_n 1, 1, 0, 0, 0, 0), (38, .iinc 2 1, 3, 0, 0, 0, 0), (41, .goto (-37), 3, 4, 0, 0, 0), (44, .iload_n 1, 1, 0, 0, 0, 0), (45, .ireturn, 1, 0, 0, 0, 0)]], [], 1, 3)
def qc_X11_ranges : qCd := ([[(0, .aload_n 0, 1, 0, 0, 0, 0), (1, .iload_n 1, 1, 0, 0, 0, 0), (2, .iconst 0, 1, 0, 0, 0, 0), (3, .bipush 9, 2, 0, 0, 0, 0), (5, .invokestatic 243, 3, 152, 3, 112, 1970), (8, .ifCond .ne 7, 3, 15, 0, 0, 0), (11, .iconst 1, 1, 0, 0, 0, 0), (12, .goto 15, 3, 27, 0, 0, 0), (15, .aload_n 0, 1, 0, 0, 0, 0)],
  [(16, .getfield 255, 3, 11, 22, 0, 1678), (19, .ifCond .eq 7, 3, 26, 0, 0, 0), (22, .iconst 0, 1, 0, 0, 0, 0), (23, .goto 4, 3, 27, 0, 0, 0), (26, .iconst 2, 1, 0, 0, 0, 0), (27, .putfield 240, 3, 11, 0, 0, 1656), (30, .aload_n 0, 1, 0, 0, 0, 0), (31, .getfield 240, 3, 11, 0, 0, 1656)],
  [(34, .ifCond .le 7, 3, 41, 0, 0, 0), (37, .iconst 0, 1, 0, 0, 0, 0), (38, .goto 8, 3, 46, 0, 0, 0), (41, .aload_n 0, 1, 0, 0, 0, 0), (42, .iload_n 1, 1, 0, 0, 0, 0), (43, .invokevirtual 545, 3, 252, 2, 110, 2218), (46, .ireturn, 1, 0, 0, 0, 0)]], [], 1, 2)
def qc_X11_range : qCd := ([[(0, .aload_n 0, 1, 0, 0, 0, 0), (1, .iload_n 1, 1, 0, 0, 0, 0), (2, .iconst 0, 1, 0, 0, 0, 0), (3, .bipush 9, 2, 0, 0, 0, 0), (5, .invokestatic 243, 3, 152, 3, 112, 1970), (8, .ifCond .ne 7, 3, 15, 0, 0, 0), (11, .iconst 1, 1, 0, 0, 0, 0), (12, .goto 23, 3, 35, 0, 0, 0), (15, .iload_n 2, 1, 0, 0, 0, 0)],
  [(16, .ifCond .ge 7, 3, 23, 0, 0, 0), (19, .iconst 2, 1, 0, 0, 0, 0), (20, .goto 15, 3, 35, 0, 0, 0), (23, .aload_n 0, 1, 0, 0, 0, 0), (24, .getfield 255, 3, 11, 22, 0, 1678), (27, .ifCond .eq 7, 3, 34, 0, 0, 0), (30, .iconst 0, 1, 0, 0, 0, 0), (31, .goto 4, 3, 35, 0, 0, 0)],
  [(34, .iconst 3, 1, 0, 0, 0, 0), (35, .putfield 240, 3, 11, 0, 0, 1656), (38, .aload_n 0, 1, 0, 0, 0, 0), (39, .getfield 240, 3, 11, 0, 0, 1656), (42, .ifCond .le 5, 3, 47, 0, 0, 0), (45, .iconst 0, 1, 0, 0, 0, 0), (46, .ireturn, 1, 0, 0, 0, 0), (47, .aload_n 0, 1, 0, 0, 0, 0)],
  [(48, .iload_n 1, 1, 0, 0, 0, 0), (49, .invokevirtual 542, 3, 251, 2, 110, 2222), (52, .iconst 0, 1, 0, 0, 0, 0), (53, .istore 4, 2, 0, 0, 0, 0), (55, .iconst (-1), 1, 0, 0, 0, 0), (56, .istore 5, 2, 0, 0, 0, 0), (58, .iconst 1, 1, 0, 0, 0, 0), (59, .istore 6, 2, 0, 0, 0, 0), (61, .iload 6, 2, 0, 0, 0, 0), (63, .sipush 399, 3, 0, 0, 0, 0)],
  [(66, .if_icmp .ge 111, 3, 177, 0, 0, 0), (69, .iload 4, 2, 0, 0, 0, 0), (71, .aload_n 0, 1, 0, 0, 0, 0), (72, .getfield 177, 3, 11, 72, 0, 1727), (75, .iload 6, 2, 0, 0, 0, 0), (77, .baload, 1, 0, 0, 0, 0), (78, .ifCond .eq 19, 3, 97, 0, 0, 0)],
  [(81, .aload_n 0, 1, 0, 0, 0, 0), (82, .getfield 177, 3, 11, 72, 0, 1727), (85, .iload 6, 2, 0, 0, 0, 0), (87, .iconst 1, 1, 0, 0, 0, 0), (88, .isub, 1, 0, 0, 0, 0), (89, .baload, 1, 0, 0, 0, 0), (90, .ifCond .ne 7, 3, 97, 0, 0, 0), (93, .iconst 1, 1, 0, 0, 0, 0), (94, .goto 4, 3, 98, 0, 0, 0)],
  [(97, .iconst 0, 1, 0, 0, 0, 0), (98, .iadd, 1, 0, 0, 0, 0), (99, .istore 4, 2, 0, 0, 0, 0), (101, .aload_n 0, 1, 0, 0, 0, 0), (102, .getfield 177, 3, 11, 72, 0, 1727), (105, .iload 6, 2, 0, 0, 0, 0), (107, .baload, 1, 0, 0, 0, 0), (108, .ifCond .eq 46, 3, 154, 0, 0, 0), (111, .iload 4, 2, 0, 0, 0, 0)],
  [(113, .iconst 1, 1, 0, 0, 0, 0), (114, .isub, 1, 0, 0, 0, 0), (115, .iload_n 2, 1, 0, 0, 0, 0), (116, .if_icmp .ne 38, 3, 154, 0, 0, 0), (119, .iload_n 3, 1, 0, 0, 0, 0), (120, .ifCond .eq 18, 3, 138, 0, 0, 0), (123, .aload_n 0, 1, 0, 0, 0, 0), (124, .getfield 177, 3, 11, 72, 0, 1727), (127, .iload 6, 2, 0, 0, 0, 0)],
  [(129, .iconst 1, 1, 0, 0, 0, 0), (130, .iadd, 1, 0, 0, 0, 0), (131, .baload, 1, 0, 0, 0, 0), (132, .ifCond .ne 22, 3, 154, 0, 0, 0), (135, .goto 15, 3, 150, 0, 0, 0), (138, .aload_n 0, 1, 0, 0, 0, 0), (139, .getfield 177, 3, 11, 72, 0, 1727), (142, .iload 6, 2, 0, 0, 0, 0)],
  [(144, .iconst 1, 1, 0, 0, 0, 0), (145, .isub, 1, 0, 0, 0, 0), (146, .baload, 1, 0, 0, 0, 0), (147, .ifCond .ne 7, 3, 154, 0, 0, 0), (150, .iconst 1, 1, 0, 0, 0, 0), (151, .goto 4, 3, 155, 0, 0, 0), (154, .iconst 0, 1, 0, 0, 0, 0), (155, .istore 7, 2, 0, 0, 0, 0), (157, .iload 7, 2, 0, 0, 0, 0), (159, .ifCond .eq 8, 3, 167, 0, 0, 0)],
  [(162, .iload 6, 2, 0, 0, 0, 0), (164, .goto 5, 3, 169, 0, 0, 0), (167, .iload 5, 2, 0, 0, 0, 0), (169, .istore 5, 2, 0, 0, 0, 0), (171, .iinc 6 1, 3, 0, 0, 0, 0), (174, .goto (-113), 3, 61, 0, 0, 0)],
  [(177, .iload 5, 2, 0, 0, 0, 0), (179, .ireturn, 1, 0, 0, 0, 0)]], [], 1, 8)
def qc_X11_indexLines : qCd := ([[(0, .aload_n 0, 1, 0, 0, 0, 0), (1, .invokevirtual 510, 3, 233, 1, 110, 2298), (4, .ifCond .eq 10, 3, 14, 0, 0, 0), (7, .aload_n 0, 1, 0, 0, 0, 0), (8, .invokevirtual 483, 3, 253, 1, 110, 2214), (11, .goto 4, 3, 15, 0, 0, 0), (14, .iconst 0, 1, 0, 0, 0, 0), (15, .ireturn, 1, 0, 0, 0, 0)]], [], 1, 1)
def qc_X11_indexLine : qCd := ([[(0, .aload_n 0, 1, 0, 0, 0, 0), (1, .iload_n 1, 1, 0, 0, 0, 0), (2, .ifCond .ge 7, 3, 9, 0, 0, 0), (5, .iconst 1, 1, 0, 0, 0, 0), (6, .goto 15, 3, 21, 0, 0, 0), (9, .aload_n 0, 1, 0, 0, 0, 0), (10, .getfield 255, 3, 11, 22, 0, 1678), (13, .ifCond .eq 7, 3, 20, 0, 0, 0)],
  [(16, .iconst 0, 1, 0, 0, 0, 0), (17, .goto 4, 3, 21, 0, 0, 0), (20, .iconst 2, 1, 0, 0, 0, 0), (21, .putfield 240, 3, 11, 0, 0, 1656), (24, .aload_n 0, 1, 0, 0, 0, 0), (25, .getfield 240, 3, 11, 0, 0, 1656), (28, .ifCond .le 5, 3, 33, 0, 0, 0), (31, .iconst 0, 1, 0, 0, 0, 0)],
  [(32, .ireturn, 1, 0, 0, 0, 0), (33, .aload_n 0, 1, 0, 0, 0, 0), (34, .invokevirtual 483, 3, 253, 1, 110, 2214), (37, .istore_n 2, 1, 0, 0, 0, 0), (38, .iload_n 1, 1, 0, 0, 0, 0), (39, .iload_n 2, 1, 0, 0, 0, 0), (40, .if_icmp .lt 5, 3, 45, 0, 0, 0), (43, .iconst (-1), 1, 0, 0, 0, 0), (44, .ireturn, 1, 0, 0, 0, 0), (45, .iload_n 1, 1, 0, 0, 0, 0), (46, .iconst 2, 1, 0, 0, 0, 0), (47, .aload_n 0, 1, 0, 0, 0, 0)],
  [(48, .getfield 13, 3, 11, 2, 0, 1658), (51, .imul, 1, 0, 0, 0, 0), (52, .idiv, 1, 0, 0, 0, 0), (53, .istore_n 3, 1, 0, 0, 0, 0), (54, .iload_n 1, 1, 0, 0, 0, 0), (55, .iconst 2, 1, 0, 0, 0, 0), (56, .aload_n 0, 1, 0, 0, 0, 0), (57, .getfield 13, 3, 11, 2, 0, 1658), (60, .imul, 1, 0, 0, 0, 0), (61, .irem, 1, 0, 0, 0, 0), (62, .istore 4, 2, 0, 0, 0, 0)],
  [(64, .iconst 2, 1, 0, 0, 0, 0), (65, .aload_n 0, 1, 0, 0, 0, 0), (66, .getfield 13, 3, 11, 2, 0, 1658), (69, .imul, 1, 0, 0, 0, 0), (70, .iload_n 2, 1, 0, 0, 0, 0), (71, .iload_n 3, 1, 0, 0, 0, 0), (72, .iconst 2, 1, 0, 0, 0, 0), (73, .imul, 1, 0, 0, 0, 0), (74, .aload_n 0, 1, 0, 0, 0, 0), (75, .getfield 13, 3, 11, 2, 0, 1658), (78, .imul, 1, 0, 0, 0, 0), (79, .isub, 1, 0, 0, 0, 0)],
  [(80, .invokestatic 315, 3, 153, 2, 112, 2149), (83, .istore 5, 2, 0, 0, 0, 0), (85, .iload 5, 2, 0, 0, 0, 0), (87, .iconst 2, 1, 0, 0, 0, 0), (88, .aload_n 0, 1, 0, 0, 0, 0), (89, .getfield 13, 3, 11, 2, 0, 1658), (92, .imul, 1, 0, 0, 0, 0), (93, .if_icmp .ne 10, 3, 103, 0, 0, 0)],
  [(96, .aload_n 0, 1, 0, 0, 0, 0), (97, .getfield 13, 3, 11, 2, 0, 1658), (100, .goto 9, 3, 109, 0, 0, 0), (103, .iload 5, 2, 0, 0, 0, 0), (105, .iconst 1, 1, 0, 0, 0, 0), (106, .iadd, 1, 0, 0, 0, 0), (107, .iconst 2, 1, 0, 0, 0, 0), (108, .idiv, 1, 0, 0, 0, 0), (109, .istore 6, 2, 0, 0, 0, 0), (111, .bipush 10, 2, 0, 0, 0, 0)],
  [(113, .aload_n 0, 1, 0, 0, 0, 0), (114, .getfield 480, 3, 11, 71, 0, 1726), (117, .iload_n 3, 1, 0, 0, 0, 0), (118, .iadd, 1, 0, 0, 0, 0), (119, .imul, 1, 0, 0, 0, 0), (120, .iload 4, 2, 0, 0, 0, 0), (122, .iload 6, 2, 0, 0, 0, 0), (124, .if_icmp .ge 7, 3, 131, 0, 0, 0), (127, .iconst 0, 1, 0, 0, 0, 0)],
  [(128, .goto 4, 3, 132, 0, 0, 0), (131, .iconst 1, 1, 0, 0, 0, 0), (132, .iadd, 1, 0, 0, 0, 0), (133, .ireturn, 1, 0, 0, 0, 0)]], [], 1, 7)
def qc_X11_sheets : qCd := ([[(0, .aload_n 0, 1, 0, 0, 0, 0), (1, .invokevirtual 510, 3, 233, 1, 110, 2298), (4, .ifCond .eq 14, 3, 18, 0, 0, 0), (7, .aload_n 0, 1, 0, 0, 0, 0), (8, .getfield 377, 3, 11, 58, 0, 1713), (11, .iconst 3, 1, 0, 0, 0, 0), (12, .iadd, 1, 0, 0, 0, 0), (13, .iconst 4, 1, 0, 0, 0, 0), (14, .idiv, 1, 0, 0, 0, 0), (15, .goto 4, 3, 19, 0, 0, 0)],
  [(18, .iconst 0, 1, 0, 0, 0, 0), (19, .ireturn, 1, 0, 0, 0, 0)]], [], 1, 1)
def qc_X11_isWordSame : qCd := ([[(0, .aload_n 0, 1, 0, 0, 0, 0), (1, .getfield 30, 3, 11, 8, 0, 1664), (4, .iload_n 1, 1, 0, 0, 0, 0), (5, .bipush 20, 2, 0, 0, 0, 0), (7, .idiv, 1, 0, 0, 0, 0), (8, .iaload, 1, 0, 0, 0, 0), (9, .aload_n 0, 1, 0, 0, 0, 0), (10, .getfield 186, 3, 11, 79, 0, 1734), (13, .iload_n 1, 1, 0, 0, 0, 0), (14, .bipush 20, 2, 0, 0, 0, 0)],
  [(16, .idiv, 1, 0, 0, 0, 0), (17, .iaload, 1, 0, 0, 0, 0), (18, .if_icmp .ne 7, 3, 25, 0, 0, 0), (21, .iconst 1, 1, 0, 0, 0, 0), (22, .goto 4, 3, 26, 0, 0, 0), (25, .iconst 0, 1, 0, 0, 0, 0), (26, .ireturn, 1, 0, 0, 0, 0)]], [], 2, 2)
def qc_X11_areRowsSame : qCd := ([[(0, .aload_n 0, 1, 0, 0, 0, 0), (1, .getfield 141, 3, 11, 59, 0, 1714), (4, .iload_n 1, 1, 0, 0, 0, 0), (5, .iaload, 1, 0, 0, 0, 0), (6, .istore_n 2, 1, 0, 0, 0, 0), (7, .aload_n 0, 1, 0, 0, 0, 0), (8, .getfield 147, 3, 11, 61, 0, 1716), (11, .iload_n 1, 1, 0, 0, 0, 0), (12, .iaload, 1, 0, 0, 0, 0), (13, .aload_n 0, 1, 0, 0, 0, 0), (14, .getfield 216, 3, 11, 89, 0, 1744)],
  [(17, .iload_n 1, 1, 0, 0, 0, 0), (18, .iaload, 1, 0, 0, 0, 0), (19, .if_icmp .ne 7, 3, 26, 0, 0, 0), (22, .iconst 1, 1, 0, 0, 0, 0), (23, .goto 4, 3, 27, 0, 0, 0), (26, .iconst 0, 1, 0, 0, 0, 0), (27, .istore_n 3, 1, 0, 0, 0, 0), (28, .iconst 0, 1, 0, 0, 0, 0), (29, .istore 4, 2, 0, 0, 0, 0), (31, .iload 4, 2, 0, 0, 0, 0)],
  [(33, .aload_n 0, 1, 0, 0, 0, 0), (34, .getfield 147, 3, 11, 61, 0, 1716), (37, .iload_n 1, 1, 0, 0, 0, 0), (38, .iaload, 1, 0, 0, 0, 0), (39, .if_icmp .ge 189, 3, 228, 0, 0, 0), (42, .iload_n 3, 1, 0, 0, 0, 0), (43, .ifCond .eq 185, 3, 228, 0, 0, 0), (46, .bipush 70, 2, 0, 0, 0, 0)],
  [(48, .iload_n 2, 1, 0, 0, 0, 0), (49, .imul, 1, 0, 0, 0, 0), (50, .aload_n 0, 1, 0, 0, 0, 0), (51, .getfield 144, 3, 11, 60, 0, 1715), (54, .iload_n 1, 1, 0, 0, 0, 0), (55, .iaload, 1, 0, 0, 0, 0), (56, .iadd, 1, 0, 0, 0, 0), (57, .iload 4, 2, 0, 0, 0, 0), (59, .iadd, 1, 0, 0, 0, 0), (60, .istore 5, 2, 0, 0, 0, 0), (62, .bipush 70, 2, 0, 0, 0, 0)],
  [(64, .iload_n 2, 1, 0, 0, 0, 0), (65, .imul, 1, 0, 0, 0, 0), (66, .aload_n 0, 1, 0, 0, 0, 0), (67, .getfield 213, 3, 11, 88, 0, 1743), (70, .iload_n 1, 1, 0, 0, 0, 0), (71, .iaload, 1, 0, 0, 0, 0), (72, .iadd, 1, 0, 0, 0, 0), (73, .iload 4, 2, 0, 0, 0, 0), (75, .iadd, 1, 0, 0, 0, 0), (76, .istore 6, 2, 0, 0, 0, 0), (78, .aload_n 0, 1, 0, 0, 0, 0), (79, .getfield 90, 3, 11, 33, 0, 1689)],
  [(82, .iload 5, 2, 0, 0, 0, 0), (84, .iaload, 1, 0, 0, 0, 0), (85, .aload_n 0, 1, 0, 0, 0, 0), (86, .getfield 189, 3, 11, 80, 0, 1735), (89, .iload 6, 2, 0, 0, 0, 0), (91, .iaload, 1, 0, 0, 0, 0), (92, .if_icmp .ne 60, 3, 152, 0, 0, 0), (95, .aload_n 0, 1, 0, 0, 0, 0)],
  [(96, .getfield 96, 3, 11, 35, 0, 1691), (99, .iload 5, 2, 0, 0, 0, 0), (101, .iaload, 1, 0, 0, 0, 0), (102, .aload_n 0, 1, 0, 0, 0, 0), (103, .getfield 192, 3, 11, 81, 0, 1736), (106, .iload 6, 2, 0, 0, 0, 0), (108, .iaload, 1, 0, 0, 0, 0), (109, .if_icmp .ne 43, 3, 152, 0, 0, 0)],
  [(112, .aload_n 0, 1, 0, 0, 0, 0), (113, .getfield 99, 3, 11, 36, 0, 1692), (116, .iload 5, 2, 0, 0, 0, 0), (118, .iaload, 1, 0, 0, 0, 0), (119, .aload_n 0, 1, 0, 0, 0, 0), (120, .getfield 195, 3, 11, 82, 0, 1737), (123, .iload 6, 2, 0, 0, 0, 0), (125, .iaload, 1, 0, 0, 0, 0), (126, .if_icmp .ne 26, 3, 152, 0, 0, 0)],
  [(129, .aload_n 0, 1, 0, 0, 0, 0), (130, .iload_n 2, 1, 0, 0, 0, 0), (131, .aload_n 0, 1, 0, 0, 0, 0), (132, .getfield 90, 3, 11, 33, 0, 1689), (135, .iload 5, 2, 0, 0, 0, 0), (137, .iaload, 1, 0, 0, 0, 0), (138, .iconst 0, 1, 0, 0, 0, 0), (139, .invokestatic 272, 3, 158, 3, 112, 2011), (142, .invokevirtual 548, 3, 259, 2, 110, 2398)],
  [(145, .ifCond .eq 7, 3, 152, 0, 0, 0), (148, .iconst 1, 1, 0, 0, 0, 0), (149, .goto 4, 3, 153, 0, 0, 0), (152, .iconst 0, 1, 0, 0, 0, 0), (153, .istore_n 3, 1, 0, 0, 0, 0), (154, .aload_n 0, 1, 0, 0, 0, 0), (155, .getfield 96, 3, 11, 35, 0, 1691), (158, .iload 5, 2, 0, 0, 0, 0)],
  [(160, .iaload, 1, 0, 0, 0, 0), (161, .istore 7, 2, 0, 0, 0, 0), (163, .iload 7, 2, 0, 0, 0, 0), (165, .aload_n 0, 1, 0, 0, 0, 0), (166, .getfield 99, 3, 11, 36, 0, 1692), (169, .iload 5, 2, 0, 0, 0, 0), (171, .iaload, 1, 0, 0, 0, 0), (172, .if_icmp .ge 50, 3, 222, 0, 0, 0), (175, .iload_n 3, 1, 0, 0, 0, 0)],
  [(176, .ifCond .eq 46, 3, 222, 0, 0, 0), (179, .iload_n 2, 1, 0, 0, 0, 0), (180, .aload_n 0, 1, 0, 0, 0, 0), (181, .getfield 90, 3, 11, 33, 0, 1689), (184, .iload 5, 2, 0, 0, 0, 0), (186, .iaload, 1, 0, 0, 0, 0), (187, .iload 7, 2, 0, 0, 0, 0), (189, .invokestatic 272, 3, 158, 3, 112, 2011)],
  [(192, .istore 8, 2, 0, 0, 0, 0), (194, .aload_n 0, 1, 0, 0, 0, 0), (195, .iload 8, 2, 0, 0, 0, 0), (197, .invokevirtual 492, 3, 218, 2, 110, 2234), (200, .aload_n 0, 1, 0, 0, 0, 0), (201, .getfield 198, 3, 11, 83, 0, 1738), (204, .iload 8, 2, 0, 0, 0, 0), (206, .iaload, 1, 0, 0, 0, 0), (207, .if_icmp .ne 7, 3, 214, 0, 0, 0)],
  [(210, .iconst 1, 1, 0, 0, 0, 0), (211, .goto 4, 3, 215, 0, 0, 0), (214, .iconst 0, 1, 0, 0, 0, 0), (215, .istore_n 3, 1, 0, 0, 0, 0), (216, .iinc 7 1, 3, 0, 0, 0, 0), (219, .goto (-56), 3, 163, 0, 0, 0), (222, .iinc 4 1, 3, 0, 0, 0, 0)],
  [(225, .goto (-194), 3, 31, 0, 0, 0), (228, .iload_n 3, 1, 0, 0, 0, 0), (229, .ireturn, 1, 0, 0, 0, 0)]], [], 2, 9)
def qc_X11_areFloatsSame : qCd := ([[(0, .aload_n 0, 1, 0, 0, 0, 0), (1, .getfield 141, 3, 11, 59, 0, 1714), (4, .iload_n 1, 1, 0, 0, 0, 0), (5, .iaload, 1, 0, 0, 0, 0), (6, .istore_n 2, 1, 0, 0, 0, 0), (7, .aload_n 0, 1, 0, 0, 0, 0), (8, .getfield 153, 3, 11, 63, 0, 1718), (11, .iload_n 1, 1, 0, 0, 0, 0), (12, .iaload, 1, 0, 0, 0, 0), (13, .aload_n 0, 1, 0, 0, 0, 0), (14, .getfield 222, 3, 11, 91, 0, 1746)],
  [(17, .iload_n 1, 1, 0, 0, 0, 0), (18, .iaload, 1, 0, 0, 0, 0), (19, .if_icmp .ne 22, 3, 41, 0, 0, 0), (22, .aload_n 0, 1, 0, 0, 0, 0), (23, .getfield 159, 3, 11, 65, 0, 1720), (26, .iload_n 1, 1, 0, 0, 0, 0), (27, .iaload, 1, 0, 0, 0, 0), (28, .aload_n 0, 1, 0, 0, 0, 0), (29, .getfield 228, 3, 11, 93, 0, 1748)],
  [(32, .iload_n 1, 1, 0, 0, 0, 0), (33, .iaload, 1, 0, 0, 0, 0), (34, .if_icmp .ne 7, 3, 41, 0, 0, 0), (37, .iconst 1, 1, 0, 0, 0, 0), (38, .goto 4, 3, 42, 0, 0, 0), (41, .iconst 0, 1, 0, 0, 0, 0), (42, .istore_n 3, 1, 0, 0, 0, 0), (43, .iconst 0, 1, 0, 0, 0, 0), (44, .istore 4, 2, 0, 0, 0, 0), (46, .iload 4, 2, 0, 0, 0, 0)],
  [(48, .aload_n 0, 1, 0, 0, 0, 0), (49, .getfield 153, 3, 11, 63, 0, 1718), (52, .iload_n 1, 1, 0, 0, 0, 0), (53, .iaload, 1, 0, 0, 0, 0), (54, .if_icmp .ge 71, 3, 125, 0, 0, 0), (57, .iload_n 3, 1, 0, 0, 0, 0), (58, .ifCond .eq 67, 3, 125, 0, 0, 0), (61, .aload_n 0, 1, 0, 0, 0, 0), (62, .getfield 111, 3, 11, 40, 0, 1696)],
  [(65, .iconst 4, 1, 0, 0, 0, 0), (66, .iload_n 2, 1, 0, 0, 0, 0), (67, .imul, 1, 0, 0, 0, 0), (68, .aload_n 0, 1, 0, 0, 0, 0), (69, .getfield 150, 3, 11, 62, 0, 1717), (72, .iload_n 1, 1, 0, 0, 0, 0), (73, .iaload, 1, 0, 0, 0, 0), (74, .iadd, 1, 0, 0, 0, 0), (75, .iload 4, 2, 0, 0, 0, 0), (77, .iadd, 1, 0, 0, 0, 0), (78, .iaload, 1, 0, 0, 0, 0), (79, .istore 5, 2, 0, 0, 0, 0)],
  [(81, .iload 5, 2, 0, 0, 0, 0), (83, .aload_n 0, 1, 0, 0, 0, 0), (84, .getfield 201, 3, 11, 84, 0, 1739), (87, .iconst 4, 1, 0, 0, 0, 0), (88, .iload_n 2, 1, 0, 0, 0, 0), (89, .imul, 1, 0, 0, 0, 0), (90, .aload_n 0, 1, 0, 0, 0, 0), (91, .getfield 219, 3, 11, 90, 0, 1745), (94, .iload_n 1, 1, 0, 0, 0, 0), (95, .iaload, 1, 0, 0, 0, 0)],
  [(96, .iadd, 1, 0, 0, 0, 0), (97, .iload 4, 2, 0, 0, 0, 0), (99, .iadd, 1, 0, 0, 0, 0), (100, .iaload, 1, 0, 0, 0, 0), (101, .if_icmp .ne 16, 3, 117, 0, 0, 0), (104, .aload_n 0, 1, 0, 0, 0, 0), (105, .iload 5, 2, 0, 0, 0, 0), (107, .invokevirtual 548, 3, 259, 2, 110, 2398), (110, .ifCond .eq 7, 3, 117, 0, 0, 0)],
  [(113, .iconst 1, 1, 0, 0, 0, 0), (114, .goto 4, 3, 118, 0, 0, 0), (117, .iconst 0, 1, 0, 0, 0, 0), (118, .istore_n 3, 1, 0, 0, 0, 0), (119, .iinc 4 1, 3, 0, 0, 0, 0), (122, .goto (-76), 3, 46, 0, 0, 0), (125, .iconst 0, 1, 0, 0, 0, 0), (126, .istore 4, 2, 0, 0, 0, 0)],
  [(128, .iload 4, 2, 0, 0, 0, 0), (130, .aload_n 0, 1, 0, 0, 0, 0), (131, .getfield 159, 3, 11, 65, 0, 1720), (134, .iload_n 1, 1, 0, 0, 0, 0), (135, .iaload, 1, 0, 0, 0, 0), (136, .if_icmp .ge 99, 3, 235, 0, 0, 0), (139, .iload_n 3, 1, 0, 0, 0, 0), (140, .ifCond .eq 95, 3, 235, 0, 0, 0), (143, .bipush 12, 2, 0, 0, 0, 0)],
  [(145, .iload_n 2, 1, 0, 0, 0, 0), (146, .imul, 1, 0, 0, 0, 0), (147, .aload_n 0, 1, 0, 0, 0, 0), (148, .getfield 156, 3, 11, 64, 0, 1719), (151, .iload_n 1, 1, 0, 0, 0, 0), (152, .iaload, 1, 0, 0, 0, 0), (153, .iadd, 1, 0, 0, 0, 0), (154, .iload 4, 2, 0, 0, 0, 0), (156, .iadd, 1, 0, 0, 0, 0), (157, .istore 5, 2, 0, 0, 0, 0), (159, .bipush 12, 2, 0, 0, 0, 0)],
  [(161, .iload_n 2, 1, 0, 0, 0, 0), (162, .imul, 1, 0, 0, 0, 0), (163, .aload_n 0, 1, 0, 0, 0, 0), (164, .getfield 225, 3, 11, 92, 0, 1747), (167, .iload_n 1, 1, 0, 0, 0, 0), (168, .iaload, 1, 0, 0, 0, 0), (169, .iadd, 1, 0, 0, 0, 0), (170, .iload 4, 2, 0, 0, 0, 0), (172, .iadd, 1, 0, 0, 0, 0), (173, .istore 6, 2, 0, 0, 0, 0), (175, .aload_n 0, 1, 0, 0, 0, 0)],
  [(176, .getfield 117, 3, 11, 42, 0, 1698), (179, .iload 5, 2, 0, 0, 0, 0), (181, .iaload, 1, 0, 0, 0, 0), (182, .aload_n 0, 1, 0, 0, 0, 0), (183, .getfield 204, 3, 11, 85, 0, 1740), (186, .iload 6, 2, 0, 0, 0, 0), (188, .iaload, 1, 0, 0, 0, 0), (189, .if_icmp .ne 38, 3, 227, 0, 0, 0)],
  [(192, .aload_n 0, 1, 0, 0, 0, 0), (193, .getfield 120, 3, 11, 43, 0, 1699), (196, .iload 5, 2, 0, 0, 0, 0), (198, .iaload, 1, 0, 0, 0, 0), (199, .aload_n 0, 1, 0, 0, 0, 0), (200, .getfield 207, 3, 11, 86, 0, 1741), (203, .iload 6, 2, 0, 0, 0, 0), (205, .iaload, 1, 0, 0, 0, 0), (206, .if_icmp .ne 21, 3, 227, 0, 0, 0)],
  [(209, .aload_n 0, 1, 0, 0, 0, 0), (210, .aload_n 0, 1, 0, 0, 0, 0), (211, .getfield 117, 3, 11, 42, 0, 1698), (214, .iload 5, 2, 0, 0, 0, 0), (216, .iaload, 1, 0, 0, 0, 0), (217, .invokevirtual 548, 3, 259, 2, 110, 2398), (220, .ifCond .eq 7, 3, 227, 0, 0, 0), (223, .iconst 1, 1, 0, 0, 0, 0)],
  [(224, .goto 4, 3, 228, 0, 0, 0), (227, .iconst 0, 1, 0, 0, 0, 0), (228, .istore_n 3, 1, 0, 0, 0, 0), (229, .iinc 4 1, 3, 0, 0, 0, 0), (232, .goto (-104), 3, 128, 0, 0, 0), (235, .iload_n 3, 1, 0, 0, 0, 0), (236, .ireturn, 1, 0, 0, 0, 0)]], [], 2, 7)
def qc_X11_isPageSame : qCd := ([[(0, .iload_n 1, 1, 0, 0, 0, 0), (1, .aload_n 0, 1, 0, 0, 0, 0), (2, .getfield 377, 3, 11, 58, 0, 1713), (5, .if_icmp .gt 26, 3, 31, 0, 0, 0), (8, .iload_n 1, 1, 0, 0, 0, 0), (9, .aload_n 0, 1, 0, 0, 0, 0), (10, .getfield 396, 3, 11, 74, 0, 1729), (13, .if_icmp .gt 18, 3, 31, 0, 0, 0)],
  [(16, .aload_n 0, 1, 0, 0, 0, 0), (17, .getfield 141, 3, 11, 59, 0, 1714), (20, .iload_n 1, 1, 0, 0, 0, 0), (21, .iaload, 1, 0, 0, 0, 0), (22, .aload_n 0, 1, 0, 0, 0, 0), (23, .getfield 210, 3, 11, 87, 0, 1742), (26, .iload_n 1, 1, 0, 0, 0, 0), (27, .iaload, 1, 0, 0, 0, 0), (28, .if_icmp .eq 5, 3, 33, 0, 0, 0), (31, .iconst 0, 1, 0, 0, 0, 0)],
  [(32, .ireturn, 1, 0, 0, 0, 0), (33, .aload_n 0, 1, 0, 0, 0, 0), (34, .getfield 141, 3, 11, 59, 0, 1714), (37, .iload_n 1, 1, 0, 0, 0, 0), (38, .iaload, 1, 0, 0, 0, 0), (39, .iconst 3, 1, 0, 0, 0, 0), (40, .if_icmp .ge 34, 3, 74, 0, 0, 0), (43, .aload_n 0, 1, 0, 0, 0, 0), (44, .getfield 162, 3, 11, 66, 0, 1721), (47, .iload_n 1, 1, 0, 0, 0, 0)],
  [(48, .iaload, 1, 0, 0, 0, 0), (49, .aload_n 0, 1, 0, 0, 0, 0), (50, .getfield 231, 3, 11, 94, 0, 1749), (53, .iload_n 1, 1, 0, 0, 0, 0), (54, .iaload, 1, 0, 0, 0, 0), (55, .if_icmp .ne 23, 3, 78, 0, 0, 0), (58, .aload_n 0, 1, 0, 0, 0, 0), (59, .iload_n 1, 1, 0, 0, 0, 0), (60, .invokevirtual 551, 3, 260, 2, 110, 2394), (63, .ifCond .eq 15, 3, 78, 0, 0, 0)],
  [(66, .aload_n 0, 1, 0, 0, 0, 0), (67, .iload_n 1, 1, 0, 0, 0, 0), (68, .invokevirtual 554, 3, 261, 2, 110, 2402), (71, .ifCond .eq 7, 3, 78, 0, 0, 0), (74, .iconst 1, 1, 0, 0, 0, 0), (75, .goto 4, 3, 79, 0, 0, 0), (78, .iconst 0, 1, 0, 0, 0, 0), (79, .ireturn, 1, 0, 0, 0, 0)]], [], 2, 2)
def qc_X11_untouched : qCd := ([[(0, .aload_n 0, 1, 0, 0, 0, 0), (1, .invokevirtual 510, 3, 233, 1, 110, 2298), (4, .ifCond .eq 10, 3, 14, 0, 0, 0), (7, .aload_n 0, 1, 0, 0, 0, 0), (8, .getfield 387, 3, 11, 73, 0, 1728), (11, .ifCond .ne 5, 3, 16, 0, 0, 0), (14, .iconst 0, 1, 0, 0, 0, 0), (15, .ireturn, 1, 0, 0, 0, 0)],
  [(16, .aload_n 0, 1, 0, 0, 0, 0), (17, .getfield 377, 3, 11, 58, 0, 1713), (20, .aload_n 0, 1, 0, 0, 0, 0), (21, .getfield 396, 3, 11, 74, 0, 1729), (24, .if_icmp .le 10, 3, 34, 0, 0, 0), (27, .aload_n 0, 1, 0, 0, 0, 0), (28, .getfield 377, 3, 11, 58, 0, 1713), (31, .goto 7, 3, 38, 0, 0, 0)],
  [(34, .aload_n 0, 1, 0, 0, 0, 0), (35, .getfield 396, 3, 11, 74, 0, 1729), (38, .istore_n 1, 1, 0, 0, 0, 0), (39, .iconst 0, 1, 0, 0, 0, 0), (40, .istore_n 2, 1, 0, 0, 0, 0), (41, .iconst 1, 1, 0, 0, 0, 0), (42, .istore_n 3, 1, 0, 0, 0, 0), (43, .iload_n 3, 1, 0, 0, 0, 0), (44, .iload_n 1, 1, 0, 0, 0, 0), (45, .if_icmp .gt 69, 3, 114, 0, 0, 0)],
  [(48, .iconst 1, 1, 0, 0, 0, 0), (49, .istore 4, 2, 0, 0, 0, 0), (51, .iload_n 3, 1, 0, 0, 0, 0), (52, .istore 5, 2, 0, 0, 0, 0), (54, .iload 5, 2, 0, 0, 0, 0), (56, .iload_n 3, 1, 0, 0, 0, 0), (57, .iconst 4, 1, 0, 0, 0, 0), (58, .iadd, 1, 0, 0, 0, 0), (59, .if_icmp .ge 36, 3, 95, 0, 0, 0), (62, .iload 5, 2, 0, 0, 0, 0)],
  [(64, .iload_n 1, 1, 0, 0, 0, 0), (65, .if_icmp .gt 30, 3, 95, 0, 0, 0), (68, .iload 4, 2, 0, 0, 0, 0), (70, .ifCond .eq 16, 3, 86, 0, 0, 0), (73, .aload_n 0, 1, 0, 0, 0, 0), (74, .iload 5, 2, 0, 0, 0, 0), (76, .invokevirtual 557, 3, 262, 2, 110, 2390), (79, .ifCond .eq 7, 3, 86, 0, 0, 0)],
  [(82, .iconst 1, 1, 0, 0, 0, 0), (83, .goto 4, 3, 87, 0, 0, 0), (86, .iconst 0, 1, 0, 0, 0, 0), (87, .istore 4, 2, 0, 0, 0, 0), (89, .iinc 5 1, 3, 0, 0, 0, 0), (92, .goto (-38), 3, 54, 0, 0, 0), (95, .iload_n 2, 1, 0, 0, 0, 0)],
  [(96, .iload 4, 2, 0, 0, 0, 0), (98, .ifCond .eq 7, 3, 105, 0, 0, 0), (101, .iconst 1, 1, 0, 0, 0, 0), (102, .goto 4, 3, 106, 0, 0, 0), (105, .iconst 0, 1, 0, 0, 0, 0), (106, .iadd, 1, 0, 0, 0, 0), (107, .istore_n 2, 1, 0, 0, 0, 0), (108, .iinc 3 4, 3, 0, 0, 0, 0), (111, .goto (-68), 3, 43, 0, 0, 0)],
  [(114, .iload_n 2, 1, 0, 0, 0, 0), (115, .ireturn, 1, 0, 0, 0, 0)]], [], 1, 6)
def qc_J9_max_7cf53 : qCd := ([[(0, .iload_n 0, 1, 0, 0, 0, 0), (1, .iload_n 1, 1, 0, 0, 0, 0), (2, .if_icmp .lt 7, 3, 9, 0, 0, 0), (5, .iload_n 0, 1, 0, 0, 0, 0), (6, .goto 4, 3, 10, 0, 0, 0), (9, .iload_n 1, 1, 0, 0, 0, 0), (10, .ireturn, 1, 0, 0, 0, 0)]], [], 1, 2)
def qc_J9_min_7cf53 : qCd := ([[(0, .iload_n 0, 1, 0, 0, 0, 0), (1, .iload_n 1, 1, 0, 0, 0, 0), (2, .if_icmp .gt 7, 3, 9, 0, 0, 0), (5, .iload_n 0, 1, 0, 0, 0, 0), (6, .goto 4, 3, 10, 0, 0, 0), (9, .iload_n 1, 1, 0, 0, 0, 0), (10, .ireturn, 1, 0, 0, 0, 0)]], [], 1, 2)
def qc_J7_rangeCheck_23922 : qCd := ([[(0, .iload_n 1, 1, 0, 0, 0, 0), (1, .iload_n 2, 1, 0, 0, 0, 0), (2, .if_icmp .le 44, 3, 46, 0, 0, 0), (8, .dup, 1, 0, 0, 0, 0), (12, .dup, 1, 0, 0, 0, 0)],
  [(21, .iload_n 1, 1, 0, 0, 0, 0), (30, .iload_n 2, 1, 0, 0, 0, 0)],
  [(46, .iload_n 1, 1, 0, 0, 0, 0), (47, .ifCond .ge 12, 3, 59, 0, 0, 0)],
  [(53, .dup, 1, 0, 0, 0, 0), (54, .iload_n 1, 1, 0, 0, 0, 0), (59, .iload_n 2, 1, 0, 0, 0, 0), (60, .iload_n 0, 1, 0, 0, 0, 0), (61, .if_icmp .le 12, 3, 73, 0, 0, 0)],
  [(67, .dup, 1, 0, 0, 0, 0), (68, .iload_n 2, 1, 0, 0, 0, 0), (73, .return_, 1, 0, 0, 0, 0)]], [], 0, 3)
def qc_J7_fill_53178 : qCd := ([[(0, .iconst 0, 1, 0, 0, 0, 0), (1, .istore_n 2, 1, 0, 0, 0, 0), (2, .aload_n 0, 1, 0, 0, 0, 0), (3, .arraylength, 1, 0, 0, 0, 0), (4, .istore_n 3, 1, 0, 0, 0, 0), (5, .iload_n 2, 1, 0, 0, 0, 0), (6, .iload_n 3, 1, 0, 0, 0, 0), (7, .if_icmp .ge 13, 3, 20, 0, 0, 0), (10, .aload_n 0, 1, 0, 0, 0, 0), (11, .iload_n 2, 1, 0, 0, 0, 0), (12, .iload_n 1, 1, 0, 0, 0, 0), (13, .iastore, 1, 0, 0, 0, 0), (14, .iinc 2 1, 3, 0, 0, 0, 0)],
  [(17, .goto (-12), 3, 5, 0, 0, 0), (20, .return_, 1, 0, 0, 0, 0)]], [], 0, 4)
def qc_J7_fill_fda19 : qCd := ([[(0, .aload_n 0, 1, 0, 0, 0, 0), (1, .arraylength, 1, 0, 0, 0, 0), (2, .iload_n 1, 1, 0, 0, 0, 0), (3, .iload_n 2, 1, 0, 0, 0, 0), (4, .invokestatic 13, 3, 266, 3, 2, 1008), (7, .iload_n 1, 1, 0, 0, 0, 0), (8, .istore 4, 2, 0, 0, 0, 0), (10, .iload 4, 2, 0, 0, 0, 0), (12, .iload_n 2, 1, 0, 0, 0, 0), (13, .if_icmp .ge 14, 3, 27, 0, 0, 0)],
  [(16, .aload_n 0, 1, 0, 0, 0, 0), (17, .iload 4, 2, 0, 0, 0, 0), (19, .iload_n 3, 1, 0, 0, 0, 0), (20, .iastore, 1, 0, 0, 0, 0), (21, .iinc 4 1, 3, 0, 0, 0, 0), (24, .goto (-14), 3, 10, 0, 0, 0), (27, .return_, 1, 0, 0, 0, 0)]], [], 0, 5)
def qc_L_setMeasures : qCd := ([[(0, .aload_n 3, 1, 0, 0, 0, 0), (1, .iconst 0, 1, 0, 0, 0, 0), (2, .aload_n 0, 1, 0, 0, 0, 0), (3, .iload_n 1, 1, 0, 0, 0, 0), (4, .iload_n 2, 1, 0, 0, 0, 0), (5, .invokevirtual 7, 3, 95, 3, 100, 588), (8, .i2l, 1, 0, 0, 0, 0), (9, .lastore, 1, 0, 0, 0, 0), (10, .goto 7, 3, 17, 0, 0, 0), (13, .astore 4, 2, 0, 0, 0, 0), (15, .iconst 1, 1, 0, 0, 0, 0)],
  [(16, .ireturn, 1, 0, 0, 0, 0), (17, .iconst 0, 1, 0, 0, 0, 0), (18, .ireturn, 1, 0, 0, 0, 0)]], [(0, 10, 0, 15, 4)], 1, 5)
def qc_L_word : qCd := ([[(0, .aload 4, 2, 0, 0, 0, 0), (2, .iconst 0, 1, 0, 0, 0, 0), (3, .aload_n 0, 1, 0, 0, 0, 0), (4, .iload_n 1, 1, 0, 0, 0, 0), (5, .iload_n 2, 1, 0, 0, 0, 0), (6, .iload_n 3, 1, 0, 0, 0, 0), (7, .invokevirtual 15, 3, 97, 4, 100, 665), (10, .i2l, 1, 0, 0, 0, 0), (11, .lastore, 1, 0, 0, 0, 0), (12, .goto 11, 3, 23, 0, 0, 0), (15, .astore 5, 2, 0, 0, 0, 0)],
  [(17, .iconst 1, 1, 0, 0, 0, 0), (18, .ireturn, 1, 0, 0, 0, 0), (19, .astore 5, 2, 0, 0, 0, 0), (21, .iconst 2, 1, 0, 0, 0, 0), (22, .ireturn, 1, 0, 0, 0, 0), (23, .iconst 0, 1, 0, 0, 0, 0), (24, .ireturn, 1, 0, 0, 0, 0)]], [(0, 12, 0, 17, 5), (0, 12, 1, 21, 5)], 1, 6)
def qc_L_refer : qCd := ([[(0, .aload_n 2, 1, 0, 0, 0, 0), (1, .iconst 0, 1, 0, 0, 0, 0), (2, .aload_n 0, 1, 0, 0, 0, 0), (3, .iload_n 1, 1, 0, 0, 0, 0), (4, .invokevirtual 21, 3, 98, 2, 100, 703), (7, .i2l, 1, 0, 0, 0, 0), (8, .lastore, 1, 0, 0, 0, 0), (9, .goto 9, 3, 18, 0, 0, 0), (12, .astore_n 3, 1, 0, 0, 0, 0), (13, .iconst 1, 1, 0, 0, 0, 0), (14, .ireturn, 1, 0, 0, 0, 0), (15, .astore_n 3, 1, 0, 0, 0, 0)],
  [(16, .iconst 2, 1, 0, 0, 0, 0), (17, .ireturn, 1, 0, 0, 0, 0), (18, .iconst 0, 1, 0, 0, 0, 0), (19, .ireturn, 1, 0, 0, 0, 0)]], [(0, 9, 0, 13, 3), (0, 9, 1, 16, 3)], 1, 4)
def qc_L_paragraph : qCd := ([[(0, .aload_n 2, 1, 0, 0, 0, 0), (1, .iconst 0, 1, 0, 0, 0, 0), (2, .aload_n 0, 1, 0, 0, 0, 0), (3, .iload_n 1, 1, 0, 0, 0, 0), (4, .invokevirtual 25, 3, 100, 2, 100, 712), (7, .i2l, 1, 0, 0, 0, 0), (8, .lastore, 1, 0, 0, 0, 0), (9, .goto 9, 3, 18, 0, 0, 0), (12, .astore_n 3, 1, 0, 0, 0, 0), (13, .iconst 1, 1, 0, 0, 0, 0), (14, .ireturn, 1, 0, 0, 0, 0), (15, .astore_n 3, 1, 0, 0, 0, 0)],
  [(16, .iconst 2, 1, 0, 0, 0, 0), (17, .ireturn, 1, 0, 0, 0, 0), (18, .iconst 0, 1, 0, 0, 0, 0), (19, .ireturn, 1, 0, 0, 0, 0)]], [(0, 9, 2, 13, 3), (0, 9, 1, 16, 3)], 1, 4)
def qc_L_head : qCd := ([[(0, .aload 4, 2, 0, 0, 0, 0), (2, .iconst 0, 1, 0, 0, 0, 0), (3, .aload_n 0, 1, 0, 0, 0, 0), (4, .iload_n 1, 1, 0, 0, 0, 0), (5, .iload_n 2, 1, 0, 0, 0, 0), (6, .iload_n 3, 1, 0, 0, 0, 0), (7, .invokevirtual 30, 3, 101, 4, 100, 779), (10, .i2l, 1, 0, 0, 0, 0), (11, .lastore, 1, 0, 0, 0, 0), (12, .goto 15, 3, 27, 0, 0, 0), (15, .astore 5, 2, 0, 0, 0, 0)],
  [(17, .iconst 1, 1, 0, 0, 0, 0), (18, .ireturn, 1, 0, 0, 0, 0), (19, .astore 5, 2, 0, 0, 0, 0), (21, .iconst 2, 1, 0, 0, 0, 0), (22, .ireturn, 1, 0, 0, 0, 0), (23, .astore 5, 2, 0, 0, 0, 0), (25, .iconst 3, 1, 0, 0, 0, 0), (26, .ireturn, 1, 0, 0, 0, 0), (27, .iconst 0, 1, 0, 0, 0, 0), (28, .ireturn, 1, 0, 0, 0, 0)]], [(0, 12, 2, 17, 5), (0, 12, 0, 21, 5), (0, 12, 1, 25, 5)], 1, 6)
def qc_L_replace : qCd := ([[(0, .aload_n 3, 1, 0, 0, 0, 0), (1, .iconst 0, 1, 0, 0, 0, 0), (2, .aload_n 0, 1, 0, 0, 0, 0), (3, .iload_n 1, 1, 0, 0, 0, 0), (4, .iload_n 2, 1, 0, 0, 0, 0), (5, .invokevirtual 33, 3, 102, 3, 100, 792), (8, .i2l, 1, 0, 0, 0, 0), (9, .lastore, 1, 0, 0, 0, 0), (10, .goto 11, 3, 21, 0, 0, 0), (13, .astore 4, 2, 0, 0, 0, 0), (15, .iconst 1, 1, 0, 0, 0, 0)],
  [(16, .ireturn, 1, 0, 0, 0, 0), (17, .astore 4, 2, 0, 0, 0, 0), (19, .iconst 2, 1, 0, 0, 0, 0), (20, .ireturn, 1, 0, 0, 0, 0), (21, .iconst 0, 1, 0, 0, 0, 0), (22, .ireturn, 1, 0, 0, 0, 0)]], [(0, 10, 2, 15, 4), (0, 10, 1, 19, 4)], 1, 5)
def qc_L_seeAlso : qCd := ([[(0, .aload_n 3, 1, 0, 0, 0, 0), (1, .iconst 0, 1, 0, 0, 0, 0), (2, .aload_n 0, 1, 0, 0, 0, 0), (3, .iload_n 1, 1, 0, 0, 0, 0), (4, .iload_n 2, 1, 0, 0, 0, 0), (5, .invokevirtual 36, 3, 103, 3, 100, 805), (8, .i2l, 1, 0, 0, 0, 0), (9, .lastore, 1, 0, 0, 0, 0), (10, .goto 11, 3, 21, 0, 0, 0), (13, .astore 4, 2, 0, 0, 0, 0), (15, .iconst 1, 1, 0, 0, 0, 0)],
  [(16, .ireturn, 1, 0, 0, 0, 0), (17, .astore 4, 2, 0, 0, 0, 0), (19, .iconst 2, 1, 0, 0, 0, 0), (20, .ireturn, 1, 0, 0, 0, 0), (21, .iconst 0, 1, 0, 0, 0, 0), (22, .ireturn, 1, 0, 0, 0, 0)]], [(0, 10, 2, 15, 4), (0, 10, 0, 19, 4)], 1, 5)
def qc_L_compose : qCd := ([[(0, .aload_n 2, 1, 0, 0, 0, 0), (1, .iconst 0, 1, 0, 0, 0, 0), (2, .aload_n 0, 1, 0, 0, 0, 0), (3, .iload_n 1, 1, 0, 0, 0, 0), (4, .invokevirtual 39, 3, 104, 2, 100, 818), (7, .i2l, 1, 0, 0, 0, 0), (8, .lastore, 1, 0, 0, 0, 0), (9, .goto 6, 3, 15, 0, 0, 0), (12, .astore_n 3, 1, 0, 0, 0, 0), (13, .iconst 1, 1, 0, 0, 0, 0), (14, .ireturn, 1, 0, 0, 0, 0), (15, .iconst 0, 1, 0, 0, 0, 0)],
  [(16, .ireturn, 1, 0, 0, 0, 0)]], [(0, 9, 1, 13, 3)], 1, 4)
def qc_L_print : qCd := ([[(0, .aload_n 1, 1, 0, 0, 0, 0), (1, .iconst 0, 1, 0, 0, 0, 0), (2, .aload_n 0, 1, 0, 0, 0, 0), (3, .invokevirtual 43, 3, 105, 1, 100, 1371), (6, .i2l, 1, 0, 0, 0, 0), (7, .lastore, 1, 0, 0, 0, 0), (8, .goto 6, 3, 14, 0, 0, 0), (11, .astore_n 2, 1, 0, 0, 0, 0), (12, .iconst 1, 1, 0, 0, 0, 0), (13, .ireturn, 1, 0, 0, 0, 0), (14, .iconst 0, 1, 0, 0, 0, 0), (15, .ireturn, 1, 0, 0, 0, 0)]], [(0, 8, 1, 12, 2)], 1, 3)
def qc_L_items : qCd := ([[(0, .aload_n 2, 1, 0, 0, 0, 0), (1, .iconst 0, 1, 0, 0, 0, 0), (2, .aload_n 0, 1, 0, 0, 0, 0), (3, .iload_n 1, 1, 0, 0, 0, 0), (4, .invokevirtual 47, 3, 107, 2, 100, 1383), (7, .i2l, 1, 0, 0, 0, 0), (8, .lastore, 1, 0, 0, 0, 0), (9, .goto 6, 3, 15, 0, 0, 0), (12, .astore_n 3, 1, 0, 0, 0, 0), (13, .iconst 1, 1, 0, 0, 0, 0), (14, .ireturn, 1, 0, 0, 0, 0), (15, .iconst 0, 1, 0, 0, 0, 0)],
  [(16, .ireturn, 1, 0, 0, 0, 0)]], [(0, 9, 2, 13, 3)], 1, 4)
def qc_L_words : qCd := ([[(0, .aload_n 3, 1, 0, 0, 0, 0), (1, .iconst 0, 1, 0, 0, 0, 0), (2, .aload_n 0, 1, 0, 0, 0, 0), (3, .iload_n 1, 1, 0, 0, 0, 0), (4, .iload_n 2, 1, 0, 0, 0, 0), (5, .invokevirtual 50, 3, 108, 3, 100, 1390), (8, .i2l, 1, 0, 0, 0, 0), (9, .lastore, 1, 0, 0, 0, 0), (10, .goto 7, 3, 17, 0, 0, 0), (13, .astore 4, 2, 0, 0, 0, 0), (15, .iconst 1, 1, 0, 0, 0, 0)],
  [(16, .ireturn, 1, 0, 0, 0, 0), (17, .iconst 0, 1, 0, 0, 0, 0), (18, .ireturn, 1, 0, 0, 0, 0)]], [(0, 10, 2, 15, 4)], 1, 5)
def qc_L_widthOf : qCd := ([[(0, .aload 4, 2, 0, 0, 0, 0), (2, .iconst 0, 1, 0, 0, 0, 0), (3, .aload_n 0, 1, 0, 0, 0, 0), (4, .iload_n 1, 1, 0, 0, 0, 0), (5, .iload_n 2, 1, 0, 0, 0, 0), (6, .iload_n 3, 1, 0, 0, 0, 0), (7, .invokevirtual 53, 3, 109, 4, 100, 1397), (10, .i2l, 1, 0, 0, 0, 0), (11, .lastore, 1, 0, 0, 0, 0), (12, .goto 11, 3, 23, 0, 0, 0), (15, .astore 5, 2, 0, 0, 0, 0)],
  [(17, .iconst 1, 1, 0, 0, 0, 0), (18, .ireturn, 1, 0, 0, 0, 0), (19, .astore 5, 2, 0, 0, 0, 0), (21, .iconst 2, 1, 0, 0, 0, 0), (22, .ireturn, 1, 0, 0, 0, 0), (23, .iconst 0, 1, 0, 0, 0, 0), (24, .ireturn, 1, 0, 0, 0, 0)]], [(0, 12, 2, 17, 5), (0, 12, 1, 21, 5)], 1, 6)
def qc_L_lines : qCd := ([[(0, .aload_n 3, 1, 0, 0, 0, 0), (1, .iconst 0, 1, 0, 0, 0, 0), (2, .aload_n 0, 1, 0, 0, 0, 0), (3, .iload_n 1, 1, 0, 0, 0, 0), (4, .iload_n 2, 1, 0, 0, 0, 0), (5, .invokevirtual 56, 3, 110, 3, 100, 1409), (8, .i2l, 1, 0, 0, 0, 0), (9, .lastore, 1, 0, 0, 0, 0), (10, .goto 11, 3, 21, 0, 0, 0), (13, .astore 4, 2, 0, 0, 0, 0), (15, .iconst 1, 1, 0, 0, 0, 0)],
  [(16, .ireturn, 1, 0, 0, 0, 0), (17, .astore 4, 2, 0, 0, 0, 0), (19, .iconst 2, 1, 0, 0, 0, 0), (20, .ireturn, 1, 0, 0, 0, 0), (21, .iconst 0, 1, 0, 0, 0, 0), (22, .ireturn, 1, 0, 0, 0, 0)]], [(0, 10, 2, 15, 4), (0, 10, 1, 19, 4)], 1, 5)
def qc_L_wordsTo : qCd := ([[(0, .aload 4, 2, 0, 0, 0, 0), (2, .iconst 0, 1, 0, 0, 0, 0), (3, .aload_n 0, 1, 0, 0, 0, 0), (4, .iload_n 1, 1, 0, 0, 0, 0), (5, .iload_n 2, 1, 0, 0, 0, 0), (6, .iload_n 3, 1, 0, 0, 0, 0), (7, .invokevirtual 59, 3, 111, 4, 100, 1416), (10, .i2l, 1, 0, 0, 0, 0), (11, .lastore, 1, 0, 0, 0, 0), (12, .goto 11, 3, 23, 0, 0, 0), (15, .astore 5, 2, 0, 0, 0, 0)],
  [(17, .iconst 1, 1, 0, 0, 0, 0), (18, .ireturn, 1, 0, 0, 0, 0), (19, .astore 5, 2, 0, 0, 0, 0), (21, .iconst 2, 1, 0, 0, 0, 0), (22, .ireturn, 1, 0, 0, 0, 0), (23, .iconst 0, 1, 0, 0, 0, 0), (24, .ireturn, 1, 0, 0, 0, 0)]], [(0, 12, 2, 17, 5), (0, 12, 1, 21, 5)], 1, 6)
def qc_L_costOfLines : qCd := ([[(0, .aload_n 3, 1, 0, 0, 0, 0), (1, .iconst 0, 1, 0, 0, 0, 0), (2, .aload_n 0, 1, 0, 0, 0, 0), (3, .iload_n 1, 1, 0, 0, 0, 0), (4, .iload_n 2, 1, 0, 0, 0, 0), (5, .invokevirtual 62, 3, 112, 3, 100, 1424), (8, .i2l, 1, 0, 0, 0, 0), (9, .lastore, 1, 0, 0, 0, 0), (10, .goto 11, 3, 21, 0, 0, 0), (13, .astore 4, 2, 0, 0, 0, 0), (15, .iconst 1, 1, 0, 0, 0, 0)],
  [(16, .ireturn, 1, 0, 0, 0, 0), (17, .astore 4, 2, 0, 0, 0, 0), (19, .iconst 2, 1, 0, 0, 0, 0), (20, .ireturn, 1, 0, 0, 0, 0), (21, .iconst 0, 1, 0, 0, 0, 0), (22, .ireturn, 1, 0, 0, 0, 0)]], [(0, 10, 2, 15, 4), (0, 10, 1, 19, 4)], 1, 5)
def qc_L_rows : qCd := ([[(0, .aload_n 2, 1, 0, 0, 0, 0), (1, .iconst 0, 1, 0, 0, 0, 0), (2, .aload_n 0, 1, 0, 0, 0, 0), (3, .iload_n 1, 1, 0, 0, 0, 0), (4, .invokevirtual 65, 3, 113, 2, 100, 1431), (7, .i2l, 1, 0, 0, 0, 0), (8, .lastore, 1, 0, 0, 0, 0), (9, .goto 9, 3, 18, 0, 0, 0), (12, .astore_n 3, 1, 0, 0, 0, 0), (13, .iconst 1, 1, 0, 0, 0, 0), (14, .ireturn, 1, 0, 0, 0, 0), (15, .astore_n 3, 1, 0, 0, 0, 0)],
  [(16, .iconst 2, 1, 0, 0, 0, 0), (17, .ireturn, 1, 0, 0, 0, 0), (18, .iconst 0, 1, 0, 0, 0, 0), (19, .ireturn, 1, 0, 0, 0, 0)]], [(0, 9, 2, 13, 3), (0, 9, 1, 16, 3)], 1, 4)
def qc_L_broken : qCd := ([[(0, .aload_n 1, 1, 0, 0, 0, 0), (1, .iconst 0, 1, 0, 0, 0, 0), (2, .aload_n 0, 1, 0, 0, 0, 0), (3, .invokevirtual 68, 3, 114, 1, 100, 1438), (6, .i2l, 1, 0, 0, 0, 0), (7, .lastore, 1, 0, 0, 0, 0), (8, .goto 6, 3, 14, 0, 0, 0), (11, .astore_n 2, 1, 0, 0, 0, 0), (12, .iconst 1, 1, 0, 0, 0, 0), (13, .ireturn, 1, 0, 0, 0, 0), (14, .iconst 0, 1, 0, 0, 0, 0), (15, .ireturn, 1, 0, 0, 0, 0)]], [(0, 8, 1, 12, 2)], 1, 3)
def qc_L_pages : qCd := ([[(0, .aload_n 1, 1, 0, 0, 0, 0), (1, .iconst 0, 1, 0, 0, 0, 0), (2, .aload_n 0, 1, 0, 0, 0, 0), (3, .invokevirtual 71, 3, 115, 1, 100, 1445), (6, .i2l, 1, 0, 0, 0, 0), (7, .lastore, 1, 0, 0, 0, 0), (8, .goto 6, 3, 14, 0, 0, 0), (11, .astore_n 2, 1, 0, 0, 0, 0), (12, .iconst 1, 1, 0, 0, 0, 0), (13, .ireturn, 1, 0, 0, 0, 0), (14, .iconst 0, 1, 0, 0, 0, 0), (15, .ireturn, 1, 0, 0, 0, 0)]], [(0, 8, 1, 12, 2)], 1, 3)
def qc_L_kindOf : qCd := ([[(0, .aload_n 2, 1, 0, 0, 0, 0), (1, .iconst 0, 1, 0, 0, 0, 0), (2, .aload_n 0, 1, 0, 0, 0, 0), (3, .iload_n 1, 1, 0, 0, 0, 0), (4, .invokevirtual 74, 3, 116, 2, 100, 1452), (7, .i2l, 1, 0, 0, 0, 0), (8, .lastore, 1, 0, 0, 0, 0), (9, .goto 9, 3, 18, 0, 0, 0), (12, .astore_n 3, 1, 0, 0, 0, 0), (13, .iconst 1, 1, 0, 0, 0, 0), (14, .ireturn, 1, 0, 0, 0, 0), (15, .astore_n 3, 1, 0, 0, 0, 0)],
  [(16, .iconst 2, 1, 0, 0, 0, 0), (17, .ireturn, 1, 0, 0, 0, 0), (18, .iconst 0, 1, 0, 0, 0, 0), (19, .ireturn, 1, 0, 0, 0, 0)]], [(0, 9, 2, 13, 3), (0, 9, 1, 16, 3)], 1, 4)
def qc_L_pageOf : qCd := ([[(0, .aload_n 3, 1, 0, 0, 0, 0), (1, .iconst 0, 1, 0, 0, 0, 0), (2, .aload_n 0, 1, 0, 0, 0, 0), (3, .iload_n 1, 1, 0, 0, 0, 0), (4, .iload_n 2, 1, 0, 0, 0, 0), (5, .invokevirtual 77, 3, 117, 3, 100, 1468), (8, .i2l, 1, 0, 0, 0, 0), (9, .lastore, 1, 0, 0, 0, 0), (10, .goto 11, 3, 21, 0, 0, 0), (13, .astore 4, 2, 0, 0, 0, 0), (15, .iconst 1, 1, 0, 0, 0, 0)],
  [(16, .ireturn, 1, 0, 0, 0, 0), (17, .astore 4, 2, 0, 0, 0, 0), (19, .iconst 2, 1, 0, 0, 0, 0), (20, .ireturn, 1, 0, 0, 0, 0), (21, .iconst 0, 1, 0, 0, 0, 0), (22, .ireturn, 1, 0, 0, 0, 0)]], [(0, 10, 2, 15, 4), (0, 10, 1, 19, 4)], 1, 5)
def qc_L_pageOfRow : qCd := ([[(0, .aload_n 3, 1, 0, 0, 0, 0), (1, .iconst 0, 1, 0, 0, 0, 0), (2, .aload_n 0, 1, 0, 0, 0, 0), (3, .iload_n 1, 1, 0, 0, 0, 0), (4, .iload_n 2, 1, 0, 0, 0, 0), (5, .invokevirtual 81, 3, 118, 3, 100, 1475), (8, .i2l, 1, 0, 0, 0, 0), (9, .lastore, 1, 0, 0, 0, 0), (10, .goto 11, 3, 21, 0, 0, 0), (13, .astore 4, 2, 0, 0, 0, 0), (15, .iconst 1, 1, 0, 0, 0, 0)],
  [(16, .ireturn, 1, 0, 0, 0, 0), (17, .astore 4, 2, 0, 0, 0, 0), (19, .iconst 2, 1, 0, 0, 0, 0), (20, .ireturn, 1, 0, 0, 0, 0), (21, .iconst 0, 1, 0, 0, 0, 0), (22, .ireturn, 1, 0, 0, 0, 0)]], [(0, 10, 2, 15, 4), (0, 10, 1, 19, 4)], 1, 5)
def qc_L_onPage : qCd := ([[(0, .aload_n 3, 1, 0, 0, 0, 0), (1, .iconst 0, 1, 0, 0, 0, 0), (2, .aload_n 0, 1, 0, 0, 0, 0), (3, .iload_n 1, 1, 0, 0, 0, 0), (4, .iload_n 2, 1, 0, 0, 0, 0), (5, .invokevirtual 84, 3, 119, 3, 100, 1487), (8, .i2l, 1, 0, 0, 0, 0), (9, .lastore, 1, 0, 0, 0, 0), (10, .goto 15, 3, 25, 0, 0, 0), (13, .astore 4, 2, 0, 0, 0, 0), (15, .iconst 1, 1, 0, 0, 0, 0)],
  [(16, .ireturn, 1, 0, 0, 0, 0), (17, .astore 4, 2, 0, 0, 0, 0), (19, .iconst 2, 1, 0, 0, 0, 0), (20, .ireturn, 1, 0, 0, 0, 0), (21, .astore 4, 2, 0, 0, 0, 0), (23, .iconst 3, 1, 0, 0, 0, 0), (24, .ireturn, 1, 0, 0, 0, 0), (25, .iconst 0, 1, 0, 0, 0, 0), (26, .ireturn, 1, 0, 0, 0, 0)]], [(0, 10, 2, 15, 4), (0, 10, 0, 19, 4), (0, 10, 1, 23, 4)], 1, 5)
def qc_L_cost : qCd := ([[(0, .aload_n 2, 1, 0, 0, 0, 0), (1, .iconst 0, 1, 0, 0, 0, 0), (2, .aload_n 0, 1, 0, 0, 0, 0), (3, .iload_n 1, 1, 0, 0, 0, 0), (4, .invokevirtual 87, 3, 120, 2, 100, 1496), (7, .i2l, 1, 0, 0, 0, 0), (8, .lastore, 1, 0, 0, 0, 0), (9, .goto 9, 3, 18, 0, 0, 0), (12, .astore_n 3, 1, 0, 0, 0, 0), (13, .iconst 1, 1, 0, 0, 0, 0), (14, .ireturn, 1, 0, 0, 0, 0), (15, .astore_n 3, 1, 0, 0, 0, 0)],
  [(16, .iconst 2, 1, 0, 0, 0, 0), (17, .ireturn, 1, 0, 0, 0, 0), (18, .iconst 0, 1, 0, 0, 0, 0), (19, .ireturn, 1, 0, 0, 0, 0)]], [(0, 9, 2, 13, 3), (0, 9, 1, 16, 3)], 1, 4)
def qc_L_costByAll : qCd := ([[(0, .aload_n 2, 1, 0, 0, 0, 0), (1, .iconst 0, 1, 0, 0, 0, 0), (2, .aload_n 0, 1, 0, 0, 0, 0), (3, .iload_n 1, 1, 0, 0, 0, 0), (4, .invokevirtual 90, 3, 121, 2, 100, 1503), (7, .i2l, 1, 0, 0, 0, 0), (8, .lastore, 1, 0, 0, 0, 0), (9, .goto 9, 3, 18, 0, 0, 0), (12, .astore_n 3, 1, 0, 0, 0, 0), (13, .iconst 1, 1, 0, 0, 0, 0), (14, .ireturn, 1, 0, 0, 0, 0), (15, .astore_n 3, 1, 0, 0, 0, 0)],
  [(16, .iconst 2, 1, 0, 0, 0, 0), (17, .ireturn, 1, 0, 0, 0, 0), (18, .iconst 0, 1, 0, 0, 0, 0), (19, .ireturn, 1, 0, 0, 0, 0)]], [(0, 9, 2, 13, 3), (0, 9, 1, 16, 3)], 1, 4)
def qc_L_isSettled : qCd := ([[(0, .aload_n 1, 1, 0, 0, 0, 0), (1, .iconst 0, 1, 0, 0, 0, 0), (2, .aload_n 0, 1, 0, 0, 0, 0), (3, .invokevirtual 93, 3, 122, 1, 100, 1523), (6, .ifCond .eq 7, 3, 13, 0, 0, 0), (9, .lconst 1, 1, 0, 0, 0, 0), (10, .goto 4, 3, 14, 0, 0, 0), (13, .lconst 0, 1, 0, 0, 0, 0), (14, .lastore, 1, 0, 0, 0, 0), (15, .goto 6, 3, 21, 0, 0, 0)],
  [(18, .astore_n 2, 1, 0, 0, 0, 0), (19, .iconst 1, 1, 0, 0, 0, 0), (20, .ireturn, 1, 0, 0, 0, 0), (21, .iconst 0, 1, 0, 0, 0, 0), (22, .ireturn, 1, 0, 0, 0, 0)]], [(0, 15, 1, 19, 2)], 1, 3)
def qc_L_textOf : qCd := ([[(0, .aload 4, 2, 0, 0, 0, 0), (2, .iconst 0, 1, 0, 0, 0, 0), (3, .aload_n 0, 1, 0, 0, 0, 0), (4, .iload_n 1, 1, 0, 0, 0, 0), (5, .iload_n 2, 1, 0, 0, 0, 0), (6, .iload_n 3, 1, 0, 0, 0, 0), (7, .invokevirtual 97, 3, 123, 4, 100, 1530), (10, .i2l, 1, 0, 0, 0, 0), (11, .lastore, 1, 0, 0, 0, 0), (12, .goto 11, 3, 23, 0, 0, 0), (15, .astore 5, 2, 0, 0, 0, 0)],
  [(17, .iconst 1, 1, 0, 0, 0, 0), (18, .ireturn, 1, 0, 0, 0, 0), (19, .astore 5, 2, 0, 0, 0, 0), (21, .iconst 2, 1, 0, 0, 0, 0), (22, .ireturn, 1, 0, 0, 0, 0), (23, .iconst 0, 1, 0, 0, 0, 0), (24, .ireturn, 1, 0, 0, 0, 0)]], [(0, 12, 2, 17, 5), (0, 12, 1, 21, 5)], 1, 6)
def qc_L_noteOf : qCd := ([[(0, .aload 4, 2, 0, 0, 0, 0), (2, .iconst 0, 1, 0, 0, 0, 0), (3, .aload_n 0, 1, 0, 0, 0, 0), (4, .iload_n 1, 1, 0, 0, 0, 0), (5, .iload_n 2, 1, 0, 0, 0, 0), (6, .iload_n 3, 1, 0, 0, 0, 0), (7, .invokevirtual 100, 3, 124, 4, 100, 1538), (10, .i2l, 1, 0, 0, 0, 0), (11, .lastore, 1, 0, 0, 0, 0), (12, .goto 11, 3, 23, 0, 0, 0), (15, .astore 5, 2, 0, 0, 0, 0)],
  [(17, .iconst 1, 1, 0, 0, 0, 0), (18, .ireturn, 1, 0, 0, 0, 0), (19, .astore 5, 2, 0, 0, 0, 0), (21, .iconst 2, 1, 0, 0, 0, 0), (22, .ireturn, 1, 0, 0, 0, 0), (23, .iconst 0, 1, 0, 0, 0, 0), (24, .ireturn, 1, 0, 0, 0, 0)]], [(0, 12, 2, 17, 5), (0, 12, 1, 21, 5)], 1, 6)
def qc_L_headOf : qCd := ([[(0, .aload_n 3, 1, 0, 0, 0, 0), (1, .iconst 0, 1, 0, 0, 0, 0), (2, .aload_n 0, 1, 0, 0, 0, 0), (3, .iload_n 1, 1, 0, 0, 0, 0), (4, .iload_n 2, 1, 0, 0, 0, 0), (5, .invokevirtual 103, 3, 125, 3, 100, 1545), (8, .i2l, 1, 0, 0, 0, 0), (9, .lastore, 1, 0, 0, 0, 0), (10, .goto 11, 3, 21, 0, 0, 0), (13, .astore 4, 2, 0, 0, 0, 0), (15, .iconst 1, 1, 0, 0, 0, 0)],
  [(16, .ireturn, 1, 0, 0, 0, 0), (17, .astore 4, 2, 0, 0, 0, 0), (19, .iconst 2, 1, 0, 0, 0, 0), (20, .ireturn, 1, 0, 0, 0, 0), (21, .iconst 0, 1, 0, 0, 0, 0), (22, .ireturn, 1, 0, 0, 0, 0)]], [(0, 10, 2, 15, 4), (0, 10, 1, 19, 4)], 1, 5)
def qc_L_marginOf : qCd := ([[(0, .aload 4, 2, 0, 0, 0, 0), (2, .iconst 0, 1, 0, 0, 0, 0), (3, .aload_n 0, 1, 0, 0, 0, 0), (4, .iload_n 1, 1, 0, 0, 0, 0), (5, .iload_n 2, 1, 0, 0, 0, 0), (6, .iload_n 3, 1, 0, 0, 0, 0), (7, .invokevirtual 106, 3, 126, 4, 100, 1557), (10, .i2l, 1, 0, 0, 0, 0), (11, .lastore, 1, 0, 0, 0, 0), (12, .goto 11, 3, 23, 0, 0, 0), (15, .astore 5, 2, 0, 0, 0, 0)],
  [(17, .iconst 1, 1, 0, 0, 0, 0), (18, .ireturn, 1, 0, 0, 0, 0), (19, .astore 5, 2, 0, 0, 0, 0), (21, .iconst 2, 1, 0, 0, 0, 0), (22, .ireturn, 1, 0, 0, 0, 0), (23, .iconst 0, 1, 0, 0, 0, 0), (24, .ireturn, 1, 0, 0, 0, 0)]], [(0, 12, 2, 17, 5), (0, 12, 1, 21, 5)], 1, 6)
def qc_L_ranges : qCd := ([[(0, .aload_n 2, 1, 0, 0, 0, 0), (1, .iconst 0, 1, 0, 0, 0, 0), (2, .aload_n 0, 1, 0, 0, 0, 0), (3, .iload_n 1, 1, 0, 0, 0, 0), (4, .invokevirtual 109, 3, 127, 2, 100, 1564), (7, .i2l, 1, 0, 0, 0, 0), (8, .lastore, 1, 0, 0, 0, 0), (9, .goto 9, 3, 18, 0, 0, 0), (12, .astore_n 3, 1, 0, 0, 0, 0), (13, .iconst 1, 1, 0, 0, 0, 0), (14, .ireturn, 1, 0, 0, 0, 0), (15, .astore_n 3, 1, 0, 0, 0, 0)],
  [(16, .iconst 2, 1, 0, 0, 0, 0), (17, .ireturn, 1, 0, 0, 0, 0), (18, .iconst 0, 1, 0, 0, 0, 0), (19, .ireturn, 1, 0, 0, 0, 0)]], [(0, 9, 2, 13, 3), (0, 9, 1, 16, 3)], 1, 4)
def qc_L_range : qCd := ([[(0, .aload 4, 2, 0, 0, 0, 0), (2, .iconst 0, 1, 0, 0, 0, 0), (3, .aload_n 0, 1, 0, 0, 0, 0), (4, .iload_n 1, 1, 0, 0, 0, 0), (5, .iload_n 2, 1, 0, 0, 0, 0), (6, .iload_n 3, 1, 0, 0, 0, 0), (7, .invokevirtual 112, 3, 128, 4, 100, 1571), (10, .i2l, 1, 0, 0, 0, 0), (11, .lastore, 1, 0, 0, 0, 0), (12, .goto 15, 3, 27, 0, 0, 0), (15, .astore 5, 2, 0, 0, 0, 0)],
  [(17, .iconst 1, 1, 0, 0, 0, 0), (18, .ireturn, 1, 0, 0, 0, 0), (19, .astore 5, 2, 0, 0, 0, 0), (21, .iconst 2, 1, 0, 0, 0, 0), (22, .ireturn, 1, 0, 0, 0, 0), (23, .astore 5, 2, 0, 0, 0, 0), (25, .iconst 3, 1, 0, 0, 0, 0), (26, .ireturn, 1, 0, 0, 0, 0), (27, .iconst 0, 1, 0, 0, 0, 0), (28, .ireturn, 1, 0, 0, 0, 0)]], [(0, 12, 2, 17, 5), (0, 12, 0, 21, 5), (0, 12, 1, 25, 5)], 1, 6)
def qc_L_indexLines : qCd := ([[(0, .aload_n 1, 1, 0, 0, 0, 0), (1, .iconst 0, 1, 0, 0, 0, 0), (2, .aload_n 0, 1, 0, 0, 0, 0), (3, .invokevirtual 116, 3, 129, 1, 100, 1579), (6, .i2l, 1, 0, 0, 0, 0), (7, .lastore, 1, 0, 0, 0, 0), (8, .goto 6, 3, 14, 0, 0, 0), (11, .astore_n 2, 1, 0, 0, 0, 0), (12, .iconst 1, 1, 0, 0, 0, 0), (13, .ireturn, 1, 0, 0, 0, 0), (14, .iconst 0, 1, 0, 0, 0, 0), (15, .ireturn, 1, 0, 0, 0, 0)]], [(0, 8, 1, 12, 2)], 1, 3)
def qc_L_indexLine : qCd := ([[(0, .aload_n 2, 1, 0, 0, 0, 0), (1, .iconst 0, 1, 0, 0, 0, 0), (2, .aload_n 0, 1, 0, 0, 0, 0), (3, .iload_n 1, 1, 0, 0, 0, 0), (4, .invokevirtual 119, 3, 130, 2, 100, 1586), (7, .i2l, 1, 0, 0, 0, 0), (8, .lastore, 1, 0, 0, 0, 0), (9, .goto 9, 3, 18, 0, 0, 0), (12, .astore_n 3, 1, 0, 0, 0, 0), (13, .iconst 1, 1, 0, 0, 0, 0), (14, .ireturn, 1, 0, 0, 0, 0), (15, .astore_n 3, 1, 0, 0, 0, 0)],
  [(16, .iconst 2, 1, 0, 0, 0, 0), (17, .ireturn, 1, 0, 0, 0, 0), (18, .iconst 0, 1, 0, 0, 0, 0), (19, .ireturn, 1, 0, 0, 0, 0)]], [(0, 9, 0, 13, 3), (0, 9, 1, 16, 3)], 1, 4)
def qc_L_sheets : qCd := ([[(0, .aload_n 1, 1, 0, 0, 0, 0), (1, .iconst 0, 1, 0, 0, 0, 0), (2, .aload_n 0, 1, 0, 0, 0, 0), (3, .invokevirtual 122, 3, 131, 1, 100, 1602), (6, .i2l, 1, 0, 0, 0, 0), (7, .lastore, 1, 0, 0, 0, 0), (8, .goto 6, 3, 14, 0, 0, 0), (11, .astore_n 2, 1, 0, 0, 0, 0), (12, .iconst 1, 1, 0, 0, 0, 0), (13, .ireturn, 1, 0, 0, 0, 0), (14, .iconst 0, 1, 0, 0, 0, 0), (15, .ireturn, 1, 0, 0, 0, 0)]], [(0, 8, 1, 12, 2)], 1, 3)
def qc_L_untouched : qCd := ([[(0, .aload_n 1, 1, 0, 0, 0, 0), (1, .iconst 0, 1, 0, 0, 0, 0), (2, .aload_n 0, 1, 0, 0, 0, 0), (3, .invokevirtual 125, 3, 132, 1, 100, 1612), (6, .i2l, 1, 0, 0, 0, 0), (7, .lastore, 1, 0, 0, 0, 0), (8, .goto 6, 3, 14, 0, 0, 0), (11, .astore_n 2, 1, 0, 0, 0, 0), (12, .iconst 1, 1, 0, 0, 0, 0), (13, .ireturn, 1, 0, 0, 0, 0), (14, .iconst 0, 1, 0, 0, 0, 0), (15, .ireturn, 1, 0, 0, 0, 0)]], [(0, 8, 1, 12, 2)], 1, 3)
def ql_L_law_0 : List (List qI) := [[(0, .new 8, 3, 0, 10, 0, 32), (3, .dup, 1, 0, 0, 0, 0), (4, .invokespecial 128, 3, 94, 1, 104, 34), (7, .astore_n 1, 1, 0, 0, 0, 0), (8, .new 129, 3, 0, 11, 0, 1650), (11, .dup, 1, 0, 0, 0, 0), (12, .invokespecial 131, 3, 150, 1, 114, 1652), (15, .astore_n 2, 1, 0, 0, 0, 0)],
  [(16, .iconst 1, 1, 0, 0, 0, 0), (17, .newarray .long, 2, 0, 138, 0, 0), (19, .astore_n 3, 1, 0, 0, 0, 0), (20, .iconst 0, 1, 0, 0, 0, 0), (21, .istore 4, 2, 0, 0, 0, 0), (23, .iload 4, 2, 0, 0, 0, 0), (25, .aload_n 0, 1, 0, 0, 0, 0), (26, .arraylength, 1, 0, 0, 0, 0), (27, .iconst 4, 1, 0, 0, 0, 0), (28, .isub, 1, 0, 0, 0, 0), (29, .if_icmp .gt 2507, 3, 2536, 0, 0, 0)],
  [(32, .aload_n 0, 1, 0, 0, 0, 0), (33, .iload 4, 2, 0, 0, 0, 0), (35, .iaload, 1, 0, 0, 0, 0), (36, .bipush 63, 2, 0, 0, 0, 0), (38, .iand, 1, 0, 0, 0, 0), (39, .tableswitch 2491 0 37 #[165, 233, 274, 354, 410, 423, 479, 559, 627, 695, 767, 811, 824, 880, 948, 1028, 1096, 1176, 1244, 1300, 1344, 1388, 1444, 1528, 1596, 1664, 1720, 1776, 1827, 1907, 1987, 2071, 2151, 2207, 2303, 2347, 2403, 2447], 165, 0, 0, 0, 0)],
  [],
  [],
  [],
  [],
  [],
  [],
  [],
  [],
  [],
  [(204, .aload_n 1, 1, 0, 0, 0, 0), (205, .aload_n 0, 1, 0, 0, 0, 0), (206, .iload 4, 2, 0, 0, 0, 0)],
  [(208, .iconst 1, 1, 0, 0, 0, 0), (209, .iadd, 1, 0, 0, 0, 0), (210, .iaload, 1, 0, 0, 0, 0), (211, .aload_n 0, 1, 0, 0, 0, 0), (212, .iload 4, 2, 0, 0, 0, 0), (214, .iconst 2, 1, 0, 0, 0, 0), (215, .iadd, 1, 0, 0, 0, 0), (216, .iaload, 1, 0, 0, 0, 0), (217, .aload_n 3, 1, 0, 0, 0, 0), (218, .invokestatic 132, 3, 269, 4, 2, 584), (221, .istore 5, 2, 0, 0, 0, 0), (223, .aload_n 2, 1, 0, 0, 0, 0)],
  [(224, .aload_n 0, 1, 0, 0, 0, 0), (225, .iload 4, 2, 0, 0, 0, 0), (227, .iconst 1, 1, 0, 0, 0, 0), (228, .iadd, 1, 0, 0, 0, 0), (229, .iaload, 1, 0, 0, 0, 0), (230, .aload_n 0, 1, 0, 0, 0, 0), (231, .iload 4, 2, 0, 0, 0, 0), (233, .iconst 2, 1, 0, 0, 0, 0), (234, .iadd, 1, 0, 0, 0, 0), (235, .iaload, 1, 0, 0, 0, 0), (236, .invokevirtual 137, 3, 159, 3, 110, 1966), (239, .istore 6, 2, 0, 0, 0, 0)],
  [(241, .aload_n 2, 1, 0, 0, 0, 0), (242, .invokevirtual 138, 3, 151, 1, 110, 1962), (245, .iload 5, 2, 0, 0, 0, 0), (247, .if_icmp .eq 5, 3, 252, 0, 0, 0), (250, .iconst 0, 1, 0, 0, 0, 0), (251, .ireturn, 1, 0, 0, 0, 0), (252, .iload 5, 2, 0, 0, 0, 0), (254, .ifCond .ne 15, 3, 269, 0, 0, 0)],
  [(257, .aload_n 3, 1, 0, 0, 0, 0), (258, .iconst 0, 1, 0, 0, 0, 0), (259, .laload, 1, 0, 0, 0, 0), (260, .iload 6, 2, 0, 0, 0, 0), (262, .i2l, 1, 0, 0, 0, 0), (263, .lcmp, 1, 0, 0, 0, 0), (264, .ifCond .eq 5, 3, 269, 0, 0, 0), (267, .iconst 0, 1, 0, 0, 0, 0), (268, .ireturn, 1, 0, 0, 0, 0), (269, .goto 2261, 3, 2530, 0, 0, 0)],
  [(272, .aload_n 1, 1, 0, 0, 0, 0), (273, .aload_n 0, 1, 0, 0, 0, 0), (274, .iload 4, 2, 0, 0, 0, 0), (276, .iconst 1, 1, 0, 0, 0, 0), (277, .iadd, 1, 0, 0, 0, 0), (278, .iaload, 1, 0, 0, 0, 0), (279, .ifCond .eq 7, 3, 286, 0, 0, 0), (282, .iconst 1, 1, 0, 0, 0, 0), (283, .goto 4, 3, 287, 0, 0, 0), (286, .iconst 0, 1, 0, 0, 0, 0), (287, .invokevirtual 141, 3, 96, 2, 100, 572)],
  [(290, .aload_n 2, 1, 0, 0, 0, 0), (291, .aload_n 0, 1, 0, 0, 0, 0), (292, .iload 4, 2, 0, 0, 0, 0), (294, .iconst 1, 1, 0, 0, 0, 0), (295, .iadd, 1, 0, 0, 0, 0), (296, .iaload, 1, 0, 0, 0, 0), (297, .ifCond .eq 7, 3, 304, 0, 0, 0), (300, .iconst 1, 1, 0, 0, 0, 0), (301, .goto 4, 3, 305, 0, 0, 0)],
  [(304, .iconst 0, 1, 0, 0, 0, 0), (305, .invokevirtual 145, 3, 160, 2, 110, 1973), (308, .if_icmp .eq 2222, 3, 2530, 0, 0, 0), (311, .iconst 0, 1, 0, 0, 0, 0), (312, .ireturn, 1, 0, 0, 0, 0), (313, .aload_n 1, 1, 0, 0, 0, 0), (314, .aload_n 0, 1, 0, 0, 0, 0), (315, .iload 4, 2, 0, 0, 0, 0), (317, .iconst 1, 1, 0, 0, 0, 0), (318, .iadd, 1, 0, 0, 0, 0), (319, .iaload, 1, 0, 0, 0, 0)]]
def ql_L_law_1 : List (List qI) := [[(320, .aload_n 0, 1, 0, 0, 0, 0), (321, .iload 4, 2, 0, 0, 0, 0), (323, .iconst 2, 1, 0, 0, 0, 0), (324, .iadd, 1, 0, 0, 0, 0), (325, .iaload, 1, 0, 0, 0, 0), (326, .aload_n 0, 1, 0, 0, 0, 0), (327, .iload 4, 2, 0, 0, 0, 0), (329, .iconst 3, 1, 0, 0, 0, 0), (330, .iadd, 1, 0, 0, 0, 0), (331, .iaload, 1, 0, 0, 0, 0), (332, .aload_n 3, 1, 0, 0, 0, 0), (333, .invokestatic 146, 3, 270, 5, 2, 661)],
  [(336, .istore 5, 2, 0, 0, 0, 0), (338, .aload_n 2, 1, 0, 0, 0, 0), (339, .aload_n 0, 1, 0, 0, 0, 0), (340, .iload 4, 2, 0, 0, 0, 0), (342, .iconst 1, 1, 0, 0, 0, 0), (343, .iadd, 1, 0, 0, 0, 0), (344, .iaload, 1, 0, 0, 0, 0), (345, .aload_n 0, 1, 0, 0, 0, 0), (346, .iload 4, 2, 0, 0, 0, 0), (348, .iconst 2, 1, 0, 0, 0, 0), (349, .iadd, 1, 0, 0, 0, 0), (350, .iaload, 1, 0, 0, 0, 0), (351, .aload_n 0, 1, 0, 0, 0, 0)],
  [(352, .iload 4, 2, 0, 0, 0, 0), (354, .iconst 3, 1, 0, 0, 0, 0), (355, .iadd, 1, 0, 0, 0, 0), (356, .iaload, 1, 0, 0, 0, 0), (357, .invokevirtual 149, 3, 163, 4, 110, 1977), (360, .istore 6, 2, 0, 0, 0, 0), (362, .aload_n 2, 1, 0, 0, 0, 0), (363, .invokevirtual 138, 3, 151, 1, 110, 1962), (366, .iload 5, 2, 0, 0, 0, 0)],
  [(368, .if_icmp .eq 5, 3, 373, 0, 0, 0), (371, .iconst 0, 1, 0, 0, 0, 0), (372, .ireturn, 1, 0, 0, 0, 0), (373, .iload 5, 2, 0, 0, 0, 0), (375, .ifCond .ne 15, 3, 390, 0, 0, 0), (378, .aload_n 3, 1, 0, 0, 0, 0), (379, .iconst 0, 1, 0, 0, 0, 0), (380, .laload, 1, 0, 0, 0, 0), (381, .iload 6, 2, 0, 0, 0, 0), (383, .i2l, 1, 0, 0, 0, 0)],
  [(384, .lcmp, 1, 0, 0, 0, 0), (385, .ifCond .eq 5, 3, 390, 0, 0, 0), (388, .iconst 0, 1, 0, 0, 0, 0), (389, .ireturn, 1, 0, 0, 0, 0), (390, .goto 2140, 3, 2530, 0, 0, 0), (393, .aload_n 1, 1, 0, 0, 0, 0), (394, .aload_n 0, 1, 0, 0, 0, 0), (395, .iload 4, 2, 0, 0, 0, 0), (397, .iconst 1, 1, 0, 0, 0, 0), (398, .iadd, 1, 0, 0, 0, 0), (399, .iaload, 1, 0, 0, 0, 0)],
  [(400, .aload_n 3, 1, 0, 0, 0, 0), (401, .invokestatic 150, 3, 271, 3, 2, 700), (404, .istore 5, 2, 0, 0, 0, 0), (406, .aload_n 2, 1, 0, 0, 0, 0), (407, .aload_n 0, 1, 0, 0, 0, 0), (408, .iload 4, 2, 0, 0, 0, 0), (410, .iconst 1, 1, 0, 0, 0, 0), (411, .iadd, 1, 0, 0, 0, 0), (412, .iaload, 1, 0, 0, 0, 0), (413, .invokevirtual 153, 3, 164, 2, 110, 1988)],
  [(416, .istore 6, 2, 0, 0, 0, 0), (418, .aload_n 2, 1, 0, 0, 0, 0), (419, .invokevirtual 138, 3, 151, 1, 110, 1962), (422, .iload 5, 2, 0, 0, 0, 0), (424, .if_icmp .eq 5, 3, 429, 0, 0, 0), (427, .iconst 0, 1, 0, 0, 0, 0), (428, .ireturn, 1, 0, 0, 0, 0), (429, .iload 5, 2, 0, 0, 0, 0), (431, .ifCond .ne 15, 3, 446, 0, 0, 0)],
  [(434, .aload_n 3, 1, 0, 0, 0, 0), (435, .iconst 0, 1, 0, 0, 0, 0), (436, .laload, 1, 0, 0, 0, 0), (437, .iload 6, 2, 0, 0, 0, 0), (439, .i2l, 1, 0, 0, 0, 0), (440, .lcmp, 1, 0, 0, 0, 0), (441, .ifCond .eq 5, 3, 446, 0, 0, 0), (444, .iconst 0, 1, 0, 0, 0, 0), (445, .ireturn, 1, 0, 0, 0, 0), (446, .goto 2084, 3, 2530, 0, 0, 0)],
  [(449, .aload_n 1, 1, 0, 0, 0, 0), (450, .invokevirtual 154, 3, 99, 1, 100, 576), (453, .aload_n 2, 1, 0, 0, 0, 0), (454, .invokevirtual 157, 3, 165, 1, 110, 1992), (457, .if_icmp .eq 2073, 3, 2530, 0, 0, 0), (460, .iconst 0, 1, 0, 0, 0, 0), (461, .ireturn, 1, 0, 0, 0, 0), (462, .aload_n 1, 1, 0, 0, 0, 0), (463, .aload_n 0, 1, 0, 0, 0, 0)],
  [(464, .iload 4, 2, 0, 0, 0, 0), (466, .iconst 1, 1, 0, 0, 0, 0), (467, .iadd, 1, 0, 0, 0, 0), (468, .iaload, 1, 0, 0, 0, 0), (469, .aload_n 3, 1, 0, 0, 0, 0), (470, .invokestatic 158, 3, 272, 3, 2, 708), (473, .istore 5, 2, 0, 0, 0, 0), (475, .aload_n 2, 1, 0, 0, 0, 0), (476, .aload_n 0, 1, 0, 0, 0, 0), (477, .iload 4, 2, 0, 0, 0, 0), (479, .iconst 1, 1, 0, 0, 0, 0)],
  [(480, .iadd, 1, 0, 0, 0, 0), (481, .iaload, 1, 0, 0, 0, 0), (482, .invokevirtual 160, 3, 171, 2, 110, 1996), (485, .istore 6, 2, 0, 0, 0, 0), (487, .aload_n 2, 1, 0, 0, 0, 0), (488, .invokevirtual 138, 3, 151, 1, 110, 1962), (491, .iload 5, 2, 0, 0, 0, 0), (493, .if_icmp .eq 5, 3, 498, 0, 0, 0)],
  [(496, .iconst 0, 1, 0, 0, 0, 0), (497, .ireturn, 1, 0, 0, 0, 0), (498, .iload 5, 2, 0, 0, 0, 0), (500, .ifCond .ne 15, 3, 515, 0, 0, 0), (503, .aload_n 3, 1, 0, 0, 0, 0), (504, .iconst 0, 1, 0, 0, 0, 0), (505, .laload, 1, 0, 0, 0, 0), (506, .iload 6, 2, 0, 0, 0, 0), (508, .i2l, 1, 0, 0, 0, 0), (509, .lcmp, 1, 0, 0, 0, 0), (510, .ifCond .eq 5, 3, 515, 0, 0, 0)],
  [(513, .iconst 0, 1, 0, 0, 0, 0), (514, .ireturn, 1, 0, 0, 0, 0), (515, .goto 2015, 3, 2530, 0, 0, 0), (518, .aload_n 1, 1, 0, 0, 0, 0), (519, .aload_n 0, 1, 0, 0, 0, 0), (520, .iload 4, 2, 0, 0, 0, 0), (522, .iconst 1, 1, 0, 0, 0, 0), (523, .iadd, 1, 0, 0, 0, 0), (524, .iaload, 1, 0, 0, 0, 0), (525, .aload_n 0, 1, 0, 0, 0, 0), (526, .iload 4, 2, 0, 0, 0, 0)],
  [(528, .iconst 2, 1, 0, 0, 0, 0), (529, .iadd, 1, 0, 0, 0, 0), (530, .iaload, 1, 0, 0, 0, 0), (531, .aload_n 0, 1, 0, 0, 0, 0), (532, .iload 4, 2, 0, 0, 0, 0), (534, .iconst 3, 1, 0, 0, 0, 0), (535, .iadd, 1, 0, 0, 0, 0), (536, .iaload, 1, 0, 0, 0, 0), (537, .aload_n 3, 1, 0, 0, 0, 0), (538, .invokestatic 161, 3, 273, 5, 2, 776), (541, .istore 5, 2, 0, 0, 0, 0), (543, .aload_n 2, 1, 0, 0, 0, 0)],
  [(544, .aload_n 0, 1, 0, 0, 0, 0), (545, .iload 4, 2, 0, 0, 0, 0), (547, .iconst 1, 1, 0, 0, 0, 0), (548, .iadd, 1, 0, 0, 0, 0), (549, .iaload, 1, 0, 0, 0, 0), (550, .aload_n 0, 1, 0, 0, 0, 0), (551, .iload 4, 2, 0, 0, 0, 0), (553, .iconst 2, 1, 0, 0, 0, 0), (554, .iadd, 1, 0, 0, 0, 0), (555, .iaload, 1, 0, 0, 0, 0), (556, .aload_n 0, 1, 0, 0, 0, 0), (557, .iload 4, 2, 0, 0, 0, 0), (559, .iconst 3, 1, 0, 0, 0, 0)],
  [(560, .iadd, 1, 0, 0, 0, 0), (561, .iaload, 1, 0, 0, 0, 0), (562, .invokevirtual 163, 3, 172, 4, 110, 2026), (565, .istore 6, 2, 0, 0, 0, 0), (567, .aload_n 2, 1, 0, 0, 0, 0), (568, .invokevirtual 138, 3, 151, 1, 110, 1962), (571, .iload 5, 2, 0, 0, 0, 0), (573, .if_icmp .eq 5, 3, 578, 0, 0, 0)],
  [(576, .iconst 0, 1, 0, 0, 0, 0), (577, .ireturn, 1, 0, 0, 0, 0), (578, .iload 5, 2, 0, 0, 0, 0), (580, .ifCond .ne 15, 3, 595, 0, 0, 0), (583, .aload_n 3, 1, 0, 0, 0, 0), (584, .iconst 0, 1, 0, 0, 0, 0), (585, .laload, 1, 0, 0, 0, 0), (586, .iload 6, 2, 0, 0, 0, 0), (588, .i2l, 1, 0, 0, 0, 0), (589, .lcmp, 1, 0, 0, 0, 0), (590, .ifCond .eq 5, 3, 595, 0, 0, 0)],
  [(593, .iconst 0, 1, 0, 0, 0, 0), (594, .ireturn, 1, 0, 0, 0, 0), (595, .goto 1935, 3, 2530, 0, 0, 0), (598, .aload_n 1, 1, 0, 0, 0, 0), (599, .aload_n 0, 1, 0, 0, 0, 0), (600, .iload 4, 2, 0, 0, 0, 0), (602, .iconst 1, 1, 0, 0, 0, 0), (603, .iadd, 1, 0, 0, 0, 0), (604, .iaload, 1, 0, 0, 0, 0), (605, .aload_n 0, 1, 0, 0, 0, 0), (606, .iload 4, 2, 0, 0, 0, 0)],
  [(608, .iconst 2, 1, 0, 0, 0, 0), (609, .iadd, 1, 0, 0, 0, 0), (610, .iaload, 1, 0, 0, 0, 0), (611, .aload_n 3, 1, 0, 0, 0, 0), (612, .invokestatic 164, 3, 274, 4, 2, 789), (615, .istore 5, 2, 0, 0, 0, 0), (617, .aload_n 2, 1, 0, 0, 0, 0), (618, .aload_n 0, 1, 0, 0, 0, 0), (619, .iload 4, 2, 0, 0, 0, 0), (621, .iconst 1, 1, 0, 0, 0, 0), (622, .iadd, 1, 0, 0, 0, 0), (623, .iaload, 1, 0, 0, 0, 0)],
  [(624, .aload_n 0, 1, 0, 0, 0, 0), (625, .iload 4, 2, 0, 0, 0, 0), (627, .iconst 2, 1, 0, 0, 0, 0), (628, .iadd, 1, 0, 0, 0, 0), (629, .iaload, 1, 0, 0, 0, 0), (630, .invokevirtual 166, 3, 173, 3, 110, 2030), (633, .istore 6, 2, 0, 0, 0, 0), (635, .aload_n 2, 1, 0, 0, 0, 0), (636, .invokevirtual 138, 3, 151, 1, 110, 1962), (639, .iload 5, 2, 0, 0, 0, 0)]]
def ql_L_law_2 : List (List qI) := [[(641, .if_icmp .eq 5, 3, 646, 0, 0, 0), (644, .iconst 0, 1, 0, 0, 0, 0), (645, .ireturn, 1, 0, 0, 0, 0), (646, .iload 5, 2, 0, 0, 0, 0), (648, .ifCond .ne 15, 3, 663, 0, 0, 0), (651, .aload_n 3, 1, 0, 0, 0, 0), (652, .iconst 0, 1, 0, 0, 0, 0), (653, .laload, 1, 0, 0, 0, 0), (654, .iload 6, 2, 0, 0, 0, 0)],
  [(656, .i2l, 1, 0, 0, 0, 0), (657, .lcmp, 1, 0, 0, 0, 0), (658, .ifCond .eq 5, 3, 663, 0, 0, 0), (661, .iconst 0, 1, 0, 0, 0, 0), (662, .ireturn, 1, 0, 0, 0, 0), (663, .goto 1867, 3, 2530, 0, 0, 0), (666, .aload_n 1, 1, 0, 0, 0, 0), (667, .aload_n 0, 1, 0, 0, 0, 0), (668, .iload 4, 2, 0, 0, 0, 0), (670, .iconst 1, 1, 0, 0, 0, 0), (671, .iadd, 1, 0, 0, 0, 0)],
  [(672, .iaload, 1, 0, 0, 0, 0), (673, .aload_n 0, 1, 0, 0, 0, 0), (674, .iload 4, 2, 0, 0, 0, 0), (676, .iconst 2, 1, 0, 0, 0, 0), (677, .iadd, 1, 0, 0, 0, 0), (678, .iaload, 1, 0, 0, 0, 0), (679, .aload_n 3, 1, 0, 0, 0, 0), (680, .invokestatic 167, 3, 275, 4, 2, 802), (683, .istore 5, 2, 0, 0, 0, 0), (685, .aload_n 2, 1, 0, 0, 0, 0), (686, .aload_n 0, 1, 0, 0, 0, 0), (687, .iload 4, 2, 0, 0, 0, 0)],
  [(689, .iconst 1, 1, 0, 0, 0, 0), (690, .iadd, 1, 0, 0, 0, 0), (691, .iaload, 1, 0, 0, 0, 0), (692, .aload_n 0, 1, 0, 0, 0, 0), (693, .iload 4, 2, 0, 0, 0, 0), (695, .iconst 2, 1, 0, 0, 0, 0), (696, .iadd, 1, 0, 0, 0, 0), (697, .iaload, 1, 0, 0, 0, 0), (698, .invokevirtual 169, 3, 174, 3, 110, 2038), (701, .istore 6, 2, 0, 0, 0, 0), (703, .aload_n 2, 1, 0, 0, 0, 0)],
  [(704, .invokevirtual 138, 3, 151, 1, 110, 1962), (707, .iload 5, 2, 0, 0, 0, 0), (709, .if_icmp .eq 5, 3, 714, 0, 0, 0), (712, .iconst 0, 1, 0, 0, 0, 0), (713, .ireturn, 1, 0, 0, 0, 0), (714, .iload 5, 2, 0, 0, 0, 0), (716, .ifCond .ne 15, 3, 731, 0, 0, 0), (719, .aload_n 3, 1, 0, 0, 0, 0)],
  [(720, .iconst 0, 1, 0, 0, 0, 0), (721, .laload, 1, 0, 0, 0, 0), (722, .iload 6, 2, 0, 0, 0, 0), (724, .i2l, 1, 0, 0, 0, 0), (725, .lcmp, 1, 0, 0, 0, 0), (726, .ifCond .eq 5, 3, 731, 0, 0, 0), (729, .iconst 0, 1, 0, 0, 0, 0), (730, .ireturn, 1, 0, 0, 0, 0), (731, .goto 1799, 3, 2530, 0, 0, 0), (734, .aload_n 1, 1, 0, 0, 0, 0), (735, .aload_n 0, 1, 0, 0, 0, 0)],
  [(736, .iload 4, 2, 0, 0, 0, 0), (738, .iconst 1, 1, 0, 0, 0, 0), (739, .iadd, 1, 0, 0, 0, 0), (740, .iaload, 1, 0, 0, 0, 0), (741, .ifCond .eq 7, 3, 748, 0, 0, 0), (744, .iconst 1, 1, 0, 0, 0, 0), (745, .goto 4, 3, 749, 0, 0, 0), (748, .iconst 0, 1, 0, 0, 0, 0), (749, .aload_n 3, 1, 0, 0, 0, 0), (750, .invokestatic 170, 3, 276, 3, 2, 815)],
  [(753, .istore 5, 2, 0, 0, 0, 0), (755, .aload_n 2, 1, 0, 0, 0, 0), (756, .aload_n 0, 1, 0, 0, 0, 0), (757, .iload 4, 2, 0, 0, 0, 0), (759, .iconst 1, 1, 0, 0, 0, 0), (760, .iadd, 1, 0, 0, 0, 0), (761, .iaload, 1, 0, 0, 0, 0), (762, .ifCond .eq 7, 3, 769, 0, 0, 0), (765, .iconst 1, 1, 0, 0, 0, 0), (766, .goto 4, 3, 770, 0, 0, 0)],
  [(769, .iconst 0, 1, 0, 0, 0, 0), (770, .invokevirtual 173, 3, 216, 2, 110, 2042), (773, .istore 6, 2, 0, 0, 0, 0), (775, .aload_n 2, 1, 0, 0, 0, 0), (776, .invokevirtual 138, 3, 151, 1, 110, 1962), (779, .iload 5, 2, 0, 0, 0, 0), (781, .if_icmp .eq 5, 3, 786, 0, 0, 0)],
  [(784, .iconst 0, 1, 0, 0, 0, 0), (785, .ireturn, 1, 0, 0, 0, 0), (786, .iload 5, 2, 0, 0, 0, 0), (788, .ifCond .ne 15, 3, 803, 0, 0, 0), (791, .aload_n 3, 1, 0, 0, 0, 0), (792, .iconst 0, 1, 0, 0, 0, 0), (793, .laload, 1, 0, 0, 0, 0), (794, .iload 6, 2, 0, 0, 0, 0), (796, .i2l, 1, 0, 0, 0, 0), (797, .lcmp, 1, 0, 0, 0, 0), (798, .ifCond .eq 5, 3, 803, 0, 0, 0)],
  [(801, .iconst 0, 1, 0, 0, 0, 0), (802, .ireturn, 1, 0, 0, 0, 0), (803, .goto 1727, 3, 2530, 0, 0, 0), (806, .aload_n 1, 1, 0, 0, 0, 0), (807, .aload_n 3, 1, 0, 0, 0, 0), (808, .invokestatic 174, 3, 277, 2, 2, 1368), (811, .istore 5, 2, 0, 0, 0, 0), (813, .aload_n 2, 1, 0, 0, 0, 0), (814, .invokevirtual 177, 3, 217, 1, 110, 2226)],
  [(817, .istore 6, 2, 0, 0, 0, 0), (819, .aload_n 2, 1, 0, 0, 0, 0), (820, .invokevirtual 138, 3, 151, 1, 110, 1962), (823, .iload 5, 2, 0, 0, 0, 0), (825, .if_icmp .eq 5, 3, 830, 0, 0, 0), (828, .iconst 0, 1, 0, 0, 0, 0), (829, .ireturn, 1, 0, 0, 0, 0), (830, .iload 5, 2, 0, 0, 0, 0)],
  [(832, .ifCond .ne 15, 3, 847, 0, 0, 0), (835, .aload_n 3, 1, 0, 0, 0, 0), (836, .iconst 0, 1, 0, 0, 0, 0), (837, .laload, 1, 0, 0, 0, 0), (838, .iload 6, 2, 0, 0, 0, 0), (840, .i2l, 1, 0, 0, 0, 0), (841, .lcmp, 1, 0, 0, 0, 0), (842, .ifCond .eq 5, 3, 847, 0, 0, 0), (845, .iconst 0, 1, 0, 0, 0, 0), (846, .ireturn, 1, 0, 0, 0, 0), (847, .goto 1683, 3, 2530, 0, 0, 0)],
  [(850, .aload_n 1, 1, 0, 0, 0, 0), (851, .invokevirtual 178, 3, 106, 1, 100, 580), (854, .aload_n 2, 1, 0, 0, 0, 0), (855, .invokevirtual 181, 3, 221, 1, 110, 2242), (858, .if_icmp .eq 1672, 3, 2530, 0, 0, 0), (861, .iconst 0, 1, 0, 0, 0, 0), (862, .ireturn, 1, 0, 0, 0, 0), (863, .aload_n 1, 1, 0, 0, 0, 0)],
  [(864, .aload_n 0, 1, 0, 0, 0, 0), (865, .iload 4, 2, 0, 0, 0, 0), (867, .iconst 1, 1, 0, 0, 0, 0), (868, .iadd, 1, 0, 0, 0, 0), (869, .iaload, 1, 0, 0, 0, 0), (870, .aload_n 3, 1, 0, 0, 0, 0), (871, .invokestatic 182, 3, 278, 3, 2, 1380), (874, .istore 5, 2, 0, 0, 0, 0), (876, .aload_n 2, 1, 0, 0, 0, 0), (877, .aload_n 0, 1, 0, 0, 0, 0), (878, .iload 4, 2, 0, 0, 0, 0)],
  [(880, .iconst 1, 1, 0, 0, 0, 0), (881, .iadd, 1, 0, 0, 0, 0), (882, .iaload, 1, 0, 0, 0, 0), (883, .invokevirtual 184, 3, 222, 2, 110, 2246), (886, .istore 6, 2, 0, 0, 0, 0), (888, .aload_n 2, 1, 0, 0, 0, 0), (889, .invokevirtual 138, 3, 151, 1, 110, 1962), (892, .iload 5, 2, 0, 0, 0, 0), (894, .if_icmp .eq 5, 3, 899, 0, 0, 0)],
  [(897, .iconst 0, 1, 0, 0, 0, 0), (898, .ireturn, 1, 0, 0, 0, 0), (899, .iload 5, 2, 0, 0, 0, 0), (901, .ifCond .ne 15, 3, 916, 0, 0, 0), (904, .aload_n 3, 1, 0, 0, 0, 0), (905, .iconst 0, 1, 0, 0, 0, 0), (906, .laload, 1, 0, 0, 0, 0), (907, .iload 6, 2, 0, 0, 0, 0), (909, .i2l, 1, 0, 0, 0, 0), (910, .lcmp, 1, 0, 0, 0, 0), (911, .ifCond .eq 5, 3, 916, 0, 0, 0)],
  [(914, .iconst 0, 1, 0, 0, 0, 0), (915, .ireturn, 1, 0, 0, 0, 0), (916, .goto 1614, 3, 2530, 0, 0, 0), (919, .aload_n 1, 1, 0, 0, 0, 0), (920, .aload_n 0, 1, 0, 0, 0, 0), (921, .iload 4, 2, 0, 0, 0, 0), (923, .iconst 1, 1, 0, 0, 0, 0), (924, .iadd, 1, 0, 0, 0, 0), (925, .iaload, 1, 0, 0, 0, 0), (926, .aload_n 0, 1, 0, 0, 0, 0), (927, .iload 4, 2, 0, 0, 0, 0)],
  [(929, .iconst 2, 1, 0, 0, 0, 0), (930, .iadd, 1, 0, 0, 0, 0), (931, .iaload, 1, 0, 0, 0, 0), (932, .aload_n 3, 1, 0, 0, 0, 0), (933, .invokestatic 185, 3, 279, 4, 2, 1387), (936, .istore 5, 2, 0, 0, 0, 0), (938, .aload_n 2, 1, 0, 0, 0, 0), (939, .aload_n 0, 1, 0, 0, 0, 0), (940, .iload 4, 2, 0, 0, 0, 0), (942, .iconst 1, 1, 0, 0, 0, 0), (943, .iadd, 1, 0, 0, 0, 0)],
  [(944, .iaload, 1, 0, 0, 0, 0), (945, .aload_n 0, 1, 0, 0, 0, 0), (946, .iload 4, 2, 0, 0, 0, 0), (948, .iconst 2, 1, 0, 0, 0, 0), (949, .iadd, 1, 0, 0, 0, 0), (950, .iaload, 1, 0, 0, 0, 0), (951, .invokevirtual 187, 3, 223, 3, 110, 2250), (954, .istore 6, 2, 0, 0, 0, 0), (956, .aload_n 2, 1, 0, 0, 0, 0), (957, .invokevirtual 138, 3, 151, 1, 110, 1962)]]
def ql_L_law_3 : List (List qI) := [[(960, .iload 5, 2, 0, 0, 0, 0), (962, .if_icmp .eq 5, 3, 967, 0, 0, 0), (965, .iconst 0, 1, 0, 0, 0, 0), (966, .ireturn, 1, 0, 0, 0, 0), (967, .iload 5, 2, 0, 0, 0, 0), (969, .ifCond .ne 15, 3, 984, 0, 0, 0), (972, .aload_n 3, 1, 0, 0, 0, 0), (973, .iconst 0, 1, 0, 0, 0, 0), (974, .laload, 1, 0, 0, 0, 0), (975, .iload 6, 2, 0, 0, 0, 0)],
  [(977, .i2l, 1, 0, 0, 0, 0), (978, .lcmp, 1, 0, 0, 0, 0), (979, .ifCond .eq 5, 3, 984, 0, 0, 0), (982, .iconst 0, 1, 0, 0, 0, 0), (983, .ireturn, 1, 0, 0, 0, 0), (984, .goto 1546, 3, 2530, 0, 0, 0), (987, .aload_n 1, 1, 0, 0, 0, 0), (988, .aload_n 0, 1, 0, 0, 0, 0), (989, .iload 4, 2, 0, 0, 0, 0), (991, .iconst 1, 1, 0, 0, 0, 0)],
  [(992, .iadd, 1, 0, 0, 0, 0), (993, .iaload, 1, 0, 0, 0, 0), (994, .aload_n 0, 1, 0, 0, 0, 0), (995, .iload 4, 2, 0, 0, 0, 0), (997, .iconst 2, 1, 0, 0, 0, 0), (998, .iadd, 1, 0, 0, 0, 0), (999, .iaload, 1, 0, 0, 0, 0), (1000, .aload_n 0, 1, 0, 0, 0, 0), (1001, .iload 4, 2, 0, 0, 0, 0), (1003, .iconst 3, 1, 0, 0, 0, 0), (1004, .iadd, 1, 0, 0, 0, 0), (1005, .iaload, 1, 0, 0, 0, 0), (1006, .aload_n 3, 1, 0, 0, 0, 0), (1007, .invokestatic 188, 3, 280, 5, 2, 1394)],
  [(1010, .istore 5, 2, 0, 0, 0, 0), (1012, .aload_n 2, 1, 0, 0, 0, 0), (1013, .aload_n 0, 1, 0, 0, 0, 0), (1014, .iload 4, 2, 0, 0, 0, 0), (1016, .iconst 1, 1, 0, 0, 0, 0), (1017, .iadd, 1, 0, 0, 0, 0), (1018, .iaload, 1, 0, 0, 0, 0), (1019, .aload_n 0, 1, 0, 0, 0, 0), (1020, .iload 4, 2, 0, 0, 0, 0), (1022, .iconst 2, 1, 0, 0, 0, 0), (1023, .iadd, 1, 0, 0, 0, 0)],
  [(1024, .iaload, 1, 0, 0, 0, 0), (1025, .aload_n 0, 1, 0, 0, 0, 0), (1026, .iload 4, 2, 0, 0, 0, 0), (1028, .iconst 3, 1, 0, 0, 0, 0), (1029, .iadd, 1, 0, 0, 0, 0), (1030, .iaload, 1, 0, 0, 0, 0), (1031, .invokevirtual 190, 3, 225, 4, 110, 2254), (1034, .istore 6, 2, 0, 0, 0, 0), (1036, .aload_n 2, 1, 0, 0, 0, 0), (1037, .invokevirtual 138, 3, 151, 1, 110, 1962)],
  [(1040, .iload 5, 2, 0, 0, 0, 0), (1042, .if_icmp .eq 5, 3, 1047, 0, 0, 0), (1045, .iconst 0, 1, 0, 0, 0, 0), (1046, .ireturn, 1, 0, 0, 0, 0), (1047, .iload 5, 2, 0, 0, 0, 0), (1049, .ifCond .ne 15, 3, 1064, 0, 0, 0), (1052, .aload_n 3, 1, 0, 0, 0, 0), (1053, .iconst 0, 1, 0, 0, 0, 0), (1054, .laload, 1, 0, 0, 0, 0), (1055, .iload 6, 2, 0, 0, 0, 0)],
  [(1057, .i2l, 1, 0, 0, 0, 0), (1058, .lcmp, 1, 0, 0, 0, 0), (1059, .ifCond .eq 5, 3, 1064, 0, 0, 0), (1062, .iconst 0, 1, 0, 0, 0, 0), (1063, .ireturn, 1, 0, 0, 0, 0), (1064, .goto 1466, 3, 2530, 0, 0, 0), (1067, .aload_n 1, 1, 0, 0, 0, 0), (1068, .aload_n 0, 1, 0, 0, 0, 0), (1069, .iload 4, 2, 0, 0, 0, 0), (1071, .iconst 1, 1, 0, 0, 0, 0)],
  [(1072, .iadd, 1, 0, 0, 0, 0), (1073, .iaload, 1, 0, 0, 0, 0), (1074, .aload_n 0, 1, 0, 0, 0, 0), (1075, .iload 4, 2, 0, 0, 0, 0), (1077, .iconst 2, 1, 0, 0, 0, 0), (1078, .iadd, 1, 0, 0, 0, 0), (1079, .iaload, 1, 0, 0, 0, 0), (1080, .aload_n 3, 1, 0, 0, 0, 0), (1081, .invokestatic 191, 3, 281, 4, 2, 1406), (1084, .istore 5, 2, 0, 0, 0, 0), (1086, .aload_n 2, 1, 0, 0, 0, 0), (1087, .aload_n 0, 1, 0, 0, 0, 0)],
  [(1088, .iload 4, 2, 0, 0, 0, 0), (1090, .iconst 1, 1, 0, 0, 0, 0), (1091, .iadd, 1, 0, 0, 0, 0), (1092, .iaload, 1, 0, 0, 0, 0), (1093, .aload_n 0, 1, 0, 0, 0, 0), (1094, .iload 4, 2, 0, 0, 0, 0), (1096, .iconst 2, 1, 0, 0, 0, 0), (1097, .iadd, 1, 0, 0, 0, 0), (1098, .iaload, 1, 0, 0, 0, 0), (1099, .invokevirtual 193, 3, 228, 3, 110, 2266), (1102, .istore 6, 2, 0, 0, 0, 0)],
  [(1104, .aload_n 2, 1, 0, 0, 0, 0), (1105, .invokevirtual 138, 3, 151, 1, 110, 1962), (1108, .iload 5, 2, 0, 0, 0, 0), (1110, .if_icmp .eq 5, 3, 1115, 0, 0, 0), (1113, .iconst 0, 1, 0, 0, 0, 0), (1114, .ireturn, 1, 0, 0, 0, 0), (1115, .iload 5, 2, 0, 0, 0, 0), (1117, .ifCond .ne 15, 3, 1132, 0, 0, 0)],
  [(1120, .aload_n 3, 1, 0, 0, 0, 0), (1121, .iconst 0, 1, 0, 0, 0, 0), (1122, .laload, 1, 0, 0, 0, 0), (1123, .iload 6, 2, 0, 0, 0, 0), (1125, .i2l, 1, 0, 0, 0, 0), (1126, .lcmp, 1, 0, 0, 0, 0), (1127, .ifCond .eq 5, 3, 1132, 0, 0, 0), (1130, .iconst 0, 1, 0, 0, 0, 0), (1131, .ireturn, 1, 0, 0, 0, 0), (1132, .goto 1398, 3, 2530, 0, 0, 0), (1135, .aload_n 1, 1, 0, 0, 0, 0)],
  [(1136, .aload_n 0, 1, 0, 0, 0, 0), (1137, .iload 4, 2, 0, 0, 0, 0), (1139, .iconst 1, 1, 0, 0, 0, 0), (1140, .iadd, 1, 0, 0, 0, 0), (1141, .iaload, 1, 0, 0, 0, 0), (1142, .aload_n 0, 1, 0, 0, 0, 0), (1143, .iload 4, 2, 0, 0, 0, 0), (1145, .iconst 2, 1, 0, 0, 0, 0), (1146, .iadd, 1, 0, 0, 0, 0), (1147, .iaload, 1, 0, 0, 0, 0), (1148, .aload_n 0, 1, 0, 0, 0, 0), (1149, .iload 4, 2, 0, 0, 0, 0), (1151, .iconst 3, 1, 0, 0, 0, 0)],
  [(1152, .iadd, 1, 0, 0, 0, 0), (1153, .iaload, 1, 0, 0, 0, 0), (1154, .aload_n 3, 1, 0, 0, 0, 0), (1155, .invokestatic 194, 3, 282, 5, 2, 1413), (1158, .istore 5, 2, 0, 0, 0, 0), (1160, .aload_n 2, 1, 0, 0, 0, 0), (1161, .aload_n 0, 1, 0, 0, 0, 0), (1162, .iload 4, 2, 0, 0, 0, 0), (1164, .iconst 1, 1, 0, 0, 0, 0), (1165, .iadd, 1, 0, 0, 0, 0), (1166, .iaload, 1, 0, 0, 0, 0), (1167, .aload_n 0, 1, 0, 0, 0, 0)],
  [(1168, .iload 4, 2, 0, 0, 0, 0), (1170, .iconst 2, 1, 0, 0, 0, 0), (1171, .iadd, 1, 0, 0, 0, 0), (1172, .iaload, 1, 0, 0, 0, 0), (1173, .aload_n 0, 1, 0, 0, 0, 0), (1174, .iload 4, 2, 0, 0, 0, 0), (1176, .iconst 3, 1, 0, 0, 0, 0), (1177, .iadd, 1, 0, 0, 0, 0), (1178, .iaload, 1, 0, 0, 0, 0), (1179, .invokevirtual 196, 3, 229, 4, 110, 2278), (1182, .istore 6, 2, 0, 0, 0, 0)],
  [(1184, .aload_n 2, 1, 0, 0, 0, 0), (1185, .invokevirtual 138, 3, 151, 1, 110, 1962), (1188, .iload 5, 2, 0, 0, 0, 0), (1190, .if_icmp .eq 5, 3, 1195, 0, 0, 0), (1193, .iconst 0, 1, 0, 0, 0, 0), (1194, .ireturn, 1, 0, 0, 0, 0), (1195, .iload 5, 2, 0, 0, 0, 0), (1197, .ifCond .ne 15, 3, 1212, 0, 0, 0)],
  [(1200, .aload_n 3, 1, 0, 0, 0, 0), (1201, .iconst 0, 1, 0, 0, 0, 0), (1202, .laload, 1, 0, 0, 0, 0), (1203, .iload 6, 2, 0, 0, 0, 0), (1205, .i2l, 1, 0, 0, 0, 0), (1206, .lcmp, 1, 0, 0, 0, 0), (1207, .ifCond .eq 5, 3, 1212, 0, 0, 0), (1210, .iconst 0, 1, 0, 0, 0, 0), (1211, .ireturn, 1, 0, 0, 0, 0), (1212, .goto 1318, 3, 2530, 0, 0, 0), (1215, .aload_n 1, 1, 0, 0, 0, 0)],
  [(1216, .aload_n 0, 1, 0, 0, 0, 0), (1217, .iload 4, 2, 0, 0, 0, 0), (1219, .iconst 1, 1, 0, 0, 0, 0), (1220, .iadd, 1, 0, 0, 0, 0), (1221, .iaload, 1, 0, 0, 0, 0), (1222, .aload_n 0, 1, 0, 0, 0, 0), (1223, .iload 4, 2, 0, 0, 0, 0), (1225, .iconst 2, 1, 0, 0, 0, 0), (1226, .iadd, 1, 0, 0, 0, 0), (1227, .iaload, 1, 0, 0, 0, 0), (1228, .aload_n 3, 1, 0, 0, 0, 0), (1229, .invokestatic 197, 3, 283, 4, 2, 1421)],
  [(1232, .istore 5, 2, 0, 0, 0, 0), (1234, .aload_n 2, 1, 0, 0, 0, 0), (1235, .aload_n 0, 1, 0, 0, 0, 0), (1236, .iload 4, 2, 0, 0, 0, 0), (1238, .iconst 1, 1, 0, 0, 0, 0), (1239, .iadd, 1, 0, 0, 0, 0), (1240, .iaload, 1, 0, 0, 0, 0), (1241, .aload_n 0, 1, 0, 0, 0, 0), (1242, .iload 4, 2, 0, 0, 0, 0), (1244, .iconst 2, 1, 0, 0, 0, 0), (1245, .iadd, 1, 0, 0, 0, 0), (1246, .iaload, 1, 0, 0, 0, 0), (1247, .invokevirtual 199, 3, 230, 3, 110, 2282)],
  [(1250, .istore 6, 2, 0, 0, 0, 0), (1252, .aload_n 2, 1, 0, 0, 0, 0), (1253, .invokevirtual 138, 3, 151, 1, 110, 1962), (1256, .iload 5, 2, 0, 0, 0, 0), (1258, .if_icmp .eq 5, 3, 1263, 0, 0, 0), (1261, .iconst 0, 1, 0, 0, 0, 0), (1262, .ireturn, 1, 0, 0, 0, 0), (1263, .iload 5, 2, 0, 0, 0, 0)],
  [(1265, .ifCond .ne 15, 3, 1280, 0, 0, 0), (1268, .aload_n 3, 1, 0, 0, 0, 0), (1269, .iconst 0, 1, 0, 0, 0, 0), (1270, .laload, 1, 0, 0, 0, 0), (1271, .iload 6, 2, 0, 0, 0, 0), (1273, .i2l, 1, 0, 0, 0, 0), (1274, .lcmp, 1, 0, 0, 0, 0), (1275, .ifCond .eq 5, 3, 1280, 0, 0, 0), (1278, .iconst 0, 1, 0, 0, 0, 0), (1279, .ireturn, 1, 0, 0, 0, 0)]]
def ql_L_law_4 : List (List qI) := [[(1280, .goto 1250, 3, 2530, 0, 0, 0), (1283, .aload_n 1, 1, 0, 0, 0, 0), (1284, .aload_n 0, 1, 0, 0, 0, 0), (1285, .iload 4, 2, 0, 0, 0, 0), (1287, .iconst 1, 1, 0, 0, 0, 0), (1288, .iadd, 1, 0, 0, 0, 0), (1289, .iaload, 1, 0, 0, 0, 0), (1290, .aload_n 3, 1, 0, 0, 0, 0), (1291, .invokestatic 200, 3, 284, 3, 2, 1428), (1294, .istore 5, 2, 0, 0, 0, 0)],
  [(1296, .aload_n 2, 1, 0, 0, 0, 0), (1297, .aload_n 0, 1, 0, 0, 0, 0), (1298, .iload 4, 2, 0, 0, 0, 0), (1300, .iconst 1, 1, 0, 0, 0, 0), (1301, .iadd, 1, 0, 0, 0, 0), (1302, .iaload, 1, 0, 0, 0, 0), (1303, .invokevirtual 202, 3, 232, 2, 110, 2286), (1306, .istore 6, 2, 0, 0, 0, 0), (1308, .aload_n 2, 1, 0, 0, 0, 0), (1309, .invokevirtual 138, 3, 151, 1, 110, 1962)],
  [(1312, .iload 5, 2, 0, 0, 0, 0), (1314, .if_icmp .eq 5, 3, 1319, 0, 0, 0), (1317, .iconst 0, 1, 0, 0, 0, 0), (1318, .ireturn, 1, 0, 0, 0, 0), (1319, .iload 5, 2, 0, 0, 0, 0), (1321, .ifCond .ne 15, 3, 1336, 0, 0, 0), (1324, .aload_n 3, 1, 0, 0, 0, 0), (1325, .iconst 0, 1, 0, 0, 0, 0), (1326, .laload, 1, 0, 0, 0, 0), (1327, .iload 6, 2, 0, 0, 0, 0)],
  [(1329, .i2l, 1, 0, 0, 0, 0), (1330, .lcmp, 1, 0, 0, 0, 0), (1331, .ifCond .eq 5, 3, 1336, 0, 0, 0), (1334, .iconst 0, 1, 0, 0, 0, 0), (1335, .ireturn, 1, 0, 0, 0, 0), (1336, .goto 1194, 3, 2530, 0, 0, 0), (1339, .aload_n 1, 1, 0, 0, 0, 0), (1340, .aload_n 3, 1, 0, 0, 0, 0), (1341, .invokestatic 203, 3, 285, 2, 2, 1435)],
  [(1344, .istore 5, 2, 0, 0, 0, 0), (1346, .aload_n 2, 1, 0, 0, 0, 0), (1347, .invokevirtual 205, 3, 234, 1, 110, 2294), (1350, .istore 6, 2, 0, 0, 0, 0), (1352, .aload_n 2, 1, 0, 0, 0, 0), (1353, .invokevirtual 138, 3, 151, 1, 110, 1962), (1356, .iload 5, 2, 0, 0, 0, 0), (1358, .if_icmp .eq 5, 3, 1363, 0, 0, 0)],
  [(1361, .iconst 0, 1, 0, 0, 0, 0), (1362, .ireturn, 1, 0, 0, 0, 0), (1363, .iload 5, 2, 0, 0, 0, 0), (1365, .ifCond .ne 15, 3, 1380, 0, 0, 0), (1368, .aload_n 3, 1, 0, 0, 0, 0), (1369, .iconst 0, 1, 0, 0, 0, 0), (1370, .laload, 1, 0, 0, 0, 0), (1371, .iload 6, 2, 0, 0, 0, 0), (1373, .i2l, 1, 0, 0, 0, 0), (1374, .lcmp, 1, 0, 0, 0, 0), (1375, .ifCond .eq 5, 3, 1380, 0, 0, 0)],
  [(1378, .iconst 0, 1, 0, 0, 0, 0), (1379, .ireturn, 1, 0, 0, 0, 0), (1380, .goto 1150, 3, 2530, 0, 0, 0), (1383, .aload_n 1, 1, 0, 0, 0, 0), (1384, .aload_n 3, 1, 0, 0, 0, 0), (1385, .invokestatic 206, 3, 286, 2, 2, 1442), (1388, .istore 5, 2, 0, 0, 0, 0), (1390, .aload_n 2, 1, 0, 0, 0, 0), (1391, .invokevirtual 208, 3, 235, 1, 110, 2302)],
  [(1394, .istore 6, 2, 0, 0, 0, 0), (1396, .aload_n 2, 1, 0, 0, 0, 0), (1397, .invokevirtual 138, 3, 151, 1, 110, 1962), (1400, .iload 5, 2, 0, 0, 0, 0), (1402, .if_icmp .eq 5, 3, 1407, 0, 0, 0), (1405, .iconst 0, 1, 0, 0, 0, 0), (1406, .ireturn, 1, 0, 0, 0, 0), (1407, .iload 5, 2, 0, 0, 0, 0)],
  [(1409, .ifCond .ne 15, 3, 1424, 0, 0, 0), (1412, .aload_n 3, 1, 0, 0, 0, 0), (1413, .iconst 0, 1, 0, 0, 0, 0), (1414, .laload, 1, 0, 0, 0, 0), (1415, .iload 6, 2, 0, 0, 0, 0), (1417, .i2l, 1, 0, 0, 0, 0), (1418, .lcmp, 1, 0, 0, 0, 0), (1419, .ifCond .eq 5, 3, 1424, 0, 0, 0), (1422, .iconst 0, 1, 0, 0, 0, 0), (1423, .ireturn, 1, 0, 0, 0, 0)],
  [(1424, .goto 1106, 3, 2530, 0, 0, 0), (1427, .aload_n 1, 1, 0, 0, 0, 0), (1428, .aload_n 0, 1, 0, 0, 0, 0), (1429, .iload 4, 2, 0, 0, 0, 0), (1431, .iconst 1, 1, 0, 0, 0, 0), (1432, .iadd, 1, 0, 0, 0, 0), (1433, .iaload, 1, 0, 0, 0, 0), (1434, .aload_n 3, 1, 0, 0, 0, 0), (1435, .invokestatic 209, 3, 287, 3, 2, 1449), (1438, .istore 5, 2, 0, 0, 0, 0)],
  [(1440, .aload_n 2, 1, 0, 0, 0, 0), (1441, .aload_n 0, 1, 0, 0, 0, 0), (1442, .iload 4, 2, 0, 0, 0, 0), (1444, .iconst 1, 1, 0, 0, 0, 0), (1445, .iadd, 1, 0, 0, 0, 0), (1446, .iaload, 1, 0, 0, 0, 0), (1447, .invokevirtual 211, 3, 237, 2, 110, 2306), (1450, .istore 6, 2, 0, 0, 0, 0), (1452, .aload_n 2, 1, 0, 0, 0, 0), (1453, .invokevirtual 138, 3, 151, 1, 110, 1962)],
  [(1456, .iload 5, 2, 0, 0, 0, 0), (1458, .if_icmp .eq 5, 3, 1463, 0, 0, 0), (1461, .iconst 0, 1, 0, 0, 0, 0), (1462, .ireturn, 1, 0, 0, 0, 0), (1463, .iload 5, 2, 0, 0, 0, 0), (1465, .ifCond .ne 15, 3, 1480, 0, 0, 0), (1468, .aload_n 3, 1, 0, 0, 0, 0), (1469, .iconst 0, 1, 0, 0, 0, 0), (1470, .laload, 1, 0, 0, 0, 0), (1471, .iload 6, 2, 0, 0, 0, 0)],
  [(1473, .i2l, 1, 0, 0, 0, 0), (1474, .lcmp, 1, 0, 0, 0, 0), (1475, .ifCond .eq 5, 3, 1480, 0, 0, 0), (1478, .iconst 0, 1, 0, 0, 0, 0), (1479, .ireturn, 1, 0, 0, 0, 0), (1480, .goto 1050, 3, 2530, 0, 0, 0), (1483, .aload_n 1, 1, 0, 0, 0, 0), (1484, .aload_n 0, 1, 0, 0, 0, 0), (1485, .iload 4, 2, 0, 0, 0, 0), (1487, .iconst 1, 1, 0, 0, 0, 0)],
  [(1488, .iadd, 1, 0, 0, 0, 0), (1489, .iaload, 1, 0, 0, 0, 0), (1490, .aload_n 0, 1, 0, 0, 0, 0), (1491, .iload 4, 2, 0, 0, 0, 0), (1493, .iconst 2, 1, 0, 0, 0, 0), (1494, .iadd, 1, 0, 0, 0, 0), (1495, .iaload, 1, 0, 0, 0, 0), (1496, .ifCond .eq 7, 3, 1503, 0, 0, 0), (1499, .iconst 1, 1, 0, 0, 0, 0), (1500, .goto 4, 3, 1504, 0, 0, 0), (1503, .iconst 0, 1, 0, 0, 0, 0)],
  [(1504, .aload_n 3, 1, 0, 0, 0, 0), (1505, .invokestatic 212, 3, 288, 4, 2, 1465), (1508, .istore 5, 2, 0, 0, 0, 0), (1510, .aload_n 2, 1, 0, 0, 0, 0), (1511, .aload_n 0, 1, 0, 0, 0, 0), (1512, .iload 4, 2, 0, 0, 0, 0), (1514, .iconst 1, 1, 0, 0, 0, 0), (1515, .iadd, 1, 0, 0, 0, 0), (1516, .iaload, 1, 0, 0, 0, 0), (1517, .aload_n 0, 1, 0, 0, 0, 0), (1518, .iload 4, 2, 0, 0, 0, 0)],
  [(1520, .iconst 2, 1, 0, 0, 0, 0), (1521, .iadd, 1, 0, 0, 0, 0), (1522, .iaload, 1, 0, 0, 0, 0), (1523, .ifCond .eq 7, 3, 1530, 0, 0, 0), (1526, .iconst 1, 1, 0, 0, 0, 0), (1527, .goto 4, 3, 1531, 0, 0, 0), (1530, .iconst 0, 1, 0, 0, 0, 0), (1531, .invokevirtual 215, 3, 238, 3, 110, 2314), (1534, .istore 6, 2, 0, 0, 0, 0)],
  [(1536, .aload_n 2, 1, 0, 0, 0, 0), (1537, .invokevirtual 138, 3, 151, 1, 110, 1962), (1540, .iload 5, 2, 0, 0, 0, 0), (1542, .if_icmp .eq 5, 3, 1547, 0, 0, 0), (1545, .iconst 0, 1, 0, 0, 0, 0), (1546, .ireturn, 1, 0, 0, 0, 0), (1547, .iload 5, 2, 0, 0, 0, 0), (1549, .ifCond .ne 15, 3, 1564, 0, 0, 0)],
  [(1552, .aload_n 3, 1, 0, 0, 0, 0), (1553, .iconst 0, 1, 0, 0, 0, 0), (1554, .laload, 1, 0, 0, 0, 0), (1555, .iload 6, 2, 0, 0, 0, 0), (1557, .i2l, 1, 0, 0, 0, 0), (1558, .lcmp, 1, 0, 0, 0, 0), (1559, .ifCond .eq 5, 3, 1564, 0, 0, 0), (1562, .iconst 0, 1, 0, 0, 0, 0), (1563, .ireturn, 1, 0, 0, 0, 0), (1564, .goto 966, 3, 2530, 0, 0, 0), (1567, .aload_n 1, 1, 0, 0, 0, 0)],
  [(1568, .aload_n 0, 1, 0, 0, 0, 0), (1569, .iload 4, 2, 0, 0, 0, 0), (1571, .iconst 1, 1, 0, 0, 0, 0), (1572, .iadd, 1, 0, 0, 0, 0), (1573, .iaload, 1, 0, 0, 0, 0), (1574, .aload_n 0, 1, 0, 0, 0, 0), (1575, .iload 4, 2, 0, 0, 0, 0), (1577, .iconst 2, 1, 0, 0, 0, 0), (1578, .iadd, 1, 0, 0, 0, 0), (1579, .iaload, 1, 0, 0, 0, 0), (1580, .aload_n 3, 1, 0, 0, 0, 0), (1581, .invokestatic 216, 3, 289, 4, 2, 1472)],
  [(1584, .istore 5, 2, 0, 0, 0, 0), (1586, .aload_n 2, 1, 0, 0, 0, 0), (1587, .aload_n 0, 1, 0, 0, 0, 0), (1588, .iload 4, 2, 0, 0, 0, 0), (1590, .iconst 1, 1, 0, 0, 0, 0), (1591, .iadd, 1, 0, 0, 0, 0), (1592, .iaload, 1, 0, 0, 0, 0), (1593, .aload_n 0, 1, 0, 0, 0, 0), (1594, .iload 4, 2, 0, 0, 0, 0), (1596, .iconst 2, 1, 0, 0, 0, 0), (1597, .iadd, 1, 0, 0, 0, 0), (1598, .iaload, 1, 0, 0, 0, 0), (1599, .invokevirtual 218, 3, 239, 3, 110, 2318)]]
def ql_L_law_5 : List (List qI) := [[(1602, .istore 6, 2, 0, 0, 0, 0), (1604, .aload_n 2, 1, 0, 0, 0, 0), (1605, .invokevirtual 138, 3, 151, 1, 110, 1962), (1608, .iload 5, 2, 0, 0, 0, 0), (1610, .if_icmp .eq 5, 3, 1615, 0, 0, 0), (1613, .iconst 0, 1, 0, 0, 0, 0), (1614, .ireturn, 1, 0, 0, 0, 0), (1615, .iload 5, 2, 0, 0, 0, 0)],
  [(1617, .ifCond .ne 15, 3, 1632, 0, 0, 0), (1620, .aload_n 3, 1, 0, 0, 0, 0), (1621, .iconst 0, 1, 0, 0, 0, 0), (1622, .laload, 1, 0, 0, 0, 0), (1623, .iload 6, 2, 0, 0, 0, 0), (1625, .i2l, 1, 0, 0, 0, 0), (1626, .lcmp, 1, 0, 0, 0, 0), (1627, .ifCond .eq 5, 3, 1632, 0, 0, 0), (1630, .iconst 0, 1, 0, 0, 0, 0), (1631, .ireturn, 1, 0, 0, 0, 0)],
  [(1632, .goto 898, 3, 2530, 0, 0, 0), (1635, .aload_n 1, 1, 0, 0, 0, 0), (1636, .aload_n 0, 1, 0, 0, 0, 0), (1637, .iload 4, 2, 0, 0, 0, 0), (1639, .iconst 1, 1, 0, 0, 0, 0), (1640, .iadd, 1, 0, 0, 0, 0), (1641, .iaload, 1, 0, 0, 0, 0), (1642, .aload_n 0, 1, 0, 0, 0, 0), (1643, .iload 4, 2, 0, 0, 0, 0), (1645, .iconst 2, 1, 0, 0, 0, 0), (1646, .iadd, 1, 0, 0, 0, 0), (1647, .iaload, 1, 0, 0, 0, 0)],
  [(1648, .aload_n 3, 1, 0, 0, 0, 0), (1649, .invokestatic 219, 3, 290, 4, 2, 1484), (1652, .istore 5, 2, 0, 0, 0, 0), (1654, .aload_n 2, 1, 0, 0, 0, 0), (1655, .aload_n 0, 1, 0, 0, 0, 0), (1656, .iload 4, 2, 0, 0, 0, 0), (1658, .iconst 1, 1, 0, 0, 0, 0), (1659, .iadd, 1, 0, 0, 0, 0), (1660, .iaload, 1, 0, 0, 0, 0), (1661, .aload_n 0, 1, 0, 0, 0, 0), (1662, .iload 4, 2, 0, 0, 0, 0)],
  [(1664, .iconst 2, 1, 0, 0, 0, 0), (1665, .iadd, 1, 0, 0, 0, 0), (1666, .iaload, 1, 0, 0, 0, 0), (1667, .invokevirtual 221, 3, 240, 3, 110, 2322), (1670, .istore 6, 2, 0, 0, 0, 0), (1672, .aload_n 2, 1, 0, 0, 0, 0), (1673, .invokevirtual 138, 3, 151, 1, 110, 1962), (1676, .iload 5, 2, 0, 0, 0, 0), (1678, .if_icmp .eq 5, 3, 1683, 0, 0, 0)],
  [(1681, .iconst 0, 1, 0, 0, 0, 0), (1682, .ireturn, 1, 0, 0, 0, 0), (1683, .iload 5, 2, 0, 0, 0, 0), (1685, .ifCond .ne 15, 3, 1700, 0, 0, 0), (1688, .aload_n 3, 1, 0, 0, 0, 0), (1689, .iconst 0, 1, 0, 0, 0, 0), (1690, .laload, 1, 0, 0, 0, 0), (1691, .iload 6, 2, 0, 0, 0, 0), (1693, .i2l, 1, 0, 0, 0, 0), (1694, .lcmp, 1, 0, 0, 0, 0), (1695, .ifCond .eq 5, 3, 1700, 0, 0, 0)],
  [(1698, .iconst 0, 1, 0, 0, 0, 0), (1699, .ireturn, 1, 0, 0, 0, 0), (1700, .goto 830, 3, 2530, 0, 0, 0), (1703, .aload_n 1, 1, 0, 0, 0, 0), (1704, .aload_n 0, 1, 0, 0, 0, 0), (1705, .iload 4, 2, 0, 0, 0, 0), (1707, .iconst 1, 1, 0, 0, 0, 0), (1708, .iadd, 1, 0, 0, 0, 0), (1709, .iaload, 1, 0, 0, 0, 0), (1710, .aload_n 3, 1, 0, 0, 0, 0), (1711, .invokestatic 222, 3, 291, 3, 2, 1493)],
  [(1714, .istore 5, 2, 0, 0, 0, 0), (1716, .aload_n 2, 1, 0, 0, 0, 0), (1717, .aload_n 0, 1, 0, 0, 0, 0), (1718, .iload 4, 2, 0, 0, 0, 0), (1720, .iconst 1, 1, 0, 0, 0, 0), (1721, .iadd, 1, 0, 0, 0, 0), (1722, .iaload, 1, 0, 0, 0, 0), (1723, .invokevirtual 224, 3, 241, 2, 110, 2326), (1726, .istore 6, 2, 0, 0, 0, 0)],
  [(1728, .aload_n 2, 1, 0, 0, 0, 0), (1729, .invokevirtual 138, 3, 151, 1, 110, 1962), (1732, .iload 5, 2, 0, 0, 0, 0), (1734, .if_icmp .eq 5, 3, 1739, 0, 0, 0), (1737, .iconst 0, 1, 0, 0, 0, 0), (1738, .ireturn, 1, 0, 0, 0, 0), (1739, .iload 5, 2, 0, 0, 0, 0), (1741, .ifCond .ne 15, 3, 1756, 0, 0, 0)],
  [(1744, .aload_n 3, 1, 0, 0, 0, 0), (1745, .iconst 0, 1, 0, 0, 0, 0), (1746, .laload, 1, 0, 0, 0, 0), (1747, .iload 6, 2, 0, 0, 0, 0), (1749, .i2l, 1, 0, 0, 0, 0), (1750, .lcmp, 1, 0, 0, 0, 0), (1751, .ifCond .eq 5, 3, 1756, 0, 0, 0), (1754, .iconst 0, 1, 0, 0, 0, 0), (1755, .ireturn, 1, 0, 0, 0, 0), (1756, .goto 774, 3, 2530, 0, 0, 0), (1759, .aload_n 1, 1, 0, 0, 0, 0)],
  [(1760, .aload_n 0, 1, 0, 0, 0, 0), (1761, .iload 4, 2, 0, 0, 0, 0), (1763, .iconst 1, 1, 0, 0, 0, 0), (1764, .iadd, 1, 0, 0, 0, 0), (1765, .iaload, 1, 0, 0, 0, 0), (1766, .aload_n 3, 1, 0, 0, 0, 0), (1767, .invokestatic 225, 3, 292, 3, 2, 1500), (1770, .istore 5, 2, 0, 0, 0, 0), (1772, .aload_n 2, 1, 0, 0, 0, 0), (1773, .aload_n 0, 1, 0, 0, 0, 0), (1774, .iload 4, 2, 0, 0, 0, 0)],
  [(1776, .iconst 1, 1, 0, 0, 0, 0), (1777, .iadd, 1, 0, 0, 0, 0), (1778, .iaload, 1, 0, 0, 0, 0), (1779, .invokevirtual 227, 3, 242, 2, 110, 2330), (1782, .istore 6, 2, 0, 0, 0, 0), (1784, .aload_n 2, 1, 0, 0, 0, 0), (1785, .invokevirtual 138, 3, 151, 1, 110, 1962), (1788, .iload 5, 2, 0, 0, 0, 0), (1790, .if_icmp .eq 5, 3, 1795, 0, 0, 0)],
  [(1793, .iconst 0, 1, 0, 0, 0, 0), (1794, .ireturn, 1, 0, 0, 0, 0), (1795, .iload 5, 2, 0, 0, 0, 0), (1797, .ifCond .ne 15, 3, 1812, 0, 0, 0), (1800, .aload_n 3, 1, 0, 0, 0, 0), (1801, .iconst 0, 1, 0, 0, 0, 0), (1802, .laload, 1, 0, 0, 0, 0), (1803, .iload 6, 2, 0, 0, 0, 0), (1805, .i2l, 1, 0, 0, 0, 0), (1806, .lcmp, 1, 0, 0, 0, 0), (1807, .ifCond .eq 5, 3, 1812, 0, 0, 0)],
  [(1810, .iconst 0, 1, 0, 0, 0, 0), (1811, .ireturn, 1, 0, 0, 0, 0), (1812, .goto 718, 3, 2530, 0, 0, 0), (1815, .aload_n 1, 1, 0, 0, 0, 0), (1816, .aload_n 3, 1, 0, 0, 0, 0), (1817, .invokestatic 228, 3, 293, 2, 2, 1520), (1820, .istore 5, 2, 0, 0, 0, 0), (1822, .aload_n 2, 1, 0, 0, 0, 0), (1823, .invokevirtual 230, 3, 243, 1, 110, 2334)],
  [(1826, .istore 6, 2, 0, 0, 0, 0), (1828, .aload_n 2, 1, 0, 0, 0, 0), (1829, .invokevirtual 138, 3, 151, 1, 110, 1962), (1832, .iload 5, 2, 0, 0, 0, 0), (1834, .if_icmp .eq 5, 3, 1839, 0, 0, 0), (1837, .iconst 0, 1, 0, 0, 0, 0), (1838, .ireturn, 1, 0, 0, 0, 0), (1839, .iload 5, 2, 0, 0, 0, 0)],
  [(1841, .ifCond .ne 22, 3, 1863, 0, 0, 0), (1844, .aload_n 3, 1, 0, 0, 0, 0), (1845, .iconst 0, 1, 0, 0, 0, 0), (1846, .laload, 1, 0, 0, 0, 0), (1847, .iload 6, 2, 0, 0, 0, 0), (1849, .ifCond .eq 7, 3, 1856, 0, 0, 0), (1852, .lconst 1, 1, 0, 0, 0, 0), (1853, .goto 4, 3, 1857, 0, 0, 0)],
  [(1856, .lconst 0, 1, 0, 0, 0, 0), (1857, .lcmp, 1, 0, 0, 0, 0), (1858, .ifCond .eq 5, 3, 1863, 0, 0, 0), (1861, .iconst 0, 1, 0, 0, 0, 0), (1862, .ireturn, 1, 0, 0, 0, 0), (1863, .goto 667, 3, 2530, 0, 0, 0), (1866, .aload_n 1, 1, 0, 0, 0, 0), (1867, .aload_n 0, 1, 0, 0, 0, 0), (1868, .iload 4, 2, 0, 0, 0, 0), (1870, .iconst 1, 1, 0, 0, 0, 0), (1871, .iadd, 1, 0, 0, 0, 0)],
  [(1872, .iaload, 1, 0, 0, 0, 0), (1873, .aload_n 0, 1, 0, 0, 0, 0), (1874, .iload 4, 2, 0, 0, 0, 0), (1876, .iconst 2, 1, 0, 0, 0, 0), (1877, .iadd, 1, 0, 0, 0, 0), (1878, .iaload, 1, 0, 0, 0, 0), (1879, .aload_n 0, 1, 0, 0, 0, 0), (1880, .iload 4, 2, 0, 0, 0, 0), (1882, .iconst 3, 1, 0, 0, 0, 0), (1883, .iadd, 1, 0, 0, 0, 0), (1884, .iaload, 1, 0, 0, 0, 0), (1885, .aload_n 3, 1, 0, 0, 0, 0), (1886, .invokestatic 231, 3, 294, 5, 2, 1527)],
  [(1889, .istore 5, 2, 0, 0, 0, 0), (1891, .aload_n 2, 1, 0, 0, 0, 0), (1892, .aload_n 0, 1, 0, 0, 0, 0), (1893, .iload 4, 2, 0, 0, 0, 0), (1895, .iconst 1, 1, 0, 0, 0, 0), (1896, .iadd, 1, 0, 0, 0, 0), (1897, .iaload, 1, 0, 0, 0, 0), (1898, .aload_n 0, 1, 0, 0, 0, 0), (1899, .iload 4, 2, 0, 0, 0, 0), (1901, .iconst 2, 1, 0, 0, 0, 0), (1902, .iadd, 1, 0, 0, 0, 0), (1903, .iaload, 1, 0, 0, 0, 0)],
  [(1904, .aload_n 0, 1, 0, 0, 0, 0), (1905, .iload 4, 2, 0, 0, 0, 0), (1907, .iconst 3, 1, 0, 0, 0, 0), (1908, .iadd, 1, 0, 0, 0, 0), (1909, .iaload, 1, 0, 0, 0, 0), (1910, .invokevirtual 233, 3, 244, 4, 110, 2338), (1913, .istore 6, 2, 0, 0, 0, 0), (1915, .aload_n 2, 1, 0, 0, 0, 0), (1916, .invokevirtual 138, 3, 151, 1, 110, 1962), (1919, .iload 5, 2, 0, 0, 0, 0)]]
def ql_L_law_6 : List (List qI) := [[(1921, .if_icmp .eq 5, 3, 1926, 0, 0, 0), (1924, .iconst 0, 1, 0, 0, 0, 0), (1925, .ireturn, 1, 0, 0, 0, 0), (1926, .iload 5, 2, 0, 0, 0, 0), (1928, .ifCond .ne 15, 3, 1943, 0, 0, 0), (1931, .aload_n 3, 1, 0, 0, 0, 0), (1932, .iconst 0, 1, 0, 0, 0, 0), (1933, .laload, 1, 0, 0, 0, 0), (1934, .iload 6, 2, 0, 0, 0, 0)],
  [(1936, .i2l, 1, 0, 0, 0, 0), (1937, .lcmp, 1, 0, 0, 0, 0), (1938, .ifCond .eq 5, 3, 1943, 0, 0, 0), (1941, .iconst 0, 1, 0, 0, 0, 0), (1942, .ireturn, 1, 0, 0, 0, 0), (1943, .goto 587, 3, 2530, 0, 0, 0), (1946, .aload_n 1, 1, 0, 0, 0, 0), (1947, .aload_n 0, 1, 0, 0, 0, 0), (1948, .iload 4, 2, 0, 0, 0, 0), (1950, .iconst 1, 1, 0, 0, 0, 0), (1951, .iadd, 1, 0, 0, 0, 0)],
  [(1952, .iaload, 1, 0, 0, 0, 0), (1953, .aload_n 0, 1, 0, 0, 0, 0), (1954, .iload 4, 2, 0, 0, 0, 0), (1956, .iconst 2, 1, 0, 0, 0, 0), (1957, .iadd, 1, 0, 0, 0, 0), (1958, .iaload, 1, 0, 0, 0, 0), (1959, .aload_n 0, 1, 0, 0, 0, 0), (1960, .iload 4, 2, 0, 0, 0, 0), (1962, .iconst 3, 1, 0, 0, 0, 0), (1963, .iadd, 1, 0, 0, 0, 0), (1964, .iaload, 1, 0, 0, 0, 0), (1965, .aload_n 3, 1, 0, 0, 0, 0), (1966, .invokestatic 234, 3, 295, 5, 2, 1535)],
  [(1969, .istore 5, 2, 0, 0, 0, 0), (1971, .aload_n 2, 1, 0, 0, 0, 0), (1972, .aload_n 0, 1, 0, 0, 0, 0), (1973, .iload 4, 2, 0, 0, 0, 0), (1975, .iconst 1, 1, 0, 0, 0, 0), (1976, .iadd, 1, 0, 0, 0, 0), (1977, .iaload, 1, 0, 0, 0, 0), (1978, .aload_n 0, 1, 0, 0, 0, 0), (1979, .iload 4, 2, 0, 0, 0, 0), (1981, .iconst 2, 1, 0, 0, 0, 0), (1982, .iadd, 1, 0, 0, 0, 0), (1983, .iaload, 1, 0, 0, 0, 0)],
  [(1984, .aload_n 0, 1, 0, 0, 0, 0), (1985, .iload 4, 2, 0, 0, 0, 0), (1987, .iconst 3, 1, 0, 0, 0, 0), (1988, .iadd, 1, 0, 0, 0, 0), (1989, .iaload, 1, 0, 0, 0, 0), (1990, .invokevirtual 236, 3, 245, 4, 110, 2342), (1993, .istore 6, 2, 0, 0, 0, 0), (1995, .aload_n 2, 1, 0, 0, 0, 0), (1996, .invokevirtual 138, 3, 151, 1, 110, 1962), (1999, .iload 5, 2, 0, 0, 0, 0)],
  [(2001, .if_icmp .eq 5, 3, 2006, 0, 0, 0), (2004, .iconst 0, 1, 0, 0, 0, 0), (2005, .ireturn, 1, 0, 0, 0, 0), (2006, .iload 5, 2, 0, 0, 0, 0), (2008, .ifCond .ne 15, 3, 2023, 0, 0, 0), (2011, .aload_n 3, 1, 0, 0, 0, 0), (2012, .iconst 0, 1, 0, 0, 0, 0), (2013, .laload, 1, 0, 0, 0, 0), (2014, .iload 6, 2, 0, 0, 0, 0)],
  [(2016, .i2l, 1, 0, 0, 0, 0), (2017, .lcmp, 1, 0, 0, 0, 0), (2018, .ifCond .eq 5, 3, 2023, 0, 0, 0), (2021, .iconst 0, 1, 0, 0, 0, 0), (2022, .ireturn, 1, 0, 0, 0, 0), (2023, .goto 507, 3, 2530, 0, 0, 0), (2026, .aload_n 1, 1, 0, 0, 0, 0), (2027, .aload_n 0, 1, 0, 0, 0, 0), (2028, .iload 4, 2, 0, 0, 0, 0), (2030, .iconst 1, 1, 0, 0, 0, 0), (2031, .iadd, 1, 0, 0, 0, 0)],
  [(2032, .iaload, 1, 0, 0, 0, 0), (2033, .aload_n 0, 1, 0, 0, 0, 0), (2034, .iload 4, 2, 0, 0, 0, 0), (2036, .iconst 2, 1, 0, 0, 0, 0), (2037, .iadd, 1, 0, 0, 0, 0), (2038, .iaload, 1, 0, 0, 0, 0), (2039, .ifCond .eq 7, 3, 2046, 0, 0, 0), (2042, .iconst 1, 1, 0, 0, 0, 0), (2043, .goto 4, 3, 2047, 0, 0, 0), (2046, .iconst 0, 1, 0, 0, 0, 0), (2047, .aload_n 3, 1, 0, 0, 0, 0)],
  [(2048, .invokestatic 237, 3, 296, 4, 2, 1542), (2051, .istore 5, 2, 0, 0, 0, 0), (2053, .aload_n 2, 1, 0, 0, 0, 0), (2054, .aload_n 0, 1, 0, 0, 0, 0), (2055, .iload 4, 2, 0, 0, 0, 0), (2057, .iconst 1, 1, 0, 0, 0, 0), (2058, .iadd, 1, 0, 0, 0, 0), (2059, .iaload, 1, 0, 0, 0, 0), (2060, .aload_n 0, 1, 0, 0, 0, 0), (2061, .iload 4, 2, 0, 0, 0, 0), (2063, .iconst 2, 1, 0, 0, 0, 0)],
  [(2064, .iadd, 1, 0, 0, 0, 0), (2065, .iaload, 1, 0, 0, 0, 0), (2066, .ifCond .eq 7, 3, 2073, 0, 0, 0), (2069, .iconst 1, 1, 0, 0, 0, 0), (2070, .goto 4, 3, 2074, 0, 0, 0), (2073, .iconst 0, 1, 0, 0, 0, 0), (2074, .invokevirtual 239, 3, 246, 3, 110, 2346), (2077, .istore 6, 2, 0, 0, 0, 0), (2079, .aload_n 2, 1, 0, 0, 0, 0)],
  [(2080, .invokevirtual 138, 3, 151, 1, 110, 1962), (2083, .iload 5, 2, 0, 0, 0, 0), (2085, .if_icmp .eq 5, 3, 2090, 0, 0, 0), (2088, .iconst 0, 1, 0, 0, 0, 0), (2089, .ireturn, 1, 0, 0, 0, 0), (2090, .iload 5, 2, 0, 0, 0, 0), (2092, .ifCond .ne 15, 3, 2107, 0, 0, 0), (2095, .aload_n 3, 1, 0, 0, 0, 0)],
  [(2096, .iconst 0, 1, 0, 0, 0, 0), (2097, .laload, 1, 0, 0, 0, 0), (2098, .iload 6, 2, 0, 0, 0, 0), (2100, .i2l, 1, 0, 0, 0, 0), (2101, .lcmp, 1, 0, 0, 0, 0), (2102, .ifCond .eq 5, 3, 2107, 0, 0, 0), (2105, .iconst 0, 1, 0, 0, 0, 0), (2106, .ireturn, 1, 0, 0, 0, 0), (2107, .goto 423, 3, 2530, 0, 0, 0), (2110, .aload_n 1, 1, 0, 0, 0, 0), (2111, .aload_n 0, 1, 0, 0, 0, 0)],
  [(2112, .iload 4, 2, 0, 0, 0, 0), (2114, .iconst 1, 1, 0, 0, 0, 0), (2115, .iadd, 1, 0, 0, 0, 0), (2116, .iaload, 1, 0, 0, 0, 0), (2117, .aload_n 0, 1, 0, 0, 0, 0), (2118, .iload 4, 2, 0, 0, 0, 0), (2120, .iconst 2, 1, 0, 0, 0, 0), (2121, .iadd, 1, 0, 0, 0, 0), (2122, .iaload, 1, 0, 0, 0, 0), (2123, .aload_n 0, 1, 0, 0, 0, 0), (2124, .iload 4, 2, 0, 0, 0, 0), (2126, .iconst 3, 1, 0, 0, 0, 0), (2127, .iadd, 1, 0, 0, 0, 0)],
  [(2128, .iaload, 1, 0, 0, 0, 0), (2129, .aload_n 3, 1, 0, 0, 0, 0), (2130, .invokestatic 240, 3, 297, 5, 2, 1554), (2133, .istore 5, 2, 0, 0, 0, 0), (2135, .aload_n 2, 1, 0, 0, 0, 0), (2136, .aload_n 0, 1, 0, 0, 0, 0), (2137, .iload 4, 2, 0, 0, 0, 0), (2139, .iconst 1, 1, 0, 0, 0, 0), (2140, .iadd, 1, 0, 0, 0, 0), (2141, .iaload, 1, 0, 0, 0, 0), (2142, .aload_n 0, 1, 0, 0, 0, 0), (2143, .iload 4, 2, 0, 0, 0, 0)],
  [(2145, .iconst 2, 1, 0, 0, 0, 0), (2146, .iadd, 1, 0, 0, 0, 0), (2147, .iaload, 1, 0, 0, 0, 0), (2148, .aload_n 0, 1, 0, 0, 0, 0), (2149, .iload 4, 2, 0, 0, 0, 0), (2151, .iconst 3, 1, 0, 0, 0, 0), (2152, .iadd, 1, 0, 0, 0, 0), (2153, .iaload, 1, 0, 0, 0, 0), (2154, .invokevirtual 242, 3, 250, 4, 110, 2350), (2157, .istore 6, 2, 0, 0, 0, 0), (2159, .aload_n 2, 1, 0, 0, 0, 0)],
  [(2160, .invokevirtual 138, 3, 151, 1, 110, 1962), (2163, .iload 5, 2, 0, 0, 0, 0), (2165, .if_icmp .eq 5, 3, 2170, 0, 0, 0), (2168, .iconst 0, 1, 0, 0, 0, 0), (2169, .ireturn, 1, 0, 0, 0, 0), (2170, .iload 5, 2, 0, 0, 0, 0), (2172, .ifCond .ne 15, 3, 2187, 0, 0, 0), (2175, .aload_n 3, 1, 0, 0, 0, 0)],
  [(2176, .iconst 0, 1, 0, 0, 0, 0), (2177, .laload, 1, 0, 0, 0, 0), (2178, .iload 6, 2, 0, 0, 0, 0), (2180, .i2l, 1, 0, 0, 0, 0), (2181, .lcmp, 1, 0, 0, 0, 0), (2182, .ifCond .eq 5, 3, 2187, 0, 0, 0), (2185, .iconst 0, 1, 0, 0, 0, 0), (2186, .ireturn, 1, 0, 0, 0, 0), (2187, .goto 343, 3, 2530, 0, 0, 0), (2190, .aload_n 1, 1, 0, 0, 0, 0), (2191, .aload_n 0, 1, 0, 0, 0, 0)],
  [(2192, .iload 4, 2, 0, 0, 0, 0), (2194, .iconst 1, 1, 0, 0, 0, 0), (2195, .iadd, 1, 0, 0, 0, 0), (2196, .iaload, 1, 0, 0, 0, 0), (2197, .aload_n 3, 1, 0, 0, 0, 0), (2198, .invokestatic 243, 3, 298, 3, 2, 1561), (2201, .istore 5, 2, 0, 0, 0, 0), (2203, .aload_n 2, 1, 0, 0, 0, 0), (2204, .aload_n 0, 1, 0, 0, 0, 0), (2205, .iload 4, 2, 0, 0, 0, 0), (2207, .iconst 1, 1, 0, 0, 0, 0)],
  [(2208, .iadd, 1, 0, 0, 0, 0), (2209, .iaload, 1, 0, 0, 0, 0), (2210, .invokevirtual 245, 3, 254, 2, 110, 2366), (2213, .istore 6, 2, 0, 0, 0, 0), (2215, .aload_n 2, 1, 0, 0, 0, 0), (2216, .invokevirtual 138, 3, 151, 1, 110, 1962), (2219, .iload 5, 2, 0, 0, 0, 0), (2221, .if_icmp .eq 5, 3, 2226, 0, 0, 0)],
  [(2224, .iconst 0, 1, 0, 0, 0, 0), (2225, .ireturn, 1, 0, 0, 0, 0), (2226, .iload 5, 2, 0, 0, 0, 0), (2228, .ifCond .ne 15, 3, 2243, 0, 0, 0), (2231, .aload_n 3, 1, 0, 0, 0, 0), (2232, .iconst 0, 1, 0, 0, 0, 0), (2233, .laload, 1, 0, 0, 0, 0), (2234, .iload 6, 2, 0, 0, 0, 0), (2236, .i2l, 1, 0, 0, 0, 0), (2237, .lcmp, 1, 0, 0, 0, 0), (2238, .ifCond .eq 5, 3, 2243, 0, 0, 0)]]
def ql_L_law_7 : List (List qI) := [[(2241, .iconst 0, 1, 0, 0, 0, 0), (2242, .ireturn, 1, 0, 0, 0, 0), (2243, .goto 287, 3, 2530, 0, 0, 0), (2246, .aload_n 1, 1, 0, 0, 0, 0), (2247, .aload_n 0, 1, 0, 0, 0, 0), (2248, .iload 4, 2, 0, 0, 0, 0), (2250, .iconst 1, 1, 0, 0, 0, 0), (2251, .iadd, 1, 0, 0, 0, 0), (2252, .iaload, 1, 0, 0, 0, 0), (2253, .aload_n 0, 1, 0, 0, 0, 0), (2254, .iload 4, 2, 0, 0, 0, 0)],
  [(2256, .iconst 2, 1, 0, 0, 0, 0), (2257, .iadd, 1, 0, 0, 0, 0), (2258, .iaload, 1, 0, 0, 0, 0), (2259, .aload_n 0, 1, 0, 0, 0, 0), (2260, .iload 4, 2, 0, 0, 0, 0), (2262, .iconst 3, 1, 0, 0, 0, 0), (2263, .iadd, 1, 0, 0, 0, 0), (2264, .iaload, 1, 0, 0, 0, 0), (2265, .ifCond .eq 7, 3, 2272, 0, 0, 0), (2268, .iconst 1, 1, 0, 0, 0, 0), (2269, .goto 4, 3, 2273, 0, 0, 0)],
  [(2272, .iconst 0, 1, 0, 0, 0, 0), (2273, .aload_n 3, 1, 0, 0, 0, 0), (2274, .invokestatic 246, 3, 299, 5, 2, 1568), (2277, .istore 5, 2, 0, 0, 0, 0), (2279, .aload_n 2, 1, 0, 0, 0, 0), (2280, .aload_n 0, 1, 0, 0, 0, 0), (2281, .iload 4, 2, 0, 0, 0, 0), (2283, .iconst 1, 1, 0, 0, 0, 0), (2284, .iadd, 1, 0, 0, 0, 0), (2285, .iaload, 1, 0, 0, 0, 0), (2286, .aload_n 0, 1, 0, 0, 0, 0), (2287, .iload 4, 2, 0, 0, 0, 0)],
  [(2289, .iconst 2, 1, 0, 0, 0, 0), (2290, .iadd, 1, 0, 0, 0, 0), (2291, .iaload, 1, 0, 0, 0, 0), (2292, .aload_n 0, 1, 0, 0, 0, 0), (2293, .iload 4, 2, 0, 0, 0, 0), (2295, .iconst 3, 1, 0, 0, 0, 0), (2296, .iadd, 1, 0, 0, 0, 0), (2297, .iaload, 1, 0, 0, 0, 0), (2298, .ifCond .eq 7, 3, 2305, 0, 0, 0), (2301, .iconst 1, 1, 0, 0, 0, 0), (2302, .goto 4, 3, 2306, 0, 0, 0)],
  [(2305, .iconst 0, 1, 0, 0, 0, 0), (2306, .invokevirtual 249, 3, 255, 4, 110, 2370), (2309, .istore 6, 2, 0, 0, 0, 0), (2311, .aload_n 2, 1, 0, 0, 0, 0), (2312, .invokevirtual 138, 3, 151, 1, 110, 1962), (2315, .iload 5, 2, 0, 0, 0, 0), (2317, .if_icmp .eq 5, 3, 2322, 0, 0, 0)],
  [(2320, .iconst 0, 1, 0, 0, 0, 0), (2321, .ireturn, 1, 0, 0, 0, 0), (2322, .iload 5, 2, 0, 0, 0, 0), (2324, .ifCond .ne 15, 3, 2339, 0, 0, 0), (2327, .aload_n 3, 1, 0, 0, 0, 0), (2328, .iconst 0, 1, 0, 0, 0, 0), (2329, .laload, 1, 0, 0, 0, 0), (2330, .iload 6, 2, 0, 0, 0, 0), (2332, .i2l, 1, 0, 0, 0, 0), (2333, .lcmp, 1, 0, 0, 0, 0), (2334, .ifCond .eq 5, 3, 2339, 0, 0, 0)],
  [(2337, .iconst 0, 1, 0, 0, 0, 0), (2338, .ireturn, 1, 0, 0, 0, 0), (2339, .goto 191, 3, 2530, 0, 0, 0), (2342, .aload_n 1, 1, 0, 0, 0, 0), (2343, .aload_n 3, 1, 0, 0, 0, 0), (2344, .invokestatic 250, 3, 300, 2, 2, 1576), (2347, .istore 5, 2, 0, 0, 0, 0), (2349, .aload_n 2, 1, 0, 0, 0, 0), (2350, .invokevirtual 252, 3, 256, 1, 110, 2374)],
  [(2353, .istore 6, 2, 0, 0, 0, 0), (2355, .aload_n 2, 1, 0, 0, 0, 0), (2356, .invokevirtual 138, 3, 151, 1, 110, 1962), (2359, .iload 5, 2, 0, 0, 0, 0), (2361, .if_icmp .eq 5, 3, 2366, 0, 0, 0), (2364, .iconst 0, 1, 0, 0, 0, 0), (2365, .ireturn, 1, 0, 0, 0, 0), (2366, .iload 5, 2, 0, 0, 0, 0)],
  [(2368, .ifCond .ne 15, 3, 2383, 0, 0, 0), (2371, .aload_n 3, 1, 0, 0, 0, 0), (2372, .iconst 0, 1, 0, 0, 0, 0), (2373, .laload, 1, 0, 0, 0, 0), (2374, .iload 6, 2, 0, 0, 0, 0), (2376, .i2l, 1, 0, 0, 0, 0), (2377, .lcmp, 1, 0, 0, 0, 0), (2378, .ifCond .eq 5, 3, 2383, 0, 0, 0), (2381, .iconst 0, 1, 0, 0, 0, 0), (2382, .ireturn, 1, 0, 0, 0, 0), (2383, .goto 147, 3, 2530, 0, 0, 0)],
  [(2386, .aload_n 1, 1, 0, 0, 0, 0), (2387, .aload_n 0, 1, 0, 0, 0, 0), (2388, .iload 4, 2, 0, 0, 0, 0), (2390, .iconst 1, 1, 0, 0, 0, 0), (2391, .iadd, 1, 0, 0, 0, 0), (2392, .iaload, 1, 0, 0, 0, 0), (2393, .aload_n 3, 1, 0, 0, 0, 0), (2394, .invokestatic 253, 3, 301, 3, 2, 1583), (2397, .istore 5, 2, 0, 0, 0, 0), (2399, .aload_n 2, 1, 0, 0, 0, 0)],
  [(2400, .aload_n 0, 1, 0, 0, 0, 0), (2401, .iload 4, 2, 0, 0, 0, 0), (2403, .iconst 1, 1, 0, 0, 0, 0), (2404, .iadd, 1, 0, 0, 0, 0), (2405, .iaload, 1, 0, 0, 0, 0), (2406, .invokevirtual 255, 3, 257, 2, 110, 2378), (2409, .istore 6, 2, 0, 0, 0, 0), (2411, .aload_n 2, 1, 0, 0, 0, 0), (2412, .invokevirtual 138, 3, 151, 1, 110, 1962), (2415, .iload 5, 2, 0, 0, 0, 0)],
  [(2417, .if_icmp .eq 5, 3, 2422, 0, 0, 0), (2420, .iconst 0, 1, 0, 0, 0, 0), (2421, .ireturn, 1, 0, 0, 0, 0), (2422, .iload 5, 2, 0, 0, 0, 0), (2424, .ifCond .ne 15, 3, 2439, 0, 0, 0), (2427, .aload_n 3, 1, 0, 0, 0, 0), (2428, .iconst 0, 1, 0, 0, 0, 0), (2429, .laload, 1, 0, 0, 0, 0), (2430, .iload 6, 2, 0, 0, 0, 0)],
  [(2432, .i2l, 1, 0, 0, 0, 0), (2433, .lcmp, 1, 0, 0, 0, 0), (2434, .ifCond .eq 5, 3, 2439, 0, 0, 0), (2437, .iconst 0, 1, 0, 0, 0, 0), (2438, .ireturn, 1, 0, 0, 0, 0), (2439, .goto 91, 3, 2530, 0, 0, 0), (2442, .aload_n 1, 1, 0, 0, 0, 0), (2443, .aload_n 3, 1, 0, 0, 0, 0), (2444, .invokestatic 256, 3, 302, 2, 2, 1599), (2447, .istore 5, 2, 0, 0, 0, 0)],
  [(2449, .aload_n 2, 1, 0, 0, 0, 0), (2450, .invokevirtual 258, 3, 258, 1, 110, 2382), (2453, .istore 6, 2, 0, 0, 0, 0), (2455, .aload_n 2, 1, 0, 0, 0, 0), (2456, .invokevirtual 138, 3, 151, 1, 110, 1962), (2459, .iload 5, 2, 0, 0, 0, 0), (2461, .if_icmp .eq 5, 3, 2466, 0, 0, 0)],
  [(2464, .iconst 0, 1, 0, 0, 0, 0), (2465, .ireturn, 1, 0, 0, 0, 0), (2466, .iload 5, 2, 0, 0, 0, 0), (2468, .ifCond .ne 15, 3, 2483, 0, 0, 0), (2471, .aload_n 3, 1, 0, 0, 0, 0), (2472, .iconst 0, 1, 0, 0, 0, 0), (2473, .laload, 1, 0, 0, 0, 0), (2474, .iload 6, 2, 0, 0, 0, 0), (2476, .i2l, 1, 0, 0, 0, 0), (2477, .lcmp, 1, 0, 0, 0, 0), (2478, .ifCond .eq 5, 3, 2483, 0, 0, 0)],
  [(2481, .iconst 0, 1, 0, 0, 0, 0), (2482, .ireturn, 1, 0, 0, 0, 0), (2483, .goto 47, 3, 2530, 0, 0, 0), (2486, .aload_n 1, 1, 0, 0, 0, 0), (2487, .aload_n 3, 1, 0, 0, 0, 0), (2488, .invokestatic 259, 3, 303, 2, 2, 1609), (2491, .istore 5, 2, 0, 0, 0, 0), (2493, .aload_n 2, 1, 0, 0, 0, 0), (2494, .invokevirtual 261, 3, 263, 1, 110, 2386)],
  [(2497, .istore 6, 2, 0, 0, 0, 0), (2499, .aload_n 2, 1, 0, 0, 0, 0), (2500, .invokevirtual 138, 3, 151, 1, 110, 1962), (2503, .iload 5, 2, 0, 0, 0, 0), (2505, .if_icmp .eq 5, 3, 2510, 0, 0, 0), (2508, .iconst 0, 1, 0, 0, 0, 0), (2509, .ireturn, 1, 0, 0, 0, 0), (2510, .iload 5, 2, 0, 0, 0, 0)],
  [(2512, .ifCond .ne 15, 3, 2527, 0, 0, 0), (2515, .aload_n 3, 1, 0, 0, 0, 0), (2516, .iconst 0, 1, 0, 0, 0, 0), (2517, .laload, 1, 0, 0, 0, 0), (2518, .iload 6, 2, 0, 0, 0, 0), (2520, .i2l, 1, 0, 0, 0, 0), (2521, .lcmp, 1, 0, 0, 0, 0), (2522, .ifCond .eq 5, 3, 2527, 0, 0, 0), (2525, .iconst 0, 1, 0, 0, 0, 0), (2526, .ireturn, 1, 0, 0, 0, 0), (2527, .goto 3, 3, 2530, 0, 0, 0)],
  [(2530, .iinc 4 4, 3, 0, 0, 0, 0), (2533, .goto (-2510), 3, 23, 0, 0, 0), (2536, .iconst 1, 1, 0, 0, 0, 0), (2537, .ireturn, 1, 0, 0, 0, 0)]]
def qc_L_law : qCd := (ql_L_law_0 ++ (ql_L_law_1 ++ (ql_L_law_2 ++ (ql_L_law_3 ++ (ql_L_law_4 ++ (ql_L_law_5 ++ (ql_L_law_6 ++ (ql_L_law_7))))))), [], 2, 7)
def qPl_0 : List qCd := [qc_X0_init, qc_X0_renew, qc_X0_chooseLine, qc_X0_costOfLine, qc_X0_writeLines, qc_X1_init, qc_X1_wordsBut, qc_X1_sumBut, qc_X1_labelsBut, qc_X1_heads, qc_X2_init, qc_X2_makeRounds, qc_X2_takeWidest, qc_X2_itemOf, qc_X2_listChanging, qc_X2_listWord, qc_X2_hasMadeRound, qc_X2_breakParagraphs, qc_X2_beginChapter, qc_X2_keepPages, qc_X2_readPages, qc_X2_readPage, qc_X2_textFor, qc_X2_findWidths, qc_X2_roundThatTook, qc_X3_init, qc_X3_begin, qc_X3_kindAt, qc_X3_runningHead, qc_X3_hasSameItem, qc_X3_hasSameRow, qc_X3_hasSamePage, qc_X3_hasSameRows, qc_X3_hasSameTexts, qc_X3_hasSameFloats, qc_X3_hasSameNotes, qc_X3_hasSamePiece, qc_X4_init, qc_X4_collect, qc_X4_addEntry]
def qPl_1 : List qCd := [qc_X4_setLines, qc_X4_pageWith, qc_X4_columnOf, qc_X5_init, qc_X5_addWord, qc_X5_takeWords, qc_X5_takeHead, qc_X5_widthAt, qc_X5_sumOf, qc_X5_labels, qc_X5_isBroken, qc_X6_init, qc_X6_putAll, qc_X6_putOver, qc_X6_putPage, qc_X6_putOne, qc_X7_init, qc_X7_begin, qc_X7_isPage, qc_X7_mostFloats, qc_X7_costBehind, qc_X7_aheadOfNext, qc_X7_placeAt, qc_X7_floatsAt, qc_X7_notesAt, qc_X7_fillBare, qc_X7_barePages, qc_X7_hasAdded, qc_X7_aheadOf, qc_X7_hasMadeRest, qc_X7_reachBehind, qc_X7_weighEnds, qc_X7_weigh, qc_X7_weighPage, qc_X7_weighWay, qc_X7_addChosen, qc_X7_addBare, qc_X7_leastByAll, qc_X7_leastFrom, qc_X8_init]
def qPl_2 : List qCd := [qc_X8_begin, qc_X8_addPage, qc_X8_rowsBefore, qc_X8_floatsBefore, qc_X8_notesBefore, qc_X8_pageWith, qc_X8_tell, qc_X9_init, qc_X9_collect, qc_X9_addRow, qc_X9_addWord, qc_X9_lateHeadBy, qc_X9_hasBlankAhead, qc_X9_floatHigh, qc_X10_init, qc_X10_setMeasures, qc_X10_setByPage, qc_X10_word, qc_X10_refer, qc_X10_clear, qc_X10_paragraph, qc_X10_head, qc_X10_replace, qc_X10_seeAlso, qc_X10_compose, qc_X10_print, qc_X10_isComposed, qc_X10_items, qc_X10_words, qc_X10_widthOf, qc_X10_lines, qc_X10_wordsTo, qc_X10_costOfLines, qc_X10_rows, qc_X10_broken, qc_X10_pages, qc_X10_kindOf, qc_X10_pageOf, qc_X10_pageOfRow, qc_X10_onPage]
def qPl_3 : List qCd := [qc_X10_cost, qc_X10_costByAll, qc_X10_isSettled, qc_X10_textOf, qc_X10_noteOf, qc_X10_headOf, qc_X10_marginOf, qc_X10_ranges, qc_X10_range, qc_X10_indexLines, qc_X10_indexLine, qc_X10_sheets, qc_X10_untouched, qc_X10_checkChapter, qc_X10_checkedItem, qc_X10_checkWord, qc_X10_checkTerm, qc_X10_checkPage, qc_X10_checkMade, qc_X10_draftWord, qc_X10_addItem, qc_X10_isDraftFit, qc_X10_hasLabelTwice, qc_X10_isUntouched, qc_X10_sheetsFor, qc_X10_isName, qc_X10_isValue, qc_X10_wordId, qc_X10_digitsOf, qc_X10_widthOfText, qc_X11_init, qc_X11_thrown, qc_X11_in, qc_X11_least, qc_X11_digits, qc_X11_isChapter, qc_X11_isItem, qc_X11_isWord, qc_X11_idOf, qc_X11_setMeasures]
def qPl_4 : List qCd := [qc_X11_setByPage, qc_X11_isValue, qc_X11_drafts, qc_X11_word, qc_X11_refer, qc_X11_clear, qc_X11_sumOf, qc_X11_sumOfDraft, qc_X11_isLabelTaken, qc_X11_canTake, qc_X11_lays, qc_X11_paragraph, qc_X11_head, qc_X11_replace, qc_X11_seeAlso, qc_X11_wide, qc_X11_isBrokenSo, qc_X11_costOfLine, qc_X11_breaks, qc_X11_addsRow, qc_X11_laysRows, qc_X11_laysSums, qc_X11_heightOf, qc_X11_costOfEnds, qc_X11_haveRoomBelow, qc_X11_tries, qc_X11_manyBare, qc_X11_stateOf, qc_X11_isOdd, qc_X11_placedAt, qc_X11_shownAt, qc_X11_behind, qc_X11_mostFloats, qc_X11_goesThrough, qc_X11_leastFrom, qc_X11_addsPage, qc_X11_addsBare, qc_X11_addsTried, qc_X11_triesAt, qc_X11_addsBest]
def qPl_5 : List qCd := [qc_X11_isRowSame, qc_X11_addsKept, qc_X11_makes, qc_X11_heads, qc_X11_makesRound, qc_X11_isThere, qc_X11_pageOfWord, qc_X11_wordWith, qc_X11_textAt, qc_X11_wideAs, qc_X11_numberAt, qc_X11_begin, qc_X11_finds, qc_X11_roundThatTook, qc_X11_takesWidest, qc_X11_composes, qc_X11_compose, qc_X11_print, qc_X11_toldOf, qc_X11_printsWords, qc_X11_printsPages, qc_X11_isComposed, qc_X11_items, qc_X11_words, qc_X11_asksWord, qc_X11_widthOf, qc_X11_asksItem, qc_X11_linesOf, qc_X11_lines, qc_X11_wordsTo, qc_X11_costOfLines, qc_X11_asksChapter, qc_X11_rows, qc_X11_asks, qc_X11_broken, qc_X11_pages, qc_X11_asksPage, qc_X11_kindOf, qc_X11_pageOf, qc_X11_pageOfRow]
def qPl_6 : List qCd := [qc_X11_onPage, qc_X11_cost, qc_X11_costByAll, qc_X11_isSettled, qc_X11_textOf, qc_X11_noteOf, qc_X11_headOf, qc_X11_placeOf, qc_X11_puts, qc_X11_putsAll, qc_X11_marginOf, qc_X11_laysTerm, qc_X11_manyRanges, qc_X11_manyIndexLines, qc_X11_ranges, qc_X11_range, qc_X11_indexLines, qc_X11_indexLine, qc_X11_sheets, qc_X11_isWordSame, qc_X11_areRowsSame, qc_X11_areFloatsSame, qc_X11_isPageSame, qc_X11_untouched, qc_J9_max_7cf53, qc_J9_min_7cf53, qc_J7_rangeCheck_23922, qc_J7_fill_53178, qc_J7_fill_fda19, qc_L_setMeasures, qc_L_word, qc_L_refer, qc_L_paragraph, qc_L_head, qc_L_replace, qc_L_seeAlso, qc_L_compose, qc_L_print, qc_L_items, qc_L_words]
def qPl_7 : List qCd := [qc_L_widthOf, qc_L_lines, qc_L_wordsTo, qc_L_costOfLines, qc_L_rows, qc_L_broken, qc_L_pages, qc_L_kindOf, qc_L_pageOf, qc_L_pageOfRow, qc_L_onPage, qc_L_cost, qc_L_costByAll, qc_L_isSettled, qc_L_textOf, qc_L_noteOf, qc_L_headOf, qc_L_marginOf, qc_L_ranges, qc_L_range, qc_L_indexLines, qc_L_indexLine, qc_L_sheets, qc_L_untouched]
def qPl : List qCd := qPl_0 ++ (qPl_1 ++ (qPl_2 ++ (qPl_3 ++ (qPl_4 ++ (qPl_5 ++ (qPl_6 ++ (qPl_7)))))))
def qP (m : Nat) : qCd := qPl.getD m ([], [], 0, 0)
end
section
/-! ===== what the small machine's memory is in the heap ===== -/
def qCls : List vw_C := [(RX0, TX0, 3), (RX1, TX1, 2), (RX2, TX2, 11), (RX3, TX3, 12), (RX4, TX4, 6), (RX5, TX5, 13), (RX6, TX6, 6), (RX7, TX7, 13), (RX8, TX8, 9), (RX9, TX9, 18), (RX10, TX10, 15), (RX11, TX11, 102)]
/-- the array classes that there are -/
def qTy (cA : Nat → ClassId) : List (ClassId × FieldType) := [(cA 0, .int), (cA 1, .boolean), (cA 2, .long), (cA 3, .object RX1), (cA 4, .object RX5), (cA 5, .object RX8), (cA 6, .object RX9), (cA 7, .array .int)]
def qTi (k : Nat) : Nat := if k = 1 then 3 else if k = 5 then 4 else if k = 8 then 5 else if k = 9 then 6 else 7
abbrev qA : Type := Nat → Int → Nat
def qFV (ad : qA) (σ : qS) (k : Nat) (n : Int) (f : qFT) (s : Nat) : Value := match f with
  | (0, _, _) => .int (Int32.ofInt (σ.2 k n s))
  | (1, _, _) => .int (Int32.ofInt (σ.2 k n s))
  | (2, k', d) => if σ.1.2.1 k n s = true then .ref (ad k' (n + d)) else .null
  | (3, k', d) => va_rf ((qDec k' d.toNat (σ.2 k n s)).map (fun q => ad q.1 q.2))
  | _ => .null
def qFs (ad : qA) (σ : qS) (k : Nat) (n : Int) (fs : List qFT) : List Value := (List.range fs.length).map (fun s => qFV ad σ k n (fs.getD s (9, 0, 0)) s)
def qRf (ad : qA) (σ : qS) (k : Nat) (n len : Int) (k2 : Nat) (p q : Int) (j : Nat) : Option Nat := if (j : Int) < len ∧ σ.1.2.1 k n j = true then some (ad k2 (p + q * n + j)) else none
def qEnt (T : qT) (cA : Nat → ClassId) (ad : qA) (σ : qS) (k : Nat) (n : Int) : va_E := match qKd T k with
  | (0, ci, _, _, _) => .inr (ci.toNat, qFs ad σ k n (T.2.getD ci.toNat []))
  | (1, len, _, _, _) => .inl (cA 0, len.toNat, .inl (fun j => Int32.ofInt (σ.2 k n j)))
  | (2, len, _, _, _) => .inl (cA 1, len.toNat, .inl (fun j => Int32.ofInt (σ.2 k n j)))
  | (3, len, _, _, _) => .inl (cA 2, len.toNat, .inr (.inl (fun j => Int64.ofInt (σ.2 k n j))))
  | (4, len, k2, p, q) => .inl (cA (qTi k2), len.toNat, .inr (.inr (.inr (.inr (qRf ad σ k n len k2 p q)))))
  | _ => .inl (cA 7, 0, .inl (fun _ => 0))
def qWs (T : qT) (cA : Nat → ClassId) (ad : qA) (σ : qS) (objs : List (Nat × Int)) : va_W := objs.map (fun q => (ad q.1 q.2, qEnt T cA ad σ q.1 q.2))
/-- there is such an object -/
def qVa (σ : qS) (k : Nat) (n : Int) : Prop := 0 ≤ n ∧ n < σ.1.1 k
/-- what holds of the memory by itself -/
def qOK (T : qT) (σ : qS) (objs : List (Nat × Int)) : Prop :=
  (∀ (k : Nat) (n : Int), (k, n) ∈ objs ↔ qVa σ k n) ∧ (∀ (k : Nat) (n s : Int), qIn (σ.2 k n s)) ∧
  (∀ (k : Nat) (n : Int) (s k' : Nat) (d : Int), qVa σ k n → (qKd T k).1 = 0 → qFd T (qKd T k).2.1.toNat s = (2, k', d) → σ.1.2.1 k n s = true → qVa σ k' (n + d)) ∧
  (∀ (k : Nat) (n : Int) (s k' : Nat) (d : Int), qVa σ k n → (qKd T k).1 = 0 → qFd T (qKd T k).2.1.toNat s = (3, k', d) → ∀ q : Nat × Int, qDec k' d.toNat (σ.2 k n s) = some q → qVa σ q.1 q.2) ∧
  (∀ (k : Nat) (n len : Int) (k2 : Nat) (p q : Int) (j : Int), qVa σ k n → qKd T k = (4, len, k2, p, q) → 0 ≤ j → j < len → σ.1.2.1 k n j = true → qVa σ k2 (p + q * n + j))
def qVo (σ : qS) (v : qV) : Prop := match v with
  | .inl x => qIn x
  | .inr (.inl none) => True
  | .inr (.inl (some (k, n))) => qVa σ k n
  | .inr (.inr (.inl x)) => qIn x
  | .inr (.inr (.inr _)) => True
def qVl (ad : qA) (b : Nat) (v : qV) : Value := match v with
  | .inl x => .int (Int32.ofInt x)
  | .inr (.inl none) => .null
  | .inr (.inl (some (k, n))) => .ref (ad k n)
  | .inr (.inr (.inl x)) => .long (Int64.ofInt x)
  | .inr (.inr (.inr true)) => .ref b
  | .inr (.inr (.inr false)) => .null
/-- addresses of what there was stay -/
def qAg (σ : qS) (ad ad' : qA) : Prop := ∀ (k : Nat) (n : Int), qVa σ k n → ad' k n = ad k n
theorem qi_int {x : Int} (h : qIn x) : (Int32.ofInt x).toInt = x := Int32.toInt_ofInt_of_le h.1 (by have := h.2; omega)
theorem qi_eq {x : Int} {y : Int32} (h : y.toInt = x) : Int32.ofInt x = y := by
  rw [← h, Int32.ofInt_toInt]
theorem qi_lng {x : Int} (h : qIn x) : (Int64.ofInt x).toInt = x := Int64.toInt_ofInt_of_le (by have := h.1; omega) (by have := h.2; omega)
theorem qi_nat {x : Int} (h : qIn x) (h0 : 0 ≤ x) : (Int32.ofInt x).toNatClampNeg = x.toNat := by
  have := qi_int h
  simp [Int32.toNatClampNeg, this]
theorem qi_vp {x len : Int} (h : qIn x) (h0 : 0 ≤ x) (h1 : x < len) : vp_in (Int32.ofInt x) len.toNat := by
  rw [vp_in_iff, qi_int h]
  omega
theorem q_at {objs : List (Nat × Int)} {k : Nat} {n : Int} (h : (k, n) ∈ objs) : ∃ p : Nat, objs[p]? = some (k, n) := List.getElem?_of_mem h
theorem qWs_at {T : qT} {cA : Nat → ClassId} {ad : qA} {σ : qS} {objs : List (Nat × Int)} {p k : Nat} {n : Int} (h : objs[p]? = some (k, n)) : (qWs T cA ad σ objs)[p]? = some (ad k n, qEnt T cA ad σ k n) := by
  simp [qWs, List.getElem?_map, h]
/-- each object stands once -/
theorem q_once {T : qT} {cA : Nat → ClassId} {ad : qA} {σ : qS} {objs : List (Nat × Int)} {A : Nat → Prop} (hD : va_D A (qWs T cA ad σ objs)) {i j : Nat} {q : Nat × Int} (h1 : objs[i]? = some q) (h2 : objs[j]? = some q) : i = j :=
  hD.1 i j _ _ (qWs_at (k := q.1) (n := q.2) h1) (qWs_at (k := q.1) (n := q.2) h2) rfl
theorem q_inj {T : qT} {cA : Nat → ClassId} {ad : qA} {σ : qS} {objs : List (Nat × Int)} {A : Nat → Prop} (hD : va_D A (qWs T cA ad σ objs)) {k k2 : Nat} {n n2 : Int} (h1 : (k, n) ∈ objs) (h2 : (k2, n2) ∈ objs) (h : ad k n = ad k2 n2) : k = k2 ∧ n = n2 := by
  obtain ⟨i, hi⟩ := q_at h1
  obtain ⟨j, hj⟩ := q_at h2
  have e := hD.1 i j _ _ (qWs_at hi) (qWs_at hj) h
  subst e
  rw [hi] at hj
  simpa using hj
theorem qWs_set {T : qT} {cA : Nat → ClassId} {ad : qA} {σ σ' : qS} {objs : List (Nat × Int)} {A : Nat → Prop} (hD : va_D A (qWs T cA ad σ objs)) {p k : Nat} {n : Int} {e : va_E} (hp : objs[p]? = some (k, n)) (he : qEnt T cA ad σ' k n = e) (ho : ∀ (k2 : Nat) (n2 : Int), (k2, n2) ∈ objs → ¬ (k2 = k ∧ n2 = n) → qEnt T cA ad σ' k2 n2 = qEnt T cA ad σ k2 n2) :
    (qWs T cA ad σ objs).set p (ad k n, e) = qWs T cA ad σ' objs := by
  apply List.ext_getElem?
  intro i
  have hl : p < objs.length := (List.getElem?_eq_some_iff.mp hp).1
  by_cases hi : i = p
  · subst hi
    rw [List.getElem?_set_self (by simp [qWs]; exact hl), qWs_at hp, he]
  · rw [List.getElem?_set_ne (Ne.symm hi)]
    cases hq : objs[i]? with
    | none => simp [qWs, List.getElem?_map, hq]
    | some q =>
      obtain ⟨k2, n2⟩ := q
      rw [qWs_at hq, qWs_at hq, ho k2 n2 (List.mem_of_getElem? hq)]
      rintro ⟨rfl, rfl⟩
      exact hi (q_once hD hq hp)
theorem qWs_congr {T : qT} {cA : Nat → ClassId} {ad ad' : qA} {σ σ' : qS} {objs : List (Nat × Int)} (h : ∀ (k : Nat) (n : Int), (k, n) ∈ objs → ad k n = ad' k n ∧ qEnt T cA ad σ k n = qEnt T cA ad' σ' k n) : qWs T cA ad σ objs = qWs T cA ad' σ' objs := by
  unfold qWs
  apply List.map_congr_left
  intro q hq
  obtain ⟨h1, h2⟩ := h q.1 q.2 hq
  rw [h1, h2]
theorem qEnt_ag {T : qT} {cA : Nat → ClassId} {ad ad' : qA} {σ : qS} {objs : List (Nat × Int)} (hO : qOK T σ objs) (hA : qAg σ ad ad') {k : Nat} {n : Int} (hv : qVa σ k n) : qEnt T cA ad σ k n = qEnt T cA ad' σ k n := by
  obtain ⟨h1, h2, h3, h4, h5⟩ := hO
  unfold qEnt
  rcases hk : qKd T k with ⟨t, len, k2, p, q⟩
  have hk0 : (qKd T k).1 = t := by rw [hk]
  have hk1 : (qKd T k).2.1 = len := by rw [hk]
  match t, hk, hk0 with
  | 0, hk, hk0 =>
    simp only
    congr 2
    unfold qFs
    apply List.map_congr_left
    intro s hs
    have g3 := h3 k n s
    have g4 := h4 k n s
    rw [hk1] at g3 g4
    unfold qFd at g3 g4
    rcases hf : (T.2.getD len.toNat []).getD s (9, 0, 0) with ⟨m, k', d⟩
    rw [hf] at g3 g4
    match m, hf with
    | 0, hf => rfl
    | 1, hf => rfl
    | 2, hf =>
      simp only [qFV]
      by_cases hi : σ.1.2.1 k n s = true
      · rw [if_pos hi, if_pos hi, hA _ _ (g3 k' d hv hk0 rfl hi)]
      · rw [if_neg hi, if_neg hi]
    | 3, hf =>
      simp only [qFV]
      cases hd : qDec k' d.toNat (σ.2 k n s) with
      | none => rfl
      | some w => simp [hA _ _ (g4 k' d hv hk0 rfl w hd)]
    | m + 4, hf => rfl
  | 1, hk, hk0 => rfl
  | 2, hk, hk0 => rfl
  | 3, hk, hk0 => rfl
  | 4, hk, hk0 =>
    have e : qRf ad σ k n len k2 p q = qRf ad' σ k n len k2 p q := by
      funext j
      unfold qRf
      by_cases hi : (j : Int) < len ∧ σ.1.2.1 k n j = true
      · rw [if_pos hi, if_pos hi, hA _ _ (h5 k n len k2 p q j hv hk (Int.natCast_nonneg j) hi.1 hi.2)]
      · rw [if_neg hi, if_neg hi]
    simp only [e]
  | t + 5, hk, hk0 => rfl
/-! what a write leaves -/
theorem qEnt_setI {T : qT} {cA : Nat → ClassId} {ad : qA} {σ : qS} {k : Nat} {n s x : Int} {k2 : Nat} {n2 : Int} (h : ¬ (k2 = k ∧ n2 = n)) : qEnt T cA ad (qSetI σ k n s x) k2 n2 = qEnt T cA ad σ k2 n2 := by
  have e : ∀ z, (qSetI σ k n s x).2 k2 n2 z = σ.2 k2 n2 z := fun z => by
    simp only [qSetI, qU]
    rw [if_neg (fun q => h ⟨q.1, q.2.1⟩)]
  have e1 : (qSetI σ k n s x).1 = σ.1 := rfl
  unfold qEnt
  rcases qKd T k2 with ⟨t, len, a, b, c⟩
  match t with
  | 0 =>
    simp only
    congr 2
    unfold qFs
    apply List.map_congr_left
    intro z _
    rcases (T.2.getD len.toNat []).getD z (9, 0, 0) with ⟨m, k', d⟩
    match m with
    | 0 => simp only [qFV, e]
    | 1 => simp only [qFV, e]
    | 2 => simp only [qFV, e1]
    | 3 => simp only [qFV, e]
    | m + 4 => rfl
  | 1 => simp only [e]
  | 2 => simp only [e]
  | 3 => simp only [e]
  | 4 => rfl
  | t + 5 => rfl
theorem qEnt_setR {T : qT} {cA : Nat → ClassId} {ad : qA} {σ : qS} {k : Nat} {n s : Int} {k2 : Nat} {n2 : Int} (h : ¬ (k2 = k ∧ n2 = n)) : qEnt T cA ad (qSetR σ k n s) k2 n2 = qEnt T cA ad σ k2 n2 := by
  have e : ∀ z, (qSetR σ k n s).1.2.1 k2 n2 z = σ.1.2.1 k2 n2 z := fun z => by
    simp only [qSetR, qUB]
    rw [if_neg (fun q => h ⟨q.1, q.2.1⟩)]
  have e1 : (qSetR σ k n s).2 = σ.2 := rfl
  unfold qEnt
  rcases qKd T k2 with ⟨t, len, a, b, c⟩
  match t with
  | 0 =>
    simp only
    congr 2
    unfold qFs
    apply List.map_congr_left
    intro z _
    rcases (T.2.getD len.toNat []).getD z (9, 0, 0) with ⟨m, k', d⟩
    match m with
    | 0 => simp only [qFV, e1]
    | 1 => simp only [qFV, e1]
    | 2 => simp only [qFV, e]
    | 3 => simp only [qFV, e1]
    | m + 4 => rfl
  | 1 => rfl
  | 2 => rfl
  | 3 => rfl
  | 4 =>
    have e2 : qRf ad (qSetR σ k n s) k2 n2 len a b c = qRf ad σ k2 n2 len a b c := by
      funext j
      unfold qRf
      rw [e]
    simp only [e2]
  | t + 5 => rfl
theorem qVa_setI {σ : qS} {k : Nat} {n s x : Int} : qVa (qSetI σ k n s x) = qVa σ := rfl
theorem qVa_setR {σ : qS} {k : Nat} {n s : Int} : qVa (qSetR σ k n s) = qVa σ := rfl
/-- a number is written: not into a reference that may change, unless it stands for an object -/
theorem qOK_setI {T : qT} {σ : qS} {objs : List (Nat × Int)} (hO : qOK T σ objs) {k : Nat} {n s x : Int} (hx : qIn x) (hq : ∀ (s' k' : Nat) (d : Int), (qKd T k).1 = 0 → qFd T (qKd T k).2.1.toNat s' = (3, k', d) → s = s' → ∀ q : Nat × Int, qDec k' d.toNat x = some q → qVa σ q.1 q.2) : qOK T (qSetI σ k n s x) objs := by
  obtain ⟨h1, h2, h3, h4, h5⟩ := hO
  refine ⟨h1, fun k2 n2 s2 => ?_, h3, fun k2 n2 s2 k' d hv hk hf q hd => ?_, h5⟩
  · simp only [qSetI, qU]
    by_cases e : k2 = k ∧ n2 = n ∧ s2 = s
    · rw [if_pos e]; exact hx
    · rw [if_neg e]; exact h2 k2 n2 s2
  · simp only [qSetI, qU] at hd
    by_cases e : k2 = k ∧ n2 = n ∧ (s2 : Int) = s
    · rw [if_pos e] at hd
      obtain ⟨rfl, rfl, e3⟩ := e
      exact hq s2 k' d hk hf e3.symm q hd
    · rw [if_neg e] at hd
      exact h4 k2 n2 s2 k' d hv hk hf q hd
/-- a reference that never changes is set -/
theorem qOK_setR {T : qT} {σ : qS} {objs : List (Nat × Int)} (hO : qOK T σ objs) {k : Nat} {n s : Int} (hf : ∀ (s' k' : Nat) (d : Int), (qKd T k).1 = 0 → qFd T (qKd T k).2.1.toNat s' = (2, k', d) → s = s' → qVa σ k' (n + d)) (ha : ∀ (len : Int) (k2 : Nat) (p q : Int), qKd T k = (4, len, k2, p, q) → qVa σ k2 (p + q * n + s)) : qOK T (qSetR σ k n s) objs := by
  obtain ⟨h1, h2, h3, h4, h5⟩ := hO
  refine ⟨h1, h2, fun k2 n2 s2 k' d hv hk hff hi => ?_, h4, fun k2 n2 len k' p q j hv hk h0 hl hi => ?_⟩
  · simp only [qSetR, qUB] at hi
    by_cases e : k2 = k ∧ n2 = n ∧ (s2 : Int) = s
    · obtain ⟨rfl, rfl, e3⟩ := e
      exact hf s2 k' d hk hff e3.symm
    · rw [if_neg e] at hi
      exact h3 k2 n2 s2 k' d hv hk hff hi
  · simp only [qSetR, qUB] at hi
    by_cases e : k2 = k ∧ n2 = n ∧ j = s
    · obtain ⟨rfl, rfl, rfl⟩ := e
      exact ha len k' p q hk
    · rw [if_neg e] at hi
      exact h5 k2 n2 len k' p q j hv hk h0 hl hi
end
